/-! ===== net and splice, the reference ===== -/
theorem pop_pos : ∀ s, s < 1024 → s ≠ 0 → 1 ≤ pop s := by decide +kernel
theorem bit2 {s a b : Nat} : ((s >>> a &&& s >>> b) &&& 1 = 1) ↔ (s.testBit a = true ∧ s.testBit b = true) := by
  have h : ((s >>> a &&& s >>> b) &&& 1 = 1) ↔ (s >>> a &&& s >>> b).testBit 0 = true := by
    rw [Nat.testBit_zero, Nat.and_one_is_mod, decide_eq_true_eq]
  rw [h, Nat.testBit_and, Nat.testBit_shiftRight, Nat.testBit_shiftRight, Nat.add_zero, Nat.add_zero, Bool.and_eq_true]
section MNET
variable {G : aG} {μ : aMem} {X : aX}
theorem r_X7_treeOf (hd : xD X) (hmd : mD μ X) (h55 : rp (μ.1 55) (srt (X 3) (X 0 0)) (X 0 0)) {s : Nat} (hs : s < 1024) (hp : 1 ≤ pop s) : a_Spec G sX7_treeOf [.ref 36, .int (nI s)] μ (fun v ν => v = some (.int (nI (trV X s))) ∧ ∃ c, ν = (va_up μ.1 56 c, μ.2)) := by
  have hn := hd.1
  have hp10 := pop10 s hs
  obtain ⟨c0, c1, c2, c3, -⟩ := id hmd
  generalize hpo : (fun (v : Option Value) (ν : aMem) => v = some (.int (nI (trV X s))) ∧ ∃ c, ν = (va_up μ.1 56 c, μ.2)) = post
  have hpost : ∀ c, post (some (.int (nI (trV X s)))) (va_up μ.1 56 c, μ.2) := fun c => by rw [← hpo]; exact ⟨rfl, c, rfl⟩
  refine w_X7_treeOf_0 _ (r_X7_ones (by omega) _ ⟨_, rfl, ?_⟩)
  rw [q_sub hp]
  have main := a_for (fun i (c : Nat → Int32) => a_Runs G sX7_treeOf 12 [(0, .ref 36), (1, .int (nI s)), (2, .int (nI (pop s - 1))), (3, .int (nI 0)), (4, .int (nI i))] [] (va_up μ.1 56 c, μ.2) post) (fun i c => rp c (fun p => p) i) 10 ?_ ?_ 0 (μ.1 56) (by omega) (fun k h => by omega)
  · rw [a_self μ 56]; exact main
  · intro c hc
    refine w_X7_treeOf_12 _ _ _ _ ⟨fun _ => ?_, fun h => absurd (by rw [q_le] <;> omega) h⟩
    have main := a_for (fun i (c : Nat → Int32) => a_Runs G sX7_treeOf 37 [(0, .ref 36), (1, .int (nI s)), (2, .int (nI (krs X s i).2.1)), (3, .int (nI (krs X s i).2.2)), (4, .int (nI i))] [] (va_up μ.1 56 c, μ.2) post) (fun i c => rp c (krs X s i).1 10) (X 0 0) ?_ ?_ 0 c (by omega) hc
    · exact main
    · intro c h1
      have hb := krs_in hd s (X 0 0) (Nat.le_refl _)
      refine w_X7_treeOf_37 _ _ _ _ ⟨fun _ => ?_, fun h => absurd (by show μ.1 36 0 ≤ _; rw [c0, q_le] <;> omega) h⟩
      rw [q_le0 (by omega)]
      have hp := hpost c
      unfold trV at hp
      refine ⟨fun h => ?_, fun h => ?_⟩
      · rw [if_pos h] at hp; exact hp
      · rw [if_neg h] at hp; exact hp
    · intro i c hi h1 ih
      have hb := krs_in hd s i (by omega)
      have hsi := srt_in (X 3) (X 0 0) i hi
      have hl := hd.2 _ hsi
      refine w_X7_treeOf_37 _ _ _ _ ⟨fun h => ?_, fun _ => ?_⟩
      · have h : μ.1 36 0 ≤ nI i := h
        rw [c0, q_le (by omega) (by omega)] at h; omega
      rw [q_le0 (by omega)]
      refine ⟨fun h => ⟨fun _ => ?_, fun h' => absurd h h'⟩, fun h => ?_⟩
      · have := krs_stop h (X 0 0 - i)
        rw [show i + (X 0 0 - i) = X 0 0 by omega] at this
        have hp := hpost c
        unfold trV at hp
        rw [this, if_pos h] at hp; exact hp
      · have ek : krs X s (i + 1) = if jn X s (krs X s i).1 (srt (X 3) (X 0 0) i) then (mrg (krs X s i).1 (X 1 (srt (X 3) (X 0 0) i)) (X 2 (srt (X 3) (X 0 0) i)), (krs X s i).2.1 - 1, (krs X s i).2.2 + X 3 (srt (X 3) (X 0 0) i)) else krs X s i := by
          show kst X s _ (krs X s i) = _
          unfold kst; rw [if_neg h]
        have e55 : ((va_up μ.1 56 c, μ.2) : aMem).1 55 i = nI (srt (X 3) (X 0 0) i) := h55 i hi
        have e37 : ((va_up μ.1 56 c, μ.2) : aMem).1 37 (srt (X 3) (X 0 0) i) = nI (X 1 (srt (X 3) (X 0 0) i)) := c1 _ hsi
        have e38 : ((va_up μ.1 56 c, μ.2) : aMem).1 38 (srt (X 3) (X 0 0) i) = nI (X 2 (srt (X 3) (X 0 0) i)) := c2 _ hsi
        have e39 : ∀ c, ((va_up μ.1 56 c, μ.2) : aMem).1 39 (srt (X 3) (X 0 0) i) = nI (X 3 (srt (X 3) (X 0 0) i)) := fun c => c3 _ hsi
        have e56 : ∀ c, ((va_up μ.1 56 c, μ.2) : aMem).1 56 = c := fun c => va_up_self μ.1 56 c
        generalize srt (X 3) (X 0 0) i = d at *
        generalize hσ : krs X s i = σ at *
        have qa := hb.1 _ hl.1
        have qb := hb.1 _ hl.2.1
        have hsh : ∀ k, s >>> k < 1024 := fun k => Nat.lt_of_le_of_lt (by rw [Nat.shiftRight_eq_div_pow]; exact Nat.div_le_self _ _) hs
        have hand : (s >>> X 1 d &&& s >>> X 2 d) &&& 1 < 2 := Nat.lt_of_le_of_lt Nat.and_le_right (by decide)
        rw [q_in (by omega), q_cl (by omega), e55, q_in (by omega), q_cl (by omega), e37, q_in (by omega), q_cl (by omega), e38, q_in (by omega), q_cl (by omega), e56, h1 _ hl.1, h1 _ hl.2.1, q_shr (by omega) (by omega), q_shr (by omega) (by omega), fa_and, fa_and, q_eq (by omega) (by omega), q_eq (by omega) (by omega), bit2, nI_add]
        refine ⟨by omega, by omega, hl.1, by omega, hl.2.1, by omega, by omega, fun hb2 => ?_, fun hb2 => ⟨fun hq => ?_, fun hq => ?_⟩⟩
        · have ej : jn X s σ.1 d = false := by
            unfold jn
            refine Bool.eq_false_iff.mpr (fun hc => hb2 ?_)
            simp only [Bool.and_eq_true] at hc
            exact hc.1
          rw [ej, if_neg (by decide)] at ek
          rw [ek] at ih
          exact ih c h1
        · have ej : jn X s σ.1 d = false := by unfold jn; rw [hb2.1, hb2.2]; simpa using hq
          rw [ej, if_neg (by decide)] at ek
          rw [ek] at ih
          exact ih c h1
        · have ej : jn X s σ.1 d = true := by unfold jn; rw [hb2.1, hb2.2]; simpa using hq
          rw [ej, if_pos rfl] at ek
          rw [ek] at ih
          refine a_for (fun j (c : Nat → Int32) => a_Runs G sX7_treeOf 122 [(0, .ref 36), (1, .int (nI s)), (2, .int (nI σ.2.1)), (3, .int (nI σ.2.2)), (4, .int (nI i)), (5, .int (nI d)), (6, .int (nI (σ.1 (X 1 d)))), (7, .int (nI (σ.1 (X 2 d)))), (8, .int (nI j))] [] (va_up μ.1 56 c, μ.2) post) (fun j c => ∀ p, p < 10 → c p = nI (if p < j then mrg σ.1 (X 1 d) (X 2 d) p else σ.1 p)) 10 ?_ ?_ 0 c (by omega) (fun p hp => by rw [if_neg (by omega)]; exact h1 p hp)
          · intro c hc
            refine w_X7_treeOf_122 _ _ _ _ _ _ _ _ ⟨fun _ => ?_, fun h => absurd (by rw [q_le] <;> omega) h⟩
            rw [q_in (by omega), q_cl (by omega), e39, nI_add, nI_add, q_m1 (by omega)]
            exact ⟨by omega, ih c (fun p hp => by rw [hc p hp, if_pos hp])⟩
          · intro j c hj hc ih2
            have cj := hc j hj
            rw [if_neg (by omega)] at cj
            have qj := hb.1 j hj
            refine w_X7_treeOf_122 _ _ _ _ _ _ _ _ ⟨fun h => ?_, fun _ => ?_⟩
            · rw [q_le (by omega) (by omega)] at h; omega
            rw [q_in (by omega), q_cl (by omega), e56, cj, q_eq (by omega) (by omega), nI_add]
            have same : ∀ p, p ≠ j → (if p < j + 1 then mrg σ.1 (X 1 d) (X 2 d) p else σ.1 p) = (if p < j then mrg σ.1 (X 1 d) (X 2 d) p else σ.1 p) := fun p hp => by
              by_cases h : p < j
              · rw [if_pos h, if_pos (by omega)]
              · rw [if_neg h, if_neg (by omega)]
            have go : ∀ x : Int32, x = nI (mrg σ.1 (X 1 d) (X 2 d) j) → a_Runs G sX7_treeOf 122 [(0, .ref 36), (1, .int (nI s)), (2, .int (nI σ.2.1)), (3, .int (nI σ.2.2)), (4, .int (nI i)), (5, .int (nI d)), (6, .int (nI (σ.1 (X 1 d)))), (7, .int (nI (σ.1 (X 2 d)))), (8, .int (nI (j + 1)))] [] (va_up (va_up μ.1 56 c) 56 (upd c j x), μ.2) post := fun x hx => by
              rw [bx_uu]
              refine ih2 _ (fun p hp => ?_)
              by_cases ep : p = j
              · subst ep; rw [pk_us, if_pos (by omega)]; exact hx
              · rw [pk_un ep, same p ep]; exact hc p hp
            refine ⟨hj, fun h => ⟨hj, hj, go _ ?_⟩, fun h => ⟨hj, go _ ?_⟩⟩
            · unfold mrg; rw [if_neg h]
            · unfold mrg; rw [if_pos h]
  · intro i c hi hc ih
    refine w_X7_treeOf_12 _ _ _ _ ⟨fun h => ?_, fun _ => ?_⟩
    · rw [q_le (by omega) (by omega)] at h; omega
    rw [q_in (by omega), q_cl (by omega), nI_add]
    refine ⟨hi, ?_⟩
    show a_Runs G sX7_treeOf 12 _ [] (va_up (va_up μ.1 56 c) 56 (upd c i (nI i)), μ.2) post
    rw [bx_uu]
    refine ih _ (fun k hk => ?_)
    by_cases ek : k = i
    · rw [ek, pk_us]
    · rw [pk_un ek]; exact hc k (by omega)
theorem r_X7_layTrees (hd : xD X) (hmd : mD μ X) : a_Spec G sX7_layTrees [.ref 36] μ (fun v ν => v = none ∧ a_eqx [54, 55, 56] μ ν ∧ ∀ t, t ≠ 0 → t < 1024 → ν.1 54 t = nI (trV X t)) := by
  have hn := hd.1
  obtain ⟨c0, c1, c2, c3, -⟩ := id hmd
  have hlb : ∀ i, i < X 0 0 → X 3 i < 2 ^ 31 := fun i hi => by have := hd.2 i hi; omega
  generalize hpo : (fun (v : Option Value) (ν : aMem) => v = none ∧ a_eqx [54, 55, 56] μ ν ∧ ∀ t, t ≠ 0 → t < 1024 → ν.1 54 t = nI (trV X t)) = post
  refine w_X7_layTrees_0 ?_
  have main := a_for (fun i (c : Nat → Int32) => a_Runs G sX7_layTrees 2 [(0, .ref 36), (1, .int (nI i))] [] (va_up μ.1 55 c, μ.2) post) (fun i c => rp c (srt (X 3) i) i) (X 0 0) ?_ ?_ 0 (μ.1 55) (by omega) (fun k h => by omega)
  · rw [a_self μ 55]; exact main
  · intro c hc
    refine w_X7_layTrees_2 _ ⟨fun _ => ?_, fun h => absurd (by show μ.1 36 0 ≤ _; rw [c0, q_le] <;> omega) h⟩
    have main := a_for (fun t (N : aMem) => a_Runs G sX7_layTrees 73 [(0, .ref 36), (1, .int (nI t))] [] N post) (fun t N => 1 ≤ t ∧ a_eqx [54, 55, 56] μ N ∧ rp (N.1 55) (srt (X 3) (X 0 0)) (X 0 0) ∧ ∀ u, u ≠ 0 → u < t → N.1 54 u = nI (trV X u)) 1024 ?_ ?_ 1 (va_up μ.1 55 c, μ.2) (by omega) ⟨Nat.le_refl _, a_eqx.u1 μ 55 c (by simp), hc, fun u h h' => by omega⟩
    · exact main
    · rintro N ⟨_, h1, h2, h3⟩
      refine w_X7_layTrees_73 _ ⟨fun _ => ?_, fun h => absurd (by rw [q_le] <;> omega) h⟩
      rw [← hpo]; exact ⟨rfl, h1, h3⟩
    · rintro t N ht ⟨h0, h1, h2, h3⟩ ih
      have hmdN : mD N X := by
        have q : ∀ k, k = 36 ∨ k = 37 ∨ k = 38 ∨ k = 39 ∨ k = 40 → N.1 k = μ.1 k := fun k h => (h1 k (by simp; omega)).1
        unfold mD
        rw [q 36 (by omega), q 37 (by omega), q 38 (by omega), q 39 (by omega), q 40 (by omega)]
        exact hmd
      refine w_X7_layTrees_73 _ ⟨fun h => ?_, fun _ => ?_⟩
      · rw [q_le (by omega) (by omega)] at h; omega
      refine (r_X7_treeOf hd hmdN h2 ht (pop_pos t ht (by omega))).mono ?_
      rintro v ν ⟨rfl, c, rfl⟩
      rw [q_in (by omega), q_cl (by omega), nI_add]
      refine ⟨_, rfl, ht, ih _ ⟨by omega, ((h1.t2 (a_eqx.u1 N 56 c (by simp))).t2 (a_eqx.u1 _ 54 _ (by simp))), h2, fun u hu hu2 => ?_⟩⟩
      show upd (N.1 54) t (nI (trV X t)) u = _
      by_cases eu : u = t
      · rw [eu, pk_us]
      · rw [pk_un eu]; exact h3 u hu (by omega)
  · intro i c hi hc ih
    have e39 : ∀ c k, k < X 0 0 → ((va_up μ.1 55 c, μ.2) : aMem).1 39 k = nI (X 3 k) := fun c k hk => c3 k hk
    have e55 : ∀ c, ((va_up μ.1 55 c, μ.2) : aMem).1 55 = c := fun c => va_up_self μ.1 55 c
    refine w_X7_layTrees_2 _ ⟨fun h => ?_, fun _ => ?_⟩
    · have h : μ.1 36 0 ≤ nI i := h
      rw [c0, q_le (by omega) (by omega)] at h; omega
    have key : ∀ (s : Nat) (f : Nat → Nat) (c : Nat → Int32), s ≤ i → (∀ j, j ≤ i → j ≠ s → c j = nI (f j)) → (∀ j, j ≤ i → j ≠ s → f j < i) → (∀ g, rp g (insS (X 3) i s f) (i + 1) → a_Runs G sX7_layTrees 2 [(0, .ref 36), (1, .int (nI (i + 1)))] [] (va_up μ.1 55 g, μ.2) post) → a_Runs G sX7_layTrees 12 [(0, .ref 36), (1, .int (nI i)), (2, .int (nI s))] [] (va_up μ.1 55 c, μ.2) post := by
      intro s
      induction s with
      | zero =>
        intro f c _ hc hfl hp
        refine w_X7_layTrees_12 _ _ ⟨fun _ => ?_, fun h => absurd (by rw [q_le0] <;> omega) h⟩
        rw [q_in (by omega), q_cl (by omega), e55, nI_add]
        refine ⟨by omega, ?_⟩
        show a_Runs G sX7_layTrees 2 _ [] (va_up (va_up μ.1 55 c) 55 _, μ.2) post
        rw [bx_uu]
        refine hp _ (fun j hj => ?_)
        unfold insS
        by_cases ej : j = 0
        · subst ej; rw [pk_us, upN_s]
        · rw [pk_un ej, upN_n _ _ ej]; exact hc j (by omega) ej
      | succ s ihs =>
        intro f c hs hc hfl hp
        have hfs := hfl s (by omega) (by omega)
        have b1 := hlb (f s) (by omega)
        have b2 := hlb i hi
        refine w_X7_layTrees_12 _ _ ⟨fun h => ?_, fun _ => ?_⟩
        · rw [q_le0 (by omega)] at h; omega
        rw [q_sub (by omega), Nat.add_sub_cancel, q_in (by omega), q_cl (by omega), e55, hc s (by omega) (by omega), q_in (by omega), q_cl (by omega), e39 c _ (by omega), q_in (by omega), q_cl (by omega), e39 c _ hi, q_le (by omega) (by omega), q_in (by omega), q_cl (by omega), q_m1 (by omega), Nat.add_sub_cancel, nI_add]
        refine ⟨by omega, by omega, by omega, fun h => ⟨by omega, ?_⟩, fun h => ⟨by omega, by omega, ?_⟩⟩
        · show a_Runs G sX7_layTrees 2 _ [] (va_up (va_up μ.1 55 c) 55 _, μ.2) post
          rw [bx_uu]
          refine hp _ (fun j hj => ?_)
          unfold insS
          rw [if_neg (by omega)]
          by_cases ej : j = s + 1
          · subst ej; rw [pk_us, upN_s]
          · rw [pk_un ej, upN_n _ _ ej]; exact hc j (by omega) ej
        · show a_Runs G sX7_layTrees 12 _ [] (va_up (va_up μ.1 55 c) 55 _, μ.2) post
          rw [bx_uu]
          refine ihs (upN f (s + 1) (f s)) _ (by omega) (fun j hj hjs => ?_) (fun j hj hjs => ?_) (fun g hg => hp g ?_)
          · by_cases ej : j = s + 1
            · subst ej; rw [pk_us, upN_s]
            · rw [pk_un ej, upN_n _ _ ej]; exact hc j hj ej
          · by_cases ej : j = s + 1
            · subst ej; rw [upN_s]; exact hfs
            · rw [upN_n _ _ ej]; exact hfl j hj ej
          · unfold insS; rw [if_pos (by omega)]; exact hg
    exact key i (srt (X 3) i) c (Nat.le_refl _) (fun j hj hji => hc j (by omega)) (fun j hj hji => srt_in (X 3) i j (by omega)) (fun g hg => ih g hg)
theorem r_X7_leastNet {s : Nat} (hs : s < 1024) (hs0 : s ≠ 0) (h54 : ∀ t, t ≠ 0 → t < 1024 → μ.1 54 t = nI (trV X t)) (hd : xD X) {x : Int32} {c : Nat → Bool} (hx : (x = -9 ∧ c = cS s) ∨ ∃ p, p < 10 ∧ x = nI p ∧ c = cP s p) : a_Ret G sX7_leastNet [.ref 36, .int (nI s), .int x] μ (some (.int (nI (mnF c (trV X) 1024)))) μ := by
  intro post hp
  refine w_X7_leastNet_0 _ _ ?_
  have hlow : ∀ k, k < s → c k = false := fun k hk => by
    have hn : ¬ k &&& s = s := fun h => by have : k &&& s ≤ k := Nat.and_le_left; omega
    rcases hx with ⟨_, rfl⟩ | ⟨p, _, _, rfl⟩
    · exact decide_eq_false hn
    · unfold cP cS; rw [decide_eq_false hn]; rfl
  have main := a_for (fun t (_ : Unit) => a_Runs G sX7_leastNet 6 [(0, .ref 36), (1, .int (nI s)), (2, .int x), (3, .int (nI (mnF c (trV X) t))), (4, .int (nI t))] [] μ post) (fun t _ => s ≤ t) 1024 ?_ ?_ s () (by omega) (Nat.le_refl _)
  · rw [mnF_0 hlow] at main; exact main
  · intro _ _
    exact w_X7_leastNet_6 _ _ _ _ ⟨fun _ => hp, fun h => absurd (by rw [q_le] <;> omega) h⟩
  · intro t _ ht hst ih
    have hand : t &&& s ≤ t := Nat.and_le_left
    have htv := (trV_le hd t).1
    have hml := mnF_le c (trV X) t
    refine w_X7_leastNet_6 _ _ _ _ ⟨fun h => ?_, fun _ => ?_⟩
    · rw [q_le (by omega) (by omega)] at h; omega
    have eM : mnF c (trV X) (t + 1) = if c t then min (mnF c (trV X) t) (trV X t) else mnF c (trV X) t := rfl
    have skip : c t = false → a_Runs G sX7_leastNet 6 [(0, .ref 36), (1, .int (nI s)), (2, .int x), (3, .int (nI (mnF c (trV X) t))), (4, .int (nI (t + 1)))] [] μ post := fun h => by
      have q := ih () (by omega)
      rw [eM, h, if_neg (by decide)] at q; exact q
    have take : c t = true → t < 1024 ∧ ((mnF c (trV X) t ≤ trV X t → a_Runs G sX7_leastNet 6 [(0, .ref 36), (1, .int (nI s)), (2, .int x), (3, .int (nI (mnF c (trV X) t))), (4, .int (nI (t + 1)))] [] μ post) ∧ (¬ mnF c (trV X) t ≤ trV X t → t < 1024 ∧ a_Runs G sX7_leastNet 6 [(0, .ref 36), (1, .int (nI s)), (2, .int x), (3, .int (nI (trV X t))), (4, .int (nI (t + 1)))] [] μ post)) := fun h => by
      have q := ih () (by omega)
      rw [eM, h, if_pos rfl] at q
      refine ⟨ht, fun hc => ?_, fun hc => ⟨ht, ?_⟩⟩
      · rw [show min (mnF c (trV X) t) (trV X t) = mnF c (trV X) t by omega] at q; exact q
      · rw [show min (mnF c (trV X) t) (trV X t) = trV X t by omega] at q; exact q
    have h54t := h54 t (by omega) ht
    rw [fa_and, q_eq (by omega) (by omega), q_in (by omega), q_cl (by omega), h54t, q_le (by omega) (by omega), nI_add]
    refine ⟨fun h => ⟨fun _ => skip ?_, fun h => absurd n00 h⟩, fun h => ?_⟩
    · rcases hx with ⟨_, rfl⟩ | ⟨p, _, _, rfl⟩
      · exact decide_eq_false h
      · unfold cP cS; rw [decide_eq_false h]; rfl
    · rcases hx with ⟨rfl, rfl⟩ | ⟨p, hp10, rfl, rfl⟩
      · exact ⟨fun _ => ⟨fun h => absurd h n10, fun _ => take (decide_eq_true h)⟩, fun h => absurd rfl h⟩
      · refine ⟨fun hc => absurd hc (nI_nm9 (by omega)), fun _ => ?_⟩
        rw [q_bit (by omega) (by omega)]
        refine br_n (fun hb => ⟨fun _ => skip ?_, fun h => absurd n00 h⟩) (fun hb => ⟨fun h => absurd h n10, fun _ => take ?_⟩)
        · unfold cP; rw [hb]; simp
        · unfold cP cS; rw [hb, decide_eq_true h]; rfl
theorem r_X7_isNetP (x : Int32) : a_Ret G sX7_isNet [.int x] μ (some (.int (bI (netOK x)))) μ := by
  intro post hp
  refine w_X7_isNet_0 _ (r_X7_in _ _ _ _ ⟨_, rfl, br_b (fun h1 => ⟨nI_00, ?_⟩) (fun h1 => ?_)⟩)
  · have e : netOK x = false := by
      refine Bool.eq_false_iff.mpr (fun hc => ?_)
      obtain ⟨e1, b1, b2⟩ := netOK_i hc
      generalize x.toNatClampNeg = s at *
      subst e1
      rw [inB_nI (by omega) (by omega) (by omega)] at h1
      have : s = 0 := by
        rcases Nat.eq_zero_or_pos s with h | h
        · exact h
        · rw [decide_eq_true (by omega), decide_eq_true (by omega)] at h1; cases h1
      subst this
      have : pop 0 = 0 := by decide
      omega
    rw [e] at hp; exact hp
  · obtain ⟨e1, b0, b1⟩ := inB_cl (by decide) (by decide) h1
    have e : netOK x = decide (2 ≤ pop x.toNatClampNeg) := by
      unfold netOK
      have : inB x (nI 0) (nI 1023) = true := by
        rw [e1, inB_nI (by omega) (by omega) (by omega), decide_eq_true (by omega), decide_eq_true (by omega)]; rfl
      rw [this, Bool.true_and]
    rw [e] at hp
    generalize x.toNatClampNeg = s at *
    subst e1
    have h20 := pop_le s
    refine r_X7_ones (by omega) _ ⟨_, rfl, ?_⟩
    rw [q_le (by omega) (by omega)]
    refine ⟨fun h => ⟨nI_00, ?_⟩, fun h => ⟨nI_11, ?_⟩⟩
    · rw [decide_eq_false (by omega)] at hp; exact hp
    · rw [decide_eq_true (by omega)] at hp; exact hp
theorem m_net (hd : xD X) (hmd : mD μ X) (x : Int32) : a_Spec G sX7_net [.ref 36, .int x] μ (fun v ν => v = some (.int (aNet X x)) ∧ a_eqx [54, 55, 56] μ ν) := by
  refine w_X7_net_0 _ (r_X7_isNetP _ _ ⟨_, rfl, br_n (fun h => ?_) (fun h => ?_)⟩)
  · obtain ⟨e1, b1, b2⟩ := netOK_i h
    have e : aNet X x = if netV X x.toNatClampNeg = 1000000 then -9 else nI (netV X x.toNatClampNeg) := by unfold aNet; rw [if_pos h]
    rw [e]
    generalize x.toNatClampNeg = s at *
    subst e1
    have hle : netV X s ≤ 1000000 := mnF_le (cS s) (trV X) 1024
    have hs0 : s ≠ 0 := fun h => by subst h; have : pop 0 = 0 := by decide
                                    omega
    refine (r_X7_layTrees hd hmd).mono ?_
    rintro v ν ⟨rfl, g1, g2⟩
    refine ⟨rfl, r_X7_leastNet b1 hs0 g2 hd (Or.inl ⟨rfl, rfl⟩) _ ⟨_, rfl, ?_⟩⟩
    show (¬ nI (netV X s) = nI 1000000 → _) ∧ (nI (netV X s) = nI 1000000 → _)
    rw [q_eq (by omega) (by omega)]
    refine ⟨fun h => ⟨?_, g1⟩, fun h => ⟨by rw [if_pos h], g1⟩⟩
    rw [if_neg h]; rfl
  · have e : aNet X x = -2 := by unfold aNet; rw [h]; rfl
    rw [e]; exact ⟨rfl, a_eqx.rf _ _⟩
theorem m_splice (hd : xD X) (hmd : mD μ X) (x : Int32) : a_Spec G sX7_splice [.ref 36, .int x] μ (fun v ν => v = some (.int (aSpl X x)) ∧ a_eqx [54, 55, 56] μ ν) := by
  refine w_X7_splice_0 _ (r_X7_isNetP _ _ ⟨_, rfl, br_n (fun h => ?_) (fun h => ?_)⟩)
  · obtain ⟨e1, b1, b2⟩ := netOK_i h
    have e : aSpl X x = if netV X x.toNatClampNeg = 1000000 then -9 else if fa_first (splB X x.toNatClampNeg) 10 < 10 then nI (fa_first (splB X x.toNatClampNeg) 10) else -9 := by unfold aSpl; rw [if_pos h]
    rw [e]
    generalize x.toNatClampNeg = s at *
    subst e1
    have hle : netV X s ≤ 1000000 := mnF_le (cS s) (trV X) 1024
    have hs0 : s ≠ 0 := fun h => by subst h; have : pop 0 = 0 := by decide
                                    omega
    refine (r_X7_layTrees hd hmd).mono ?_
    rintro v ν ⟨rfl, g1, g2⟩
    refine ⟨rfl, r_X7_leastNet b1 hs0 g2 hd (Or.inl ⟨rfl, rfl⟩) _ ⟨_, rfl, ?_⟩⟩
    show a_Runs G sX7_splice 24 [(0, .ref 36), (1, .int (nI s)), (2, .int (nI (netV X s))), (3, .int (nI 0))] [] ν _
    by_cases h : netV X s = 1000000
    · rw [if_pos h]
      refine w_X7_splice_24 _ _ _ ⟨fun _ => ⟨rfl, g1⟩, fun _ => ⟨fun _ => ⟨rfl, g1⟩, fun hc => ?_⟩⟩
      rw [q_le (by omega) (by omega)] at hc; omega
    rw [if_neg h]
    have hno := fa_first_no (splB X s) 10
    have hyes := fa_first_yes (splB X s) 10
    have hf10 := fa_first_le (splB X s) 10
    generalize fa_first (splB X s) 10 = F at *
    refine a_for (fun i (_ : Unit) => a_Runs G sX7_splice 24 [(0, .ref 36), (1, .int (nI s)), (2, .int (nI (netV X s))), (3, .int (nI i))] [] ν _) (fun _ _ => True) F ?_ ?_ 0 () (by omega) trivial
    · intro _ _
      refine w_X7_splice_24 _ _ _ ⟨fun hc => ?_, fun hc => ?_⟩
      · rw [q_le (by omega) (by omega)] at hc
        exact ⟨by rw [if_neg (by omega)], g1⟩
      · rw [q_le (by omega) (by omega)] at hc
        have hF : F < 10 := by omega
        have hy := hyes hF
        unfold splB at hy
        rw [Bool.and_eq_true, Bool.not_eq_true'] at hy
        have hlw : lwV X s F ≤ 1000000 := mnF_le _ _ _
        have hdc := of_decide_eq_true hy.2
        rw [q_le (by omega) (by omega), q_bit (by omega) (by omega)]
        refine ⟨fun hc => by omega, fun _ => br_n (fun hb => by rw [hy.1] at hb; cases hb) (fun hb => ?_)⟩
        refine r_X7_leastNet b1 hs0 g2 hd (Or.inr ⟨F, hF, rfl, rfl⟩) _ ⟨_, rfl, ?_⟩
        show (nI (lwV X s F) ≤ nI (netV X s) → _) ∧ (¬ nI (lwV X s F) ≤ nI (netV X s) → _)
        rw [q_le (by omega) (by omega)]
        exact ⟨fun hc => absurd hc (by omega), fun _ => ⟨by rw [if_pos hF], g1⟩⟩
    · intro i _ hi _ ih
      have hn := hno i hi
      have hlw : lwV X s i ≤ 1000000 := mnF_le _ _ _
      refine w_X7_splice_24 _ _ _ ⟨fun hc => ?_, fun _ => ?_⟩
      · rw [q_le (by omega) (by omega)] at hc; omega
      · rw [q_le (by omega) (by omega), q_bit (by omega) (by omega), nI_add]
        refine ⟨fun hc => by omega, fun _ => br_n (fun hb => ih () trivial) (fun hb => ?_)⟩
        unfold splB at hn
        rw [hb, Bool.not_false, Bool.true_and] at hn
        have hn := of_decide_eq_false hn
        refine r_X7_leastNet b1 hs0 g2 hd (Or.inr ⟨i, by omega, rfl, rfl⟩) _ ⟨_, rfl, ?_⟩
        show (nI (lwV X s i) ≤ nI (netV X s) → _) ∧ (¬ nI (lwV X s i) ≤ nI (netV X s) → _)
        rw [q_le (by omega) (by omega)]
        exact ⟨fun _ => ih () trivial, fun hc => absurd (by omega) hc⟩
  · have e : aSpl X x = -2 := by unfold aSpl; rw [h]; rfl
    rw [e]; exact ⟨rfl, a_eqx.rf _ _⟩
end MNET
