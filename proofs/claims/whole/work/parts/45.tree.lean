/-! ===== the shortest tree of a set, ducts by length: pure, and the class's ===== -/
abbrev kS : Type := (Nat → Nat) × Nat × Nat
def mrg (q : Nat → Nat) (a b : Nat) : Nat → Nat := fun p => if q p = q a then q b else q p
def jn (X : aX) (s : Nat) (q : Nat → Nat) (d : Nat) : Bool := s.testBit (X 1 d) && s.testBit (X 2 d) && decide (q (X 1 d) ≠ q (X 2 d))
def kst (X : aX) (s d : Nat) (σ : kS) : kS := if σ.2.1 = 0 then σ else if jn X s σ.1 d then (mrg σ.1 (X 1 d) (X 2 d), σ.2.1 - 1, σ.2.2 + X 3 d) else σ
def krs (X : aX) (s : Nat) : Nat → kS
  | 0 => (fun p => p, pop s - 1, 0)
  | i + 1 => kst X s (srt (X 3) (X 0 0) i) (krs X s i)
def trV (X : aX) (s : Nat) : Nat := if (krs X s (X 0 0)).2.1 = 0 then (krs X s (X 0 0)).2.2 else 1000000
theorem krs_stop {X : aX} {s i : Nat} (h : (krs X s i).2.1 = 0) : ∀ k, krs X s (i + k) = krs X s i
  | 0 => rfl
  | k + 1 => by
    show kst X s _ (krs X s (i + k)) = _
    rw [krs_stop h k]
    unfold kst; rw [if_pos h]
theorem krs_in {X : aX} (hd : xD X) (s : Nat) : ∀ i, i ≤ X 0 0 → (∀ p, p < 10 → (krs X s i).1 p < 10) ∧ (krs X s i).2.1 ≤ pop s - 1 ∧ (krs X s i).2.2 ≤ 99 * i
  | 0, _ => ⟨fun p hp => hp, Nat.le_refl _, Nat.le_refl _⟩
  | i + 1, h => by
    obtain ⟨h1, h2, h3⟩ := krs_in hd s i (by omega)
    have hl := hd.2 _ (srt_in (X 3) (X 0 0) i (by omega))
    show (∀ p, p < 10 → (kst X s (srt (X 3) (X 0 0) i) (krs X s i)).1 p < 10) ∧ (kst X s (srt (X 3) (X 0 0) i) (krs X s i)).2.1 ≤ _ ∧ (kst X s (srt (X 3) (X 0 0) i) (krs X s i)).2.2 ≤ _
    generalize krs X s i = σ at *
    generalize srt (X 3) (X 0 0) i = d at *
    unfold kst
    split
    · exact ⟨h1, h2, by omega⟩
    · split
      · refine ⟨fun p hp => ?_, by show σ.2.1 - 1 ≤ _; omega, by show σ.2.2 + X 3 d ≤ _; omega⟩
        show mrg σ.1 (X 1 d) (X 2 d) p < 10
        unfold mrg; split
        · exact h1 _ (by omega)
        · exact h1 p hp
      · exact ⟨h1, h2, by omega⟩
theorem trV_le {X : aX} (hd : xD X) (s : Nat) : trV X s ≤ 1000000 ∧ (trV X s < 2000 ∨ trV X s = 1000000) := by
  have := (krs_in hd s (X 0 0) (Nat.le_refl _)).2.2
  have := hd.1
  unfold trV; split <;> omega
theorem pop10 : ∀ s, s < 1024 → pop s ≤ 10 := by decide +kernel
/-- a forest: f leads to the heads q, by at most k steps -/
def frs (f q : Nat → Nat) (k : Nat) : Prop := ∃ D : Nat → Nat, ∀ p, p < 10 → f p < 10 ∧ q p < 10 ∧ D p ≤ k ∧ f (q p) = q p ∧ q (f p) = q p ∧ (f p = p → q p = p ∧ D p = 0) ∧ (f p ≠ p → D (f p) < D p)
theorem frs_0 : frs (fun p => p) (fun p => p) 0 := ⟨fun _ => 0, fun p hp => ⟨hp, hp, Nat.le_refl _, rfl, rfl, fun _ => ⟨rfl, rfl⟩, fun h => absurd rfl h⟩⟩
theorem frs_m {f q : Nat → Nat} {k a b : Nat} (h : frs f q k) (ha : a < 10) (hb : b < 10) (hn : q a ≠ q b) : frs (upN f (q a) (q b)) (mrg q a b) (k + 1) := by
  obtain ⟨D, h⟩ := h
  refine ⟨fun p => if q p = q a then D p + 1 else D p, fun p hp => ?_⟩
  obtain ⟨h1, h2, h3, h4, h5, h6, h7⟩ := h p hp
  obtain ⟨a1, a2, a3, a4, a5, a6, a7⟩ := h a ha
  obtain ⟨b1, b2, b3, b4, b5, b6, b7⟩ := h b hb
  obtain ⟨r1, r2, r3, r4, r5, r6, r7⟩ := h (q a) a2
  obtain ⟨t1, t2, t3, t4, t5, t6, t7⟩ := h (q b) b2
  have ra := r6 a4
  have rb := t6 b4
  unfold mrg
  by_cases hpa : p = q a
  · subst hpa
    rw [upN_s]
    simp only [ra.1, rb.1, if_true, if_neg (Ne.symm hn)]
    refine ⟨b2, b2, by omega, ?_, trivial, fun hc => absurd hc (Ne.symm hn), fun _ => by omega⟩
    rw [upN_n _ _ (Ne.symm hn)]; exact b4
  · rw [upN_n _ _ hpa]
    simp only [h5]
    refine ⟨h1, by split <;> assumption, by split <;> omega, ?_, trivial, fun hc => ?_, fun hc => ?_⟩
    · by_cases e : q p = q a
      · rw [if_pos e, upN_n _ _ (Ne.symm hn)]; exact b4
      · rw [if_neg e, upN_n _ _ e]; exact h4
    · have := h6 hc
      rw [if_neg (by rw [this.1]; exact hpa), if_neg (by rw [this.1]; exact hpa)]; exact this
    · have := h7 hc
      split <;> omega
section TREE
variable {G : aG} {μ : aMem} {X : aX}
theorem r_X4_headOf {f q : Nat → Nat} {k : Nat} (hf : frs f q k) (hk : k ≤ 9) (h26 : rp (μ.1 26) f 10) {p : Nat} (hp : p < 10) : a_Ret G sX4_headOf [.ref 4, .int (nI p)] μ (some (.int (nI (q p)))) μ := by
  intro post hpo
  obtain ⟨D, h⟩ := hf
  refine w_X4_headOf_0 _ ?_
  have main := a_for (fun i (u : Nat) => a_Runs G sX4_headOf 4 [(0, .ref 4), (2, .int (nI u)), (3, .int (nI i))] [] μ post) (fun i u => u < 10 ∧ q u = q p ∧ D u + i ≤ 9) 10 ?_ ?_ 0 p (by omega) ⟨hp, rfl, by have := (h p hp).2.2.1; omega⟩
  · exact main
  · rintro u ⟨_, _, h3⟩; omega
  · rintro i u hi ⟨h1, h2, h3⟩ ih
    obtain ⟨g1, g2, g3, g4, g5, g6, g7⟩ := h u h1
    refine w_X4_headOf_4 _ _ ⟨fun hc => ?_, fun _ => ?_⟩
    · rw [q_le (by omega) (by omega)] at hc; omega
    rw [q_in (by omega), q_cl (by omega), h26 u h1, q_eq (by omega) (by omega), nI_add]
    refine ⟨h1, fun hc => ?_, fun hc => ⟨h1, ih _ ⟨g1, by rw [g5]; exact h2, by have := g7 hc; omega⟩⟩⟩
    have := (g6 hc).1
    rw [← h2, this] at hpo; exact hpo
theorem ends_in {s a b : Nat} (ha : a < 10) (hb : b < 10) : ((2 ^ a ||| 2 ^ b) &&& (s ^^^ (2 ^ 32 - 1)) = 0) ↔ (s.testBit a = true ∧ s.testBit b = true) := by
  constructor
  · intro h
    have h1 := congrArg (fun n => n.testBit a) h
    have h2 := congrArg (fun n => n.testBit b) h
    simp only [Nat.testBit_and, Nat.testBit_or, Nat.testBit_xor, Nat.testBit_two_pow_sub_one, Nat.testBit_two_pow, Nat.zero_testBit] at h1 h2
    have a32 : a < 32 := by omega
    have b32 : b < 32 := by omega
    simp [a32] at h1
    simp [b32] at h2
    exact ⟨h1, h2⟩
  · rintro ⟨h1, h2⟩
    refine Nat.eq_of_testBit_eq (fun i => ?_)
    simp only [Nat.testBit_and, Nat.testBit_or, Nat.testBit_xor, Nat.testBit_two_pow_sub_one, Nat.testBit_two_pow, Nat.zero_testBit]
    by_cases ea : a = i
    · subst ea
      have a32 : a < 32 := by omega
      simp [h1, a32]
    · by_cases eb : b = i
      · subst eb
        have b32 : b < 32 := by omega
        simp [h2, b32]
      · simp [ea, eb]
theorem r_X4_joins (hd : xD X) (hcd : cD μ X) {f q : Nat → Nat} {k : Nat} (hf : frs f q k) (hk : k ≤ 9) (h26 : rp (μ.1 26) f 10) {d s : Nat} (hdd : d < X 0 0) (hs : s < 1024) :
    a_Spec G sX4_joins [.ref 4, .int (nI d), .int (nI s)] μ (fun v ν => v = some (.int (bI (jn X s q d))) ∧ ∃ c f', ν = (va_up μ.1 26 c, μ.2) ∧ rp c f' 10 ∧ (jn X s q d = false → frs f' q k) ∧ (jn X s q d = true → frs f' (mrg q (X 1 d) (X 2 d)) (k + 1))) := by
  have hn := hd.1
  have hl := hd.2 d hdd
  obtain ⟨D, hD⟩ := id hf
  have qa := (hD _ hl.1)
  have qb := (hD _ hl.2.1)
  refine w_X4_joins_0 _ _ ?_
  have e9 : μ.1 9 d = nI (2 ^ X 1 d ||| 2 ^ X 2 d) := hcd.2.2.2.1 d hdd
  have em1 : (-1 : Int32) = nI (2 ^ 32 - 1) := by decide
  have hlt : (2 ^ X 1 d ||| 2 ^ X 2 d) < 2 ^ 10 := Nat.or_lt_two_pow (Nat.pow_lt_pow_right (by decide) (by omega)) (Nat.pow_lt_pow_right (by decide) (by omega))
  have hlt2 : (2 ^ X 1 d ||| 2 ^ X 2 d) &&& (s ^^^ (2 ^ 32 - 1)) < 2 ^ 10 := Nat.lt_of_le_of_lt Nat.and_le_left hlt
  rw [q_in (by omega), q_cl (by omega), e9, em1, nx_xor, fa_and, q_e0 (by omega), ends_in hl.1 hl.2.1, hcd.2.1 d hdd]
  refine ⟨by omega, fun h => ⟨by omega, ?_⟩, fun h => ⟨nI_00, ?_⟩⟩
  · refine r_X4_headOf hf hk h26 hl.1 _ ⟨_, rfl, by omega, ?_⟩
    rw [hcd.2.2.1 d hdd]
    refine r_X4_headOf hf hk h26 hl.2.1 _ ⟨_, rfl, ?_⟩
    rw [q_in (by omega), q_cl (by omega), q_eq (by omega) (by omega)]
    refine ⟨by omega, fun hc => ⟨nI_00, ?_⟩, fun hc => ⟨nI_11, ?_⟩⟩
    · have ej : jn X s q d = false := by unfold jn; rw [h.1, h.2]; simpa using hc
      rw [ej]
      refine ⟨rfl, _, f, rfl, fun i hi => ?_, fun _ => hf, fun h => by cases h⟩
      by_cases ei : i = q (X 1 d)
      · rw [ei, pk_us, ← hc, qa.2.2.2.1]
      · rw [pk_un ei]; exact h26 i hi
    · have ej : jn X s q d = true := by unfold jn; rw [h.1, h.2]; simpa using hc
      rw [ej]
      exact ⟨rfl, _, _, rfl, rp_at (k := q (X 1 d)) (v := q (X 2 d)) h26 rfl, (fun h => by cases h), fun _ => frs_m hf hl.1 hl.2.1 hc⟩
  · have ej : jn X s q d = false := by
      unfold jn
      refine Bool.eq_false_iff.mpr (fun hc => h ?_)
      simp only [Bool.and_eq_true] at hc
      exact hc.1
    rw [ej]
    exact ⟨rfl, μ.1 26, f, a_self μ 26, h26, fun _ => hf, fun h => by cases h⟩
theorem r_X4_treeLength (hd : xD X) (hcd : cD μ X) {s : Nat} (hs : s < 1024) (hp : 1 ≤ pop s) : a_Spec G sX4_treeLength [.ref 4, .int (nI s)] μ (fun v ν => v = some (.int (nI (trV X s))) ∧ ∃ c, ν = (va_up μ.1 26 c, μ.2)) := by
  have hn := hd.1
  have hp10 := pop10 s hs
  generalize hpo : (fun (v : Option Value) (ν : aMem) => v = some (.int (nI (trV X s))) ∧ ∃ c, ν = (va_up μ.1 26 c, μ.2)) = post
  have hpost : ∀ c, post (some (.int (nI (trV X s)))) (va_up μ.1 26 c, μ.2) := fun c => by rw [← hpo]; exact ⟨rfl, c, rfl⟩
  refine w_X4_treeLength_0 _ ?_
  have main := a_for (fun i (c : Nat → Int32) => a_Runs G sX4_treeLength 2 [(0, .ref 4), (1, .int (nI s)), (2, .int (nI i))] [] (va_up μ.1 26 c, μ.2) post) (fun i c => rp c (fun p => p) i) 10 ?_ ?_ 0 (μ.1 26) (by omega) (fun k h => by omega)
  · rw [a_self μ 26]; exact main
  · intro c hc
    refine w_X4_treeLength_2 _ _ ⟨fun _ => ?_, fun h => absurd (by rw [q_le] <;> omega) h⟩
    refine r_J6_bitCount (by omega) _ ⟨_, rfl, ?_⟩
    rw [q_sub hp]
    have main := a_for (fun i (c : Nat → Int32) => a_Runs G sX4_treeLength 33 [(0, .ref 4), (1, .int (nI s)), (2, .int (nI (krs X s i).2.1)), (3, .int (nI (krs X s i).2.2)), (4, .int (nI i))] [] (va_up μ.1 26 c, μ.2) post) (fun i c => ∃ f k, rp c f 10 ∧ frs f (krs X s i).1 k ∧ k + (krs X s i).2.1 = pop s - 1) (X 0 0) ?_ ?_ 0 c (by omega) ⟨_, 0, hc, frs_0, by show 0 + (pop s - 1) = _; omega⟩
    · exact main
    · rintro c ⟨f, k, h1, h2, h3⟩
      refine w_X4_treeLength_33 _ _ _ _ ⟨fun _ => ?_, fun h => absurd (by show μ.1 1 0 ≤ _; rw [hcd.1, q_le] <;> omega) h⟩
      rw [q_e0 (by omega)]
      have hp := hpost c
      unfold trV at hp
      refine ⟨fun h => ?_, fun h => ?_⟩
      · rw [if_neg h] at hp; exact hp
      · rw [if_pos h] at hp; exact hp
    · rintro i c hi ⟨f, k, h1, h2, h3⟩ ih
      have hb := krs_in hd s i (by omega)
      have hsi := srt_in (X 3) (X 0 0) i hi
      have hcd' : ∀ c, cD (va_up μ.1 26 c, μ.2) X := fun c => hcd.kept (fun k hk => va_up_ne _ _ (by omega))
      refine w_X4_treeLength_33 _ _ _ _ ⟨fun h => ?_, fun _ => ?_⟩
      · have h : μ.1 1 0 ≤ nI i := h
        rw [hcd.1, q_le (by omega) (by omega)] at h; omega
      rw [q_le0 (by omega), q_e0 (by omega)]
      refine ⟨fun h => ⟨fun h' => absurd h h', fun _ => ?_⟩, fun h => ?_⟩
      · have := krs_stop h (X 0 0 - i)
        rw [show i + (X 0 0 - i) = X 0 0 by omega] at this
        have hp := hpost c
        unfold trV at hp
        rw [this, if_pos h] at hp; exact hp
      · have e12 : ((va_up μ.1 26 c, μ.2) : aMem).1 12 i = nI (srt (X 3) (X 0 0) i) := hcd.2.2.2.2.2.2 i hi
        rw [q_in (by omega), q_cl (by omega), e12]
        refine ⟨by omega, (r_X4_joins (μ := (va_up μ.1 26 c, μ.2)) hd (hcd' c) h2 (by omega) h1 hsi hs).mono ?_⟩
        rintro v ν ⟨rfl, c', f', rfl, g1, g2, g3⟩
        have em : ((va_up (va_up μ.1 26 c) 26 c', μ.2) : aMem) = (va_up μ.1 26 c', μ.2) := by rw [bx_uu]
        have e10 : ((va_up (va_up μ.1 26 c) 26 c', μ.2) : aMem).1 10 (srt (X 3) (X 0 0) i) = nI (X 3 (srt (X 3) (X 0 0) i)) := hcd.2.2.2.2.1 _ hsi
        have ek : krs X s (i + 1) = if jn X s (krs X s i).1 (srt (X 3) (X 0 0) i) then (mrg (krs X s i).1 (X 1 (srt (X 3) (X 0 0) i)) (X 2 (srt (X 3) (X 0 0) i)), (krs X s i).2.1 - 1, (krs X s i).2.2 + X 3 (srt (X 3) (X 0 0) i)) else krs X s i := by
          show kst X s _ (krs X s i) = _
          unfold kst; rw [if_neg h]
        refine ⟨_, rfl, br_b (fun hj => ?_) (fun hj => ?_)⟩
        · rw [hj, if_neg (by decide)] at ek
          rw [ek] at ih
          show a_Runs G sX4_treeLength 33 _ [] (va_up (va_up μ.1 26 c) 26 c', μ.2) post
          rw [em, nI_add]
          exact ih c' ⟨f', k, g1, g2 hj, h3⟩
        · rw [hj, if_pos rfl] at ek
          rw [ek] at ih
          rw [q_in (by omega), q_cl (by omega), e10, nI_add, nI_add, q_m1 (by omega)]
          refine ⟨by omega, ?_⟩
          show a_Runs G sX4_treeLength 33 _ [] (va_up (va_up μ.1 26 c) 26 c', μ.2) post
          rw [em]
          exact ih c' ⟨f', k + 1, g1, g3 hj, by show k + 1 + ((krs X s i).2.1 - 1) = _; omega⟩
  · intro i c hi hc ih
    refine w_X4_treeLength_2 _ _ ⟨fun h => ?_, fun _ => ?_⟩
    · rw [q_le (by omega) (by omega)] at h; omega
    rw [q_in (by omega), q_cl (by omega), nI_add]
    refine ⟨hi, ?_⟩
    show a_Runs G sX4_treeLength 2 _ [] (va_up (va_up μ.1 26 c) 26 (upd c i (nI i)), μ.2) post
    rw [bx_uu]
    refine ih _ (fun k hk => ?_)
    by_cases ek : k = i
    · rw [ek, pk_us]
    · rw [pk_un ek]; exact hc k (by omega)
end TREE
