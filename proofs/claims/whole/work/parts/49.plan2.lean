def uS (S : Nat) : Nat := fb_sm (fun o => if S.testBit o then 8 ^ (7 - o) else 0) 8
def mnL (v : Nat → Nat) : Nat → Nat
  | 0 => 9223372036854775807
  | n + 1 => min (v n) (mnL v n)
theorem mnL_le (v : Nat → Nat) : ∀ {n i : Nat}, i < n → mnL v n ≤ v i
  | 0, i, h => by omega
  | n + 1, i, h => by
    show min (v n) (mnL v n) ≤ v i
    by_cases e : i = n
    · subst e; omega
    · have := mnL_le v (n := n) (i := i) (by omega); omega
theorem mnL_ex (v : Nat → Nat) : ∀ {n : Nat}, (∃ i, i < n ∧ mnL v n = v i) ∨ mnL v n = 9223372036854775807
  | 0 => Or.inr rfl
  | n + 1 => by
    show (∃ i, i < n + 1 ∧ min (v n) (mnL v n) = v i) ∨ min (v n) (mnL v n) = _
    by_cases h : v n ≤ mnL v n
    · exact Or.inl ⟨n, by omega, by omega⟩
    · rcases mnL_ex v (n := n) with ⟨i, h1, h2⟩ | h2
      · exact Or.inl ⟨i, by omega, by omega⟩
      · exact Or.inr (by omega)
theorem mnL_cong {v w : Nat → Nat} : ∀ {n : Nat}, (∀ i, i < n → v i = w i) → mnL v n = mnL w n
  | 0, _ => rfl
  | n + 1, h => by show min (v n) (mnL v n) = min (w n) (mnL w n); rw [h n (by omega), mnL_cong (fun i hi => h i (by omega))]
def vlP (K p : Nat → Nat) (S B : Nat) : Nat := K (lw S ||| B) * 2 ^ 28 + 2 ^ 24 + p (oth S ^^^ B) + uS (oth S ^^^ B)
def lpP (K p : Nat → Nat) (S : Nat) : Nat := mnL (fun i => vlP K p S (bsq (oth S) i)) (2 ^ pop (oth S))
def pT (K : Nat → Nat) : Nat → (Nat → Nat)
  | 0 => fun _ => 0
  | t + 1 => if t = 0 then fun _ => 0 else upN (pT K t) t (lpP K (pT K t) t)
def plP (K : Nat → Nat) (S : Nat) : Nat := pT K (S + 1) S
theorem pT_keep (K : Nat → Nat) : ∀ {t s : Nat}, s < t → pT K t s = plP K s
  | 0, s, h => by omega
  | t + 1, s, h => by
    by_cases e : s = t
    · subst e; rfl
    · show (if t = 0 then fun _ => 0 else upN (pT K t) t (lpP K (pT K t) t)) s = _
      rw [if_neg (by omega), upN_n _ _ e]
      exact pT_keep K (by omega)
theorem set_ext {A B : Nat} (hA : A < 256) (hB : B < 256) (h : ∀ o, o < 8 → A.testBit o = B.testBit o) : A = B := by
  refine Nat.eq_of_testBit_eq (fun i => ?_)
  by_cases hi : i < 8
  · exact h i hi
  · have hp : 2 ^ 8 ≤ 2 ^ i := Nat.pow_le_pow_right (by decide) (by omega)
    have hp : 256 ≤ 2 ^ i := hp
    rw [Nat.testBit_lt_two_pow (Nat.lt_of_lt_of_le hA hp), Nat.testBit_lt_two_pow (Nat.lt_of_lt_of_le hB hp)]
theorem sub_le {A o : Nat} (h : A &&& o = A) : A ≤ o := by rw [← h]; exact Nat.and_le_right
theorem sub_bit {A o i : Nat} (h : A &&& o = A) (hi : A.testBit i = true) : o.testBit i = true := by
  rw [← h, Nat.testBit_and, Bool.and_eq_true] at hi; exact hi.2
theorem xor_sub {o B : Nat} (h : B &&& o = B) : (o ^^^ B) &&& o = o ^^^ B := by
  refine Nat.eq_of_testBit_eq (fun i => ?_)
  rw [Nat.testBit_and, Nat.testBit_xor]
  cases ho : o.testBit i
  · cases hb : B.testBit i
    · rfl
    · rw [sub_bit h hb] at ho; cases ho
  · rw [Bool.and_true]
theorem plP_0 (K : Nat → Nat) : plP K 0 = 0 := rfl
theorem plP_e (K : Nat → Nat) {S : Nat} (hS : S < 256) (h0 : S ≠ 0) : plP K S = lpP K (plP K) S := by
  have hl := lw_fo S hS h0
  have e : plP K S = lpP K (pT K S) S := by
    show (if S = 0 then fun _ => 0 else upN (pT K S) S (lpP K (pT K S) S)) S = _
    rw [if_neg h0, upN_s]
  rw [e]
  refine mnL_cong (fun i _ => ?_)
  unfold vlP
  have := sub_le (xor_sub (bsq_sub (oth S) i))
  rw [pT_keep K (by omega)]
theorem uS_0 : uS 0 = 0 := by decide
theorem uS_le (S : Nat) : uS S ≤ 2396745 := by
  have h := fb_sm_le (f := fun o => if S.testBit o then 8 ^ (7 - o) else 0) (g := fun o => 8 ^ (7 - o)) (n := 8) (fun k _ => by split; exact Nat.le_refl _; exact Nat.zero_le _)
  have e : fb_sm (fun o => 8 ^ (7 - o)) 8 = 2396745 := by decide
  unfold uS; omega
section PLAN
variable {K : Nat → Nat}
theorem plP_bd (hK : ∀ A, A < 256 → K A ≤ 8200000) {S : Nat} (hS : S < 256) : plP K S ≤ 2 ^ 52 := by
  by_cases h0 : S = 0
  · rw [h0, plP_0]; decide
  · obtain ⟨l1, l2, l3, l4⟩ := lw_fo S hS h0
    rw [plP_e K hS h0]
    have h := mnL_le (fun i => vlP K (plP K) S (bsq (oth S) i)) (n := 2 ^ pop (oth S)) (i := 0) (Nat.two_pow_pos _)
    have e : vlP K (plP K) S (bsq (oth S) 0) = K (lw S ||| oth S) * 2 ^ 28 + 2 ^ 24 + 0 + 0 := by
      show K (lw S ||| oth S) * 2 ^ 28 + 2 ^ 24 + plP K (oth S ^^^ oth S) + uS (oth S ^^^ oth S) = _
      rw [Nat.xor_self, plP_0, uS_0]
    have hk := hK (lw S ||| oth S) (or8 (by rw [l2]; exact pow8 l1) l4)
    have h : lpP K (plP K) S ≤ vlP K (plP K) S (bsq (oth S) 0) := h
    rw [e] at h
    omega
theorem plP_is (hK : ∀ A, A < 256 → K A ≤ 8200000) {S : Nat} (hS : S < 256) (h0 : S ≠ 0) : (∃ B, B &&& oth S = B ∧ plP K S = vlP K (plP K) S B) ∧ ∀ B, B &&& oth S = B → plP K S ≤ vlP K (plP K) S B := by
  obtain ⟨l1, l2, l3, l4⟩ := lw_fo S hS h0
  have hb := plP_bd hK hS
  rw [plP_e K hS h0] at hb ⊢
  refine ⟨?_, fun B hB => ?_⟩
  · rcases mnL_ex (fun i => vlP K (plP K) S (bsq (oth S) i)) (n := 2 ^ pop (oth S)) with ⟨i, h1, h2⟩ | h2
    · exact ⟨bsq (oth S) i, bsq_sub _ _, h2⟩
    · have h2 : lpP K (plP K) S = 9223372036854775807 := h2
      omega
  · obtain ⟨i, i1, i2⟩ := bs_cov l4 hB
    have := mnL_le (fun i => vlP K (plP K) S (bsq (oth S) i)) i1
    rw [← i2]; exact this
-- rows that grow
def stL (S : Nat) (r : Nat → Nat) (l : Nat) : Nat := orF (fun o => if S.testBit o && decide (r o = l) then 2 ^ o else 0) 8
def Wf (K : Nat → Nat) (A : Nat) : Nat := if A = 0 then 0 else K A * 2 ^ 28 + 2 ^ 24
def dgS (S : Nat) (r : Nat → Nat) : Nat := fb_sm (fun o => if S.testBit o then r o * 8 ^ (7 - o) else 0) 8
def vR (K : Nat → Nat) (N S : Nat) (r : Nat → Nat) : Nat := fb_sm (fun l => Wf K (stL S r l)) N + dgS S r
def gr (S : Nat) (r : Nat → Nat) : Prop := ∀ o, o < 8 → S.testBit o = true → r o = 0 ∨ ∃ i, i < o ∧ S.testBit i = true ∧ r i + 1 = r o
theorem stL_lt (S : Nat) (r : Nat → Nat) (l : Nat) : stL S r l < 256 := by
  have h : stL S r l < 2 ^ 8 := orF_lt (b := 8) (fun i hi => by
    show (if S.testBit i && decide (r i = l) then 2 ^ i else 0) < 2 ^ 8
    split
    · exact Nat.pow_lt_pow_right (by decide) hi
    · decide)
  omega
theorem stL_bit {S : Nat} {r : Nat → Nat} {l o : Nat} (h : o < 8) : (stL S r l).testBit o = (S.testBit o && decide (r o = l)) := orF_if (b := fun o => S.testBit o && decide (r o = l)) h
theorem stL_cong {S : Nat} {r r' : Nat → Nat} (h : ∀ o, o < 8 → S.testBit o = true → r o = r' o) (l : Nat) : stL S r l = stL S r' l := orF_cong (fun o ho => by
  cases hb : S.testBit o
  · rfl
  · rw [h o ho hb])
theorem vR_cong {N S : Nat} {r r' : Nat → Nat} (h : ∀ o, o < 8 → S.testBit o = true → r o = r' o) : vR K N S r = vR K N S r' := by
  have e1 : fb_sm (fun l => Wf K (stL S r l)) N = fb_sm (fun l => Wf K (stL S r' l)) N := fb_sm_cong (fun l _ => by show Wf K _ = Wf K _; rw [stL_cong h])
  have e2 : dgS S r = dgS S r' := fb_sm_cong (fun o ho => by
    show (if S.testBit o then r o * 8 ^ (7 - o) else 0) = if S.testBit o then r' o * 8 ^ (7 - o) else 0
    cases hb : S.testBit o
    · rfl
    · rw [h o ho hb])
  unfold vR
  rw [e1, e2]
theorem gr_le {S : Nat} {r : Nat → Nat} (h : gr S r) : ∀ n o, o ≤ n → o < 8 → S.testBit o = true → r o ≤ o := by
  intro n
  induction n with
  | zero =>
    intro o ho h8 hb
    rcases h o h8 hb with q | ⟨i, i1, _⟩ <;> omega
  | succ n ih =>
    intro o ho h8 hb
    rcases h o h8 hb with q | ⟨i, i1, i2, i3⟩
    · omega
    · have := ih i (by omega) (by omega) i2; omega
theorem vR_step {N S : Nat} {r : Nat → Nat} (hS : S < 256) (h0 : S ≠ 0) (hg : gr S r) :
    vR K (N + 1) S r = K (stL S r 0) * 2 ^ 28 + 2 ^ 24 + vR K N (S ^^^ stL S r 0) (fun o => r o - 1) + uS (S ^^^ stL S r 0) ∧ gr (S ^^^ stL S r 0) (fun o => r o - 1) ∧ (∀ o, o < 8 → (S ^^^ stL S r 0).testBit o = (S.testBit o && decide (r o ≠ 0))) ∧ (stL S r 0 ^^^ lw S) &&& oth S = stL S r 0 ^^^ lw S ∧ lw S ||| (stL S r 0 ^^^ lw S) = stL S r 0 ∧ oth S ^^^ (stL S r 0 ^^^ lw S) = S ^^^ stL S r 0 := by
  obtain ⟨l1, l2, l3, l4⟩ := lw_fo S hS h0
  have hf : S.testBit (fo S) = true := fa_first_yes (fun i => S.testBit i) 8 l1
  have hfn : ∀ i, i < fo S → S.testBit i = false := fa_first_no (fun i => S.testBit i) 8
  have hr0 : r (fo S) = 0 := by
    rcases hg (fo S) l1 hf with h | ⟨i, i1, i2, _⟩
    · exact h
    · rw [hfn i i1] at i2; cases i2
  have hRb : ∀ o, o < 8 → (S ^^^ stL S r 0).testBit o = (S.testBit o && decide (r o ≠ 0)) := fun o ho => by
    rw [Nat.testBit_xor, stL_bit ho]
    cases S.testBit o <;> by_cases q : r o = 0 <;> simp [q]
  have hlw : lw S < 256 := by rw [l2]; exact pow8 l1
  have hA := stL_lt S r 0
  have hAf : (stL S r 0).testBit (fo S) = true := by rw [stL_bit l1, hf, hr0]; rfl
  have hlb : ∀ o, (lw S).testBit o = decide (fo S = o) := fun o => by rw [l2, Nat.testBit_two_pow]
  have hob : ∀ o, o < 8 → (oth S).testBit o = (S.testBit o && decide (fo S ≠ o)) := fun o ho => by
    unfold oth
    rw [Nat.testBit_xor, hlb]
    by_cases q : fo S = o
    · subst q; simp [hf]
    · simp [q]
  have hAne : stL S r 0 ≠ 0 := fun h => by rw [h] at hAf; simp at hAf
  have hxl : stL S r 0 ^^^ lw S < 256 := xor8 hA hlw
  refine ⟨?_, fun o ho hb => ?_, hRb, ?_, ?_, ?_⟩
  · unfold vR
    rw [Nat.add_comm N 1, fb_sm_split]
    have e1 : fb_sm (fun l => Wf K (stL S r l)) 1 = K (stL S r 0) * 2 ^ 28 + 2 ^ 24 := by
      show 0 + Wf K (stL S r 0) = _
      unfold Wf; rw [if_neg hAne, Nat.zero_add]
    have e2 : fb_sm (fun k => Wf K (stL S r (1 + k))) N = fb_sm (fun l => Wf K (stL (S ^^^ stL S r 0) (fun o => r o - 1) l)) N := fb_sm_cong (fun l _ => by
      show Wf K _ = Wf K _
      congr 1
      refine set_ext (stL_lt _ _ _) (stL_lt _ _ _) (fun o ho => ?_)
      rw [stL_bit ho, stL_bit ho, hRb o ho]
      cases S.testBit o
      · rfl
      · simp only [Bool.true_and]
        by_cases q : r o = 1 + l
        · rw [q]; simp
        · by_cases q2 : r o = 0
          · simp [q2]; omega
          · simp [q, q2]; omega)
    have e3 : dgS S r = dgS (S ^^^ stL S r 0) (fun o => r o - 1) + uS (S ^^^ stL S r 0) := by
      unfold dgS uS
      rw [← fb_sm_add]
      refine fb_sm_cong (fun o ho => ?_)
      show (if S.testBit o then r o * 8 ^ (7 - o) else 0) = (if (S ^^^ stL S r 0).testBit o then (r o - 1) * 8 ^ (7 - o) else 0) + if (S ^^^ stL S r 0).testBit o then 8 ^ (7 - o) else 0
      rw [hRb o ho]
      cases S.testBit o
      · rfl
      · by_cases q : r o = 0
        · simp [q]
        · obtain ⟨k, hk⟩ : ∃ k, r o = k + 1 := ⟨r o - 1, by omega⟩
          rw [hk]; simp [Nat.add_mul]
    rw [e1, e2, e3]; omega
  · rw [hRb o ho, Bool.and_eq_true] at hb
    obtain ⟨b1, b2⟩ := hb
    have b2 := of_decide_eq_true b2
    rcases hg o ho b1 with h | ⟨i, i1, i2, i3⟩
    · exact absurd h b2
    · by_cases q : r i = 0
      · left; show r o - 1 = 0; omega
      · right
        refine ⟨i, i1, ?_, by show r i - 1 + 1 = r o - 1; omega⟩
        rw [hRb i (by omega), i2, decide_eq_true q]; rfl
  · refine set_ext (Nat.lt_of_le_of_lt Nat.and_le_left hxl) hxl (fun o ho => ?_)
    rw [Nat.testBit_and, Nat.testBit_xor, hlb, hob o ho, stL_bit ho]
    by_cases q : fo S = o
    · subst q; simp [hf, hr0]
    · cases S.testBit o <;> simp [q]
  · refine set_ext (or8 hlw hxl) hA (fun o ho => ?_)
    rw [Nat.testBit_or, Nat.testBit_xor, hlb, stL_bit ho]
    by_cases q : fo S = o
    · subst q; simp [hf, hr0]
    · simp [q]
  · unfold oth
    rw [Nat.xor_comm (stL S r 0) (lw S), ← Nat.xor_assoc, Nat.xor_assoc S, Nat.xor_self, Nat.xor_zero]
/-- every row costs at least the plan -/
theorem plP_lo (hK : ∀ A, A < 256 → K A ≤ 8200000) : ∀ (N S : Nat) (r : Nat → Nat), S < 256 → gr S r → (∀ o, o < 8 → S.testBit o = true → r o < N) → plP K S ≤ vR K N S r := by
  intro N
  induction N with
  | zero =>
    intro S r hS hg hN
    have : S = 0 := by
      refine set_ext hS (by decide) (fun o ho => ?_)
      rw [Nat.zero_testBit]
      refine Bool.eq_false_iff.mpr (fun hb => ?_)
      have := hN o ho hb; omega
    rw [this, plP_0]; exact Nat.zero_le _
  | succ N ih =>
    intro S r hS hg hN
    by_cases h0 : S = 0
    · rw [h0, plP_0]; exact Nat.zero_le _
    · obtain ⟨v1, v2, v3, v4, v5, v6⟩ := vR_step (K := K) (N := N) hS h0 hg
      have h1 := (plP_is hK hS h0).2 _ v4
      unfold vlP at h1
      rw [v5, v6] at h1
      have h2 := ih (S ^^^ stL S r 0) (fun o => r o - 1) (xor8 hS (stL_lt _ _ _)) v2 (fun o ho hb => by
        rw [v3 o ho, Bool.and_eq_true] at hb
        have := hN o ho hb.1
        have := of_decide_eq_true hb.2
        show r o - 1 < N
        omega)
      rw [v1]; omega
/-- and one row costs just that -/
theorem plP_at (hK : ∀ A, A < 256 → K A ≤ 8200000) : ∀ (n S : Nat), S ≤ n → S < 256 → ∃ r, gr S r ∧ ∀ N, (∀ o, o < 8 → S.testBit o = true → r o < N) → vR K N S r = plP K S := by
  have zero : ∃ r, gr 0 r ∧ ∀ N, (∀ o, o < 8 → Nat.testBit 0 o = true → r o < N) → vR K N 0 r = plP K 0 := by
    refine ⟨fun _ => 0, (fun o _ hb => by rw [Nat.zero_testBit] at hb; cases hb), fun N _ => ?_⟩
    have e : ∀ l, stL 0 (fun _ => 0) l = 0 := fun l => set_ext (stL_lt _ _ _) (by decide) (fun o ho => by rw [stL_bit ho, Nat.zero_testBit]; rfl)
    unfold vR
    rw [fb_sm_cong (g := fun _ => 0) (fun l _ => by show Wf K _ = 0; rw [e]; rfl), fb_sm_const, plP_0]
    have : dgS 0 (fun _ => 0) = 0 := by decide
    omega
  intro n
  induction n with
  | zero =>
    intro S hn hS
    have : S = 0 := by omega
    subst this; exact zero
  | succ n ih =>
    intro S hn hS
    by_cases h0 : S = 0
    · subst h0; exact zero
    · obtain ⟨l1, l2, l3, l4⟩ := lw_fo S hS h0
      obtain ⟨B, hB, hP⟩ := (plP_is hK hS h0).1
      have hf : S.testBit (fo S) = true := fa_first_yes (fun i => S.testBit i) 8 l1
      have hfn : ∀ i, i < fo S → S.testBit i = false := fa_first_no (fun i => S.testBit i) 8
      have hlb : ∀ o, (lw S).testBit o = decide (fo S = o) := fun o => by rw [l2, Nat.testBit_two_pow]
      have hob : ∀ o, (oth S).testBit o = (S.testBit o ^^ decide (fo S = o)) := fun o => by unfold oth; rw [Nat.testBit_xor, hlb]
      have hRs := xor_sub hB
      have hRle := sub_le hRs
      have hRS : ∀ o, (oth S ^^^ B).testBit o = true → S.testBit o = true ∧ fo S ≠ o := fun o hb => by
        have h := sub_bit hRs hb
        rw [hob] at h
        by_cases q : fo S = o
        · subst q; rw [hf] at h; simp at h
        · refine ⟨?_, q⟩
          simpa [q] using h
      obtain ⟨r', g1, g2⟩ := ih (oth S ^^^ B) (by omega) (by omega)
      have hgS : gr S (fun o => if (oth S ^^^ B).testBit o then r' o + 1 else 0) := by
        intro o ho hb
        show (if (oth S ^^^ B).testBit o then r' o + 1 else 0) = 0 ∨ ∃ i, i < o ∧ S.testBit i = true ∧ (if (oth S ^^^ B).testBit i then r' i + 1 else 0) + 1 = (if (oth S ^^^ B).testBit o then r' o + 1 else 0)
        cases hR : (oth S ^^^ B).testBit o
        · left; rfl
        · right
          rw [if_pos rfl]
          rcases g1 o ho hR with h | ⟨i, i1, i2, i3⟩
          · refine ⟨fo S, ?_, hf, ?_⟩
            · rcases Nat.lt_trichotomy (fo S) o with q | q | q
              · exact q
              · exact absurd q (hRS o hR).2
              · rw [hfn o q] at hb; cases hb
            · have : (oth S ^^^ B).testBit (fo S) = false := Bool.eq_false_iff.mpr (fun hc => (hRS _ hc).2 rfl)
              rw [this, h]; rfl
          · exact ⟨i, i1, (hRS i i2).1, by rw [i2, if_pos rfl, i3]⟩
      refine ⟨_, hgS, fun N hN => ?_⟩
      obtain ⟨N, rfl⟩ : ∃ M, N = M + 1 := ⟨N - 1, by have := hN (fo S) l1 hf; omega⟩
      obtain ⟨v1, v2, v3, v4, v5, v6⟩ := vR_step (K := K) (N := N) hS h0 hgS
      have eR : S ^^^ stL S (fun o => if (oth S ^^^ B).testBit o then r' o + 1 else 0) 0 = oth S ^^^ B := by
        refine set_ext (xor8 hS (stL_lt _ _ _)) (by omega) (fun o ho => ?_)
        rw [v3 o ho]
        cases hR : (oth S ^^^ B).testBit o
        · simp
        · simp [(hRS o hR).1]
      have eA : stL S (fun o => if (oth S ^^^ B).testBit o then r' o + 1 else 0) 0 = lw S ||| B := by
        have hlw : lw S < 256 := by rw [l2]; exact pow8 l1
        have hBle := sub_le hB
        refine set_ext (stL_lt _ _ _) (or8 hlw (by omega)) (fun o ho => ?_)
        rw [stL_bit ho, Nat.testBit_or, hlb, Nat.testBit_xor, hob]
        cases hb : B.testBit o
        · by_cases q : fo S = o
          · subst q; simp [hf]
          · cases S.testBit o <;> simp [q]
        · have h := sub_bit hB hb
          rw [hob] at h
          rw [h]
          by_cases q : fo S = o
          · subst q; rw [hf] at h; simp at h
          · have : S.testBit o = true := by simpa [q] using h
            simp [this]
      rw [v1, eR, eA]
      have e2 : vR K N (oth S ^^^ B) (fun o => (if (oth S ^^^ B).testBit o then r' o + 1 else 0) - 1) = vR K N (oth S ^^^ B) r' := vR_cong (fun o _ hb => by rw [if_pos hb]; rfl)
      rw [e2, g2 N (fun o ho hb => by
        have := hN o ho (hRS o hb).1
        have this : (if (oth S ^^^ B).testBit o then r' o + 1 else 0) < N + 1 := this
        rw [if_pos hb] at this; omega), hP]
      unfold vlP; omega
end PLAN
