/-! ===== rows that grow, in their order; pure ===== -/
def rg (m : Nat) (r : Nat → Nat) : Prop := ∀ k, k < m → r k = 0 ∨ ∃ i, i < k ∧ r i + 1 = r k
def mx1 (r : Nat → Nat) : Nat → Nat
  | 0 => 0
  | k + 1 => max (mx1 r k) (r k + 1)
def dg (r : Nat → Nat) : Nat → Nat
  | 0 => 0
  | n + 1 => 8 * dg r n + r n
def nxt (r : Nat → Nat) (k : Nat) : Nat → Nat := fun i => if i < k then r i else if i = k then r k + 1 else 0
theorem rg_le {m : Nat} {r : Nat → Nat} (h : rg m r) : ∀ n k, k ≤ n → k < m → r k ≤ k := by
  intro n
  induction n with
  | zero => intro k h1 h2; rcases h k h2 with q | ⟨i, i1, _⟩ <;> omega
  | succ n ih =>
    intro k h1 h2
    rcases h k h2 with q | ⟨i, i1, i2⟩
    · omega
    · have := ih i (by omega) (by omega); omega
theorem mx1_gt {r : Nat → Nat} : ∀ {k i : Nat}, i < k → r i < mx1 r k
  | 0, i, h => by omega
  | k + 1, i, h => by
    show r i < max (mx1 r k) (r k + 1)
    by_cases e : i = k
    · subst e; omega
    · have := mx1_gt (r := r) (k := k) (i := i) (by omega); omega
theorem mx1_ex {r : Nat → Nat} : ∀ {k : Nat}, k ≠ 0 → ∃ i, i < k ∧ mx1 r k = r i + 1
  | 0, h => absurd rfl h
  | k + 1, _ => by
    show ∃ i, i < k + 1 ∧ max (mx1 r k) (r k + 1) = r i + 1
    by_cases hk : k = 0
    · subst hk; exact ⟨0, by omega, by show max 0 (r 0 + 1) = _; omega⟩
    · obtain ⟨i, i1, i2⟩ := mx1_ex (r := r) hk
      by_cases h : mx1 r k ≤ r k + 1
      · exact ⟨k, by omega, by omega⟩
      · exact ⟨i, by omega, by omega⟩
theorem mx1_le {m : Nat} {r : Nat → Nat} (h : rg m r) {k : Nat} (hk : k ≤ m) : mx1 r k ≤ k := by
  by_cases h0 : k = 0
  · subst h0; exact Nat.le_refl _
  · obtain ⟨i, i1, i2⟩ := mx1_ex (r := r) h0
    have := rg_le h i i (Nat.le_refl _) (by omega); omega
theorem mx1_cong {r r' : Nat → Nat} : ∀ {k : Nat}, (∀ i, i < k → r i = r' i) → mx1 r k = mx1 r' k
  | 0, _ => rfl
  | k + 1, h => by show max (mx1 r k) (r k + 1) = max (mx1 r' k) (r' k + 1); rw [mx1_cong (fun i hi => h i (by omega)), h k (by omega)]
theorem rg_mx {m : Nat} {r : Nat → Nat} (h : rg m r) {k : Nat} (hk : k < m) : r k ≤ mx1 r k := by
  rcases h k hk with q | ⟨i, i1, i2⟩
  · omega
  · have := mx1_gt (r := r) i1; omega
/-- all numbers below one occur before it -/
theorem rg_all {m : Nat} {r : Nat → Nat} (h : rg m r) : ∀ n i, i ≤ n → i < m → ∀ v, v ≤ r i → ∃ j, j ≤ i ∧ r j = v := by
  intro n
  induction n with
  | zero =>
    intro i h1 h2 v hv
    rcases h i h2 with q | ⟨j, j1, _⟩
    · exact ⟨i, Nat.le_refl _, by omega⟩
    · omega
  | succ n ih =>
    intro i h1 h2 v hv
    by_cases e : v = r i
    · exact ⟨i, Nat.le_refl _, e.symm⟩
    · rcases h i h2 with q | ⟨j, j1, j2⟩
      · omega
      · obtain ⟨k, k1, k2⟩ := ih j (by omega) (by omega) v (by omega)
        exact ⟨k, by omega, k2⟩
theorem dg_cong {r r' : Nat → Nat} : ∀ {n : Nat}, (∀ i, i < n → r i = r' i) → dg r n = dg r' n
  | 0, _ => rfl
  | n + 1, h => by show 8 * dg r n + r n = 8 * dg r' n + r' n; rw [dg_cong (fun i hi => h i (by omega)), h n (by omega)]
theorem dg_inj {r r' : Nat → Nat} : ∀ {n : Nat}, (∀ i, i < n → r i < 8) → (∀ i, i < n → r' i < 8) → dg r n = dg r' n → ∀ i, i < n → r i = r' i
  | 0, _, _, _, i, hi => by omega
  | n + 1, h, h', e, i, hi => by
    have e : 8 * dg r n + r n = 8 * dg r' n + r' n := e
    have a := h n (by omega)
    have b := h' n (by omega)
    by_cases ei : i = n
    · subst ei; omega
    · exact dg_inj (n := n) (fun i hi => h i (by omega)) (fun i hi => h' i (by omega)) (by omega) i (by omega)
theorem dg_lt {r : Nat → Nat} : ∀ {n : Nat}, (∀ i, i < n → r i < 8) → dg r n < 8 ^ n
  | 0, _ => by show 0 < 1; omega
  | n + 1, h => by
    show 8 * dg r n + r n < 8 ^ (n + 1)
    have := dg_lt (n := n) (fun i hi => h i (by omega))
    have := h n (by omega)
    rw [Nat.pow_succ]; omega
section NEXT
variable {m : Nat} {r r' : Nat → Nat}
theorem nx_A (hm : m ≤ 8) (hr : rg m r) (hr' : rg m r') {k : Nat} (hmx : ∀ i, k < i → i < m → mx1 r i ≤ r i) : ∀ n, k + 1 ≤ n → n ≤ m → dg r n < dg r' n → dg r (k + 1) < dg r' (k + 1) := by
  intro n
  induction n with
  | zero => intro h; omega
  | succ n ih =>
    intro h1 h2 h3
    by_cases e : n = k
    · subst e; exact h3
    · have h3 : 8 * dg r n + r n < 8 * dg r' n + r' n := h3
      have b1 := rg_le hr n n (Nat.le_refl _) (by omega)
      have b2 := rg_le hr' n n (Nat.le_refl _) (by omega)
      by_cases q : dg r n < dg r' n
      · exact ih (by omega) (by omega) q
      · have eq : dg r n = dg r' n := by omega
        have same := dg_inj (fun i hi => by have := rg_le hr i i (Nat.le_refl _) (by omega); omega) (fun i hi => by have := rg_le hr' i i (Nat.le_refl _) (by omega); omega) eq
        have l1 := hmx n (by omega) (by omega)
        have l2 := rg_mx hr' (k := n) (by omega)
        rw [← mx1_cong (k := n) same] at l2
        omega
theorem nx_B {k : Nat} (h : dg r (k + 1) < dg r' (k + 1)) : ∀ n, k + 1 ≤ n → dg (nxt r k) n ≤ dg r' n := by
  intro n
  induction n with
  | zero => intro h; omega
  | succ n ih =>
    intro h1
    by_cases e : n = k
    · subst e
      show 8 * dg (nxt r n) n + nxt r n n ≤ _
      have e1 : dg (nxt r n) n = dg r n := dg_cong (fun i hi => by unfold nxt; rw [if_pos hi])
      have e2 : nxt r n n = r n + 1 := by unfold nxt; rw [if_neg (by omega), if_pos rfl]
      have h : 8 * dg r n + r n < dg r' (n + 1) := h
      rw [e1, e2]; omega
    · show 8 * dg (nxt r k) n + nxt r k n ≤ 8 * dg r' n + r' n
      have e2 : nxt r k n = 0 := by unfold nxt; rw [if_neg (by omega), if_neg e]
      have := ih (by omega)
      omega
theorem nx_C {k : Nat} : ∀ n, k + 1 ≤ n → dg r n < dg (nxt r k) n ∨ True := fun _ _ => Or.inr trivial
theorem nx_rg (hr : rg m r) {k : Nat} (h0 : k ≠ 0) (hk : k < m) (hlt : r k < mx1 r k) : rg m (nxt r k) := by
  intro i hi
  by_cases h1 : i < k
  · have e : nxt r k i = r i := by unfold nxt; rw [if_pos h1]
    rcases hr i hi with q | ⟨j, j1, j2⟩
    · left; rw [e]; exact q
    · right
      refine ⟨j, j1, ?_⟩
      rw [e]
      have : nxt r k j = r j := by unfold nxt; rw [if_pos (by omega)]
      rw [this]; exact j2
  · by_cases h2 : i = k
    · subst h2
      right
      have e : nxt r i i = r i + 1 := by unfold nxt; rw [if_neg (by omega), if_pos rfl]
      obtain ⟨j, j1, j2⟩ := mx1_ex (r := r) h0
      obtain ⟨u, u1, u2⟩ := rg_all hr j j (Nat.le_refl _) (by omega) (r i) (by omega)
      refine ⟨u, by omega, ?_⟩
      have : nxt r i u = r u := by unfold nxt; rw [if_pos (by omega)]
      rw [e, this, u2]
    · left; unfold nxt; rw [if_neg h1, if_neg h2]
/-- the next row is the next -/
theorem nx_next (hm : m ≤ 8) (hr : rg m r) {k : Nat} (hk : k < m) (hmx : ∀ i, k < i → i < m → mx1 r i ≤ r i) (hr' : rg m r') (h : dg r' m < dg (nxt r k) m) : dg r' m ≤ dg r m := by
  rcases Nat.lt_or_ge (dg r m) (dg r' m) with q | q
  · have a := nx_A hm hr hr' hmx m (by omega) (Nat.le_refl _) q
    have b := nx_B a m (by omega)
    omega
  · exact q
theorem nx_gt (hm : m ≤ 8) (hr : rg m r) {k : Nat} (h0 : k ≠ 0) (hk : k < m) (hlt : r k < mx1 r k) (hmx : ∀ i, k < i → i < m → mx1 r i ≤ r i) : dg r m < dg (nxt r k) m := by
  have key : ∀ n, k + 1 ≤ n → n ≤ m → dg r n < dg (nxt r k) n := by
    intro n
    induction n with
    | zero => intro h; omega
    | succ n ih =>
      intro h1 h2
      show 8 * dg r n + r n < 8 * dg (nxt r k) n + nxt r k n
      have b1 := rg_le hr n n (Nat.le_refl _) (by omega)
      by_cases e : n = k
      · subst e
        have e1 : dg (nxt r n) n = dg r n := dg_cong (fun i hi => by unfold nxt; rw [if_pos hi])
        have e2 : nxt r n n = r n + 1 := by unfold nxt; rw [if_neg (by omega), if_pos rfl]
        rw [e1, e2]; omega
      · have := ih (by omega) (by omega); omega
  exact key m (by omega) (Nat.le_refl _)
theorem nx_last (hm : m ≤ 8) (hm0 : m ≠ 0) (hr : rg m r) (hmx : ∀ i, 0 < i → i < m → mx1 r i ≤ r i) (hr' : rg m r') : dg r' m ≤ dg r m := by
  rcases Nat.lt_or_ge (dg r m) (dg r' m) with q | q
  · have a := nx_A hm hr hr' (k := 0) hmx m (by omega) (Nat.le_refl _) q
    have z : r' 0 = 0 := by rcases hr' 0 (by omega) with h | ⟨i, i1, _⟩ <;> omega
    have a : 8 * 0 + r 0 < 8 * 0 + r' 0 := a
    omega
  · exact q
end NEXT
-- the row's worth
theorem full_bit {m o : Nat} : (2 ^ m - 1).testBit o = decide (o < m) := Nat.testBit_two_pow_sub_one m o
theorem gr_rg {m : Nat} (hm : m ≤ 8) {r : Nat → Nat} : gr (2 ^ m - 1) r ↔ rg m r := by
  constructor
  · intro h k hk
    rcases h k (by omega) (by rw [full_bit]; exact decide_eq_true hk) with q | ⟨i, i1, i2, i3⟩
    · exact Or.inl q
    · exact Or.inr ⟨i, i1, i3⟩
  · intro h o _ hb
    rw [full_bit] at hb
    have hb := of_decide_eq_true hb
    rcases h o hb with q | ⟨i, i1, i2⟩
    · exact Or.inl q
    · exact Or.inr ⟨i, i1, by rw [full_bit]; exact decide_eq_true (by omega), i2⟩
theorem dgS_dg {m : Nat} (hm : m ≤ 8) (r : Nat → Nat) : dgS (2 ^ m - 1) r = dg r m * 8 ^ (8 - m) := by
  have h1 : dgS (2 ^ m - 1) r = fb_sm (fun o => r o * 8 ^ (7 - o)) m := by
    unfold dgS
    have e8 : 8 = m + (8 - m) := by omega
    have := fb_sm_split (fun o => if (2 ^ m - 1).testBit o then r o * 8 ^ (7 - o) else 0) m (8 - m)
    rw [← e8] at this
    rw [this]
    have z : fb_sm (fun k => if (2 ^ m - 1).testBit (m + k) then r (m + k) * 8 ^ (7 - (m + k)) else 0) (8 - m) = 0 := by
      rw [fb_sm_cong (g := fun _ => 0) (fun k _ => by
        show (if (2 ^ m - 1).testBit (m + k) then r (m + k) * 8 ^ (7 - (m + k)) else 0) = 0
        rw [full_bit, decide_eq_false (by omega)]; rfl), fb_sm_const]; omega
    have y : fb_sm (fun o => if (2 ^ m - 1).testBit o then r o * 8 ^ (7 - o) else 0) m = fb_sm (fun o => r o * 8 ^ (7 - o)) m := fb_sm_cong (fun o ho => by
      show (if (2 ^ m - 1).testBit o then r o * 8 ^ (7 - o) else 0) = r o * 8 ^ (7 - o)
      rw [full_bit, decide_eq_true ho]; rfl)
    rw [z, y, Nat.add_zero]
  have h2 : ∀ n, n ≤ 8 → fb_sm (fun o => r o * 8 ^ (7 - o)) n = dg r n * 8 ^ (8 - n) := by
    intro n
    induction n with
    | zero => intro _; show 0 = 0 * _; rw [Nat.zero_mul]
    | succ n ih =>
      intro hn
      show fb_sm (fun o => r o * 8 ^ (7 - o)) n + r n * 8 ^ (7 - n) = (8 * dg r n + r n) * 8 ^ (8 - (n + 1))
      rw [ih (by omega)]
      have e : 8 - n = (7 - n) + 1 := by omega
      have e2 : 8 - (n + 1) = 7 - n := by omega
      rw [e, e2, Nat.pow_succ, Nat.add_mul, Nat.mul_comm (8 ^ (7 - n)) 8, ← Nat.mul_assoc, Nat.mul_comm (dg r n) 8]
  rw [h1, h2 m hm]
def cs (K : Nat → Nat) (m : Nat) (r : Nat → Nat) : Nat := fb_sm (fun l => K (stL (2 ^ m - 1) r l)) (mx1 r m)
def vF (K : Nat → Nat) (m : Nat) (r : Nat → Nat) : Nat := cs K m r * 2 ^ 28 + mx1 r m * 2 ^ 24 + dgS (2 ^ m - 1) r
theorem vR_F {K : Nat → Nat} {m : Nat} (hm : m ≤ 8) {r : Nat → Nat} (hr : rg m r) : vR K 8 (2 ^ m - 1) r = vF K m r := by
  have hn := mx1_le hr (Nat.le_refl m)
  unfold vR vF
  have e8 : 8 = mx1 r m + (8 - mx1 r m) := by omega
  have hs := fb_sm_split (fun l => Wf K (stL (2 ^ m - 1) r l)) (mx1 r m) (8 - mx1 r m)
  rw [← e8] at hs
  have z : fb_sm (fun k => Wf K (stL (2 ^ m - 1) r (mx1 r m + k))) (8 - mx1 r m) = 0 := by
    rw [fb_sm_cong (g := fun _ => 0) (fun k _ => by
      show Wf K (stL (2 ^ m - 1) r (mx1 r m + k)) = 0
      have : stL (2 ^ m - 1) r (mx1 r m + k) = 0 := set_ext (stL_lt _ _ _) (by decide) (fun o ho => by
        rw [stL_bit ho, full_bit, Nat.zero_testBit]
        by_cases q : o < m
        · have := mx1_gt (r := r) q
          rw [decide_eq_true q, Bool.true_and]
          exact decide_eq_false (by omega)
        · rw [decide_eq_false q]; rfl)
      rw [this]; rfl), fb_sm_const]; omega
  have y : fb_sm (fun l => Wf K (stL (2 ^ m - 1) r l)) (mx1 r m) = cs K m r * 2 ^ 28 + mx1 r m * 2 ^ 24 := by
    have e : fb_sm (fun l => Wf K (stL (2 ^ m - 1) r l)) (mx1 r m) = fb_sm (fun l => K (stL (2 ^ m - 1) r l) * 2 ^ 28 + 2 ^ 24) (mx1 r m) := fb_sm_cong (fun l hl => by
      show Wf K (stL (2 ^ m - 1) r l) = K (stL (2 ^ m - 1) r l) * 2 ^ 28 + 2 ^ 24
      have hne : stL (2 ^ m - 1) r l ≠ 0 := fun hc => by
        have h0 : m ≠ 0 := fun h => by subst h; exact absurd hl (Nat.not_lt_zero _)
        obtain ⟨i, i1, i2⟩ := mx1_ex (r := r) h0
        obtain ⟨j, j1, j2⟩ := rg_all hr i i (Nat.le_refl _) i1 l (by omega)
        have hb := stL_bit (S := 2 ^ m - 1) (r := r) (l := l) (o := j) (by omega)
        rw [hc, Nat.zero_testBit, full_bit, decide_eq_true (show j < m by omega), decide_eq_true j2] at hb
        cases hb
      unfold Wf; rw [if_neg hne])
    rw [e, fb_sm_add, fb_sm_const]
    have : fb_sm (fun l => K (stL (2 ^ m - 1) r l) * 2 ^ 28) (mx1 r m) = cs K m r * 2 ^ 28 := by
      unfold cs
      have gen : ∀ (f : Nat → Nat) (c n : Nat), fb_sm (fun l => f l * c) n = fb_sm f n * c := by
        intro f c n
        induction n with
        | zero => show 0 = 0 * c; rw [Nat.zero_mul]
        | succ n ih => show fb_sm (fun l => f l * c) n + f n * c = (fb_sm f n + f n) * c; rw [ih, Nat.add_mul]
      exact gen _ _ _
    rw [this]
  rw [hs, z, y]; omega
theorem vF_parts {K : Nat → Nat} {m : Nat} (hm : m ≤ 8) {r : Nat → Nat} (hr : rg m r) : mx1 r m ≤ 8 ∧ dgS (2 ^ m - 1) r < 16777216 := by
  refine ⟨by have := mx1_le hr (Nat.le_refl m); omega, ?_⟩
  rw [dgS_dg hm]
  have h := dg_lt (r := r) (n := m) (fun i hi => by have := rg_le hr i i (Nat.le_refl _) hi; omega)
  have e : 8 ^ m * 8 ^ (8 - m) = 16777216 := by rw [← Nat.pow_add, show m + (8 - m) = 8 by omega]
  have : dg r m * 8 ^ (8 - m) < 8 ^ m * 8 ^ (8 - m) := (Nat.mul_lt_mul_right (Nat.pow_pos (by decide))).mpr h
  omega
theorem vF_digit {K : Nat → Nat} {m : Nat} (hm : m ≤ 8) {r : Nat → Nat} (hr : rg m r) {o : Nat} (ho : o < m) : vF K m r / 8 ^ (7 - o) % 8 = r o ∧ vF K m r / 2 ^ 28 = cs K m r := by
  have hb : ∀ i, i < m → r i < 8 := fun i hi => by have := rg_le hr i i (Nat.le_refl _) hi; omega
  obtain ⟨p1, p2⟩ := vF_parts (K := K) hm hr
  have hd : dgS (2 ^ m - 1) r = fb_sm (fun i => (if i < m then r i else 0) * 8 ^ (7 - i)) 8 := fb_sm_cong (fun i _ => by
    show (if (2 ^ m - 1).testBit i then r i * 8 ^ (7 - i) else 0) = (if i < m then r i else 0) * 8 ^ (7 - i)
    rw [full_bit]
    by_cases q : i < m
    · rw [decide_eq_true q, if_pos q]; rfl
    · rw [decide_eq_false q, if_neg q, Nat.zero_mul]; rfl)
  have hex : ∀ a : Nat → Nat, fb_sm (fun i => a i * 8 ^ (7 - i)) 8 = a 0 * 2097152 + a 1 * 262144 + a 2 * 32768 + a 3 * 4096 + a 4 * 512 + a 5 * 64 + a 6 * 8 + a 7 := fun a => by
    show 0 + a 0 * 8 ^ 7 + a 1 * 8 ^ 6 + a 2 * 8 ^ 5 + a 3 * 8 ^ 4 + a 4 * 8 ^ 3 + a 5 * 8 ^ 2 + a 6 * 8 ^ 1 + a 7 * 8 ^ 0 = _
    omega
  rw [hex] at hd
  have ha : ∀ i, (if i < m then r i else 0) < 8 := fun i => by
    by_cases q : i < m
    · rw [if_pos q]; exact hb i q
    · rw [if_neg q]; decide
  have ho' : (if o < m then r o else 0) = r o := if_pos ho
  unfold vF
  generalize dgS (2 ^ m - 1) r = D at *
  generalize cs K m r = C at *
  generalize mx1 r m = n at *
  refine ⟨?_, by omega⟩
  rw [← ho']
  have a0 := ha 0
  have a1 := ha 1
  have a2 := ha 2
  have a3 := ha 3
  have a4 := ha 4
  have a5 := ha 5
  have a6 := ha 6
  have a7 := ha 7
  have h8 : o = 0 ∨ o = 1 ∨ o = 2 ∨ o = 3 ∨ o = 4 ∨ o = 5 ∨ o = 6 ∨ o = 7 := by omega
  clear ho' hb ho ha hex
  have hd : D = (if 0 < m then r 0 else 0) * 2097152 + (if 1 < m then r 1 else 0) * 262144 + (if 2 < m then r 2 else 0) * 32768 + (if 3 < m then r 3 else 0) * 4096 + (if 4 < m then r 4 else 0) * 512 + (if 5 < m then r 5 else 0) * 64 + (if 6 < m then r 6 else 0) * 8 + (if 7 < m then r 7 else 0) := hd
  rcases h8 with rfl | rfl | rfl | rfl | rfl | rfl | rfl | rfl
  · rw [show (8 : Nat) ^ (7 - 0) = 2097152 by decide]
    generalize (if 0 < m then r 0 else 0) = z0 at *
    generalize (if 1 < m then r 1 else 0) = z1 at *
    generalize (if 2 < m then r 2 else 0) = z2 at *
    generalize (if 3 < m then r 3 else 0) = z3 at *
    generalize (if 4 < m then r 4 else 0) = z4 at *
    generalize (if 5 < m then r 5 else 0) = z5 at *
    generalize (if 6 < m then r 6 else 0) = z6 at *
    generalize (if 7 < m then r 7 else 0) = z7 at *
    omega
  · rw [show (8 : Nat) ^ (7 - 1) = 262144 by decide]
    generalize (if 0 < m then r 0 else 0) = z0 at *
    generalize (if 1 < m then r 1 else 0) = z1 at *
    generalize (if 2 < m then r 2 else 0) = z2 at *
    generalize (if 3 < m then r 3 else 0) = z3 at *
    generalize (if 4 < m then r 4 else 0) = z4 at *
    generalize (if 5 < m then r 5 else 0) = z5 at *
    generalize (if 6 < m then r 6 else 0) = z6 at *
    generalize (if 7 < m then r 7 else 0) = z7 at *
    omega
  · rw [show (8 : Nat) ^ (7 - 2) = 32768 by decide]
    generalize (if 0 < m then r 0 else 0) = z0 at *
    generalize (if 1 < m then r 1 else 0) = z1 at *
    generalize (if 2 < m then r 2 else 0) = z2 at *
    generalize (if 3 < m then r 3 else 0) = z3 at *
    generalize (if 4 < m then r 4 else 0) = z4 at *
    generalize (if 5 < m then r 5 else 0) = z5 at *
    generalize (if 6 < m then r 6 else 0) = z6 at *
    generalize (if 7 < m then r 7 else 0) = z7 at *
    omega
  · rw [show (8 : Nat) ^ (7 - 3) = 4096 by decide]
    generalize (if 0 < m then r 0 else 0) = z0 at *
    generalize (if 1 < m then r 1 else 0) = z1 at *
    generalize (if 2 < m then r 2 else 0) = z2 at *
    generalize (if 3 < m then r 3 else 0) = z3 at *
    generalize (if 4 < m then r 4 else 0) = z4 at *
    generalize (if 5 < m then r 5 else 0) = z5 at *
    generalize (if 6 < m then r 6 else 0) = z6 at *
    generalize (if 7 < m then r 7 else 0) = z7 at *
    omega
  · rw [show (8 : Nat) ^ (7 - 4) = 512 by decide]
    generalize (if 0 < m then r 0 else 0) = z0 at *
    generalize (if 1 < m then r 1 else 0) = z1 at *
    generalize (if 2 < m then r 2 else 0) = z2 at *
    generalize (if 3 < m then r 3 else 0) = z3 at *
    generalize (if 4 < m then r 4 else 0) = z4 at *
    generalize (if 5 < m then r 5 else 0) = z5 at *
    generalize (if 6 < m then r 6 else 0) = z6 at *
    generalize (if 7 < m then r 7 else 0) = z7 at *
    omega
  · rw [show (8 : Nat) ^ (7 - 5) = 64 by decide]
    generalize (if 0 < m then r 0 else 0) = z0 at *
    generalize (if 1 < m then r 1 else 0) = z1 at *
    generalize (if 2 < m then r 2 else 0) = z2 at *
    generalize (if 3 < m then r 3 else 0) = z3 at *
    generalize (if 4 < m then r 4 else 0) = z4 at *
    generalize (if 5 < m then r 5 else 0) = z5 at *
    generalize (if 6 < m then r 6 else 0) = z6 at *
    generalize (if 7 < m then r 7 else 0) = z7 at *
    omega
  · rw [show (8 : Nat) ^ (7 - 6) = 8 by decide]
    generalize (if 0 < m then r 0 else 0) = z0 at *
    generalize (if 1 < m then r 1 else 0) = z1 at *
    generalize (if 2 < m then r 2 else 0) = z2 at *
    generalize (if 3 < m then r 3 else 0) = z3 at *
    generalize (if 4 < m then r 4 else 0) = z4 at *
    generalize (if 5 < m then r 5 else 0) = z5 at *
    generalize (if 6 < m then r 6 else 0) = z6 at *
    generalize (if 7 < m then r 7 else 0) = z7 at *
    omega
  · rw [show (8 : Nat) ^ (7 - 7) = 1 by decide]
    generalize (if 0 < m then r 0 else 0) = z0 at *
    generalize (if 1 < m then r 1 else 0) = z1 at *
    generalize (if 2 < m then r 2 else 0) = z2 at *
    generalize (if 3 < m then r 3 else 0) = z3 at *
    generalize (if 4 < m then r 4 else 0) = z4 at *
    generalize (if 5 < m then r 5 else 0) = z5 at *
    generalize (if 6 < m then r 6 else 0) = z6 at *
    generalize (if 7 < m then r 7 else 0) = z7 at *
    omega
theorem plP_row {K : Nat → Nat} (hK : ∀ A, A < 256 → K A ≤ 8200000) {m : Nat} (hm : m ≤ 8) {r : Nat → Nat} (hr : rg m r) (hmin : ∀ r', rg m r' → vF K m r ≤ vF K m r') : plP K (2 ^ m - 1) = vF K m r := by
  have h8 : 2 ^ m - 1 < 256 := by
    have h : 2 ^ m ≤ 2 ^ 8 := Nat.pow_le_pow_right (by decide) hm
    omega
  have lt8 : ∀ r, rg m r → ∀ o, o < 8 → (2 ^ m - 1).testBit o = true → r o < 8 := fun r hr o ho hb => by
    rw [full_bit] at hb
    have := rg_le hr o o (Nat.le_refl _) (of_decide_eq_true hb); omega
  have lo := plP_lo hK 8 (2 ^ m - 1) r h8 ((gr_rg hm).mpr hr) (lt8 r hr)
  obtain ⟨s, g1, g2⟩ := plP_at hK (2 ^ m - 1) (2 ^ m - 1) (Nat.le_refl _) h8
  have hs := (gr_rg hm).mp g1
  have at8 := g2 8 (lt8 s hs)
  have q := hmin s hs
  rw [vR_F hm hr] at lo
  rw [vR_F hm hs] at at8
  omega
