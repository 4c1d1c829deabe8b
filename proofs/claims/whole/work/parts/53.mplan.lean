/-! ===== best and loom, the reference ===== -/
section MPLAN
variable {G : aG} {μ : aMem} {X : aX}
theorem r_X7_mostAhead {r : Nat → Nat} {k : Nat} (hk : k ≤ 8) (hr : ∀ o, o < k → μ.1 59 o = nI (r o) ∧ r o < 8) : a_Spec G sX7_mostAhead [.ref 36, .int (nI k)] μ (fun v ν => ν = μ ∧ ∃ z : Int32, v = some (.int z) ∧ z.toInt = (mx1 r k : Int) - 1) := by
  refine w_X7_mostAhead_0 _ ?_
  have hb : ∀ i, i ≤ k → mx1 r i ≤ 8 := by
    intro i
    induction i with
    | zero => intro _; exact Nat.zero_le _
    | succ i ih => intro h; have := ih (by omega); have := (hr i (by omega)).2; show max (mx1 r i) (r i + 1) ≤ 8; omega
  refine a_for (fun i (x : Int32) => a_Runs G sX7_mostAhead 4 [(0, .ref 36), (1, .int (nI k)), (2, .int x), (3, .int (nI i))] [] μ _) (fun i x => x.toInt = (mx1 r i : Int) - 1) k ?_ ?_ 0 (-1) (by omega) (by show (-1 : Int32).toInt = ((0 : Nat) : Int) - 1; decide)
  · intro x hx
    exact w_X7_mostAhead_4 _ _ _ ⟨fun _ => ⟨rfl, x, rfl, hx⟩, fun h => absurd (by rw [q_le] <;> omega) h⟩
  · intro i x hi hx ih
    obtain ⟨h1, h2⟩ := hr i hi
    have hmi := hb i (by omega)
    refine w_X7_mostAhead_4 _ _ _ ⟨fun h => ?_, fun _ => ?_⟩
    · rw [q_le (by omega) (by omega)] at h; omega
    rw [q_in (by omega), q_cl (by omega), h1, z_leI, z_nI (by omega), hx, nI_add]
    refine ⟨by omega, fun h => ih _ ?_, fun h => ⟨by omega, ih _ ?_⟩⟩
    · rw [hx]; show _ = ((max (mx1 r i) (r i + 1) : Nat) : Int) - 1; omega
    · rw [z_nI (by omega)]; show _ = ((max (mx1 r i) (r i + 1) : Nat) : Int) - 1; omega
theorem r_X7_nextRow (ho : xO X) (hm0 : X 14 0 ≠ 0) (h22 : μ.1 36 22 = nI (X 14 0)) {r : Nat → Nat} (hrg : rg (X 14 0) r) (hr : ∀ o, o < X 14 0 → μ.1 59 o = nI (r o)) :
    a_Spec G sX7_nextRow [.ref 36] μ (fun v ν => (v = some (.int (nI 0)) ∧ ν = μ ∧ ∀ i, 0 < i → i < X 14 0 → mx1 r i ≤ r i) ∨ (v = some (.int (nI 1)) ∧ ∃ k c, k ≠ 0 ∧ k < X 14 0 ∧ r k < mx1 r k ∧ (∀ i, k < i → i < X 14 0 → mx1 r i ≤ r i) ∧ ν = (va_up μ.1 59 c, μ.2) ∧ ∀ o, o < X 14 0 → c o = nI (nxt r k o))) := by
  have hm := ho.1
  have hb : ∀ o, o < X 14 0 → r o < 8 := fun o h => by have := rg_le hrg o o (Nat.le_refl _) h; omega
  generalize hpo : (fun (v : Option Value) (ν : aMem) => (v = some (.int (nI 0)) ∧ ν = μ ∧ ∀ i, 0 < i → i < X 14 0 → mx1 r i ≤ r i) ∨ (v = some (.int (nI 1)) ∧ ∃ k c, k ≠ 0 ∧ k < X 14 0 ∧ r k < mx1 r k ∧ (∀ i, k < i → i < X 14 0 → mx1 r i ≤ r i) ∧ ν = (va_up μ.1 59 c, μ.2) ∧ ∀ o, o < X 14 0 → c o = nI (nxt r k o))) = post
  refine w_X7_nextRow_0 ?_
  rw [h22, q_sub (by omega)]
  have key : ∀ k, k < X 14 0 → (∀ i, k < i → i < X 14 0 → mx1 r i ≤ r i) → a_Runs G sX7_nextRow 7 [(0, .ref 36), (1, .int (nI k))] [] μ post := by
    intro k
    induction k with
    | zero =>
      intro _ hmx
      refine w_X7_nextRow_7 _ ⟨fun _ => ⟨fun h => ?_, fun _ => ⟨nI_00, ?_⟩⟩, fun h => absurd (by rw [q_le0] <;> omega) h⟩
      · rw [q_lt0 (by omega)] at h; omega
      · rw [← hpo]; exact Or.inl ⟨rfl, rfl, hmx⟩
    | succ k ih =>
      intro hk hmx
      have bk := hb (k + 1) hk
      have mk := mx1_le hrg (k := k + 1) (by omega)
      refine w_X7_nextRow_7 _ ⟨fun h => ?_, fun _ => ?_⟩
      · rw [q_le0 (by omega)] at h; omega
      rw [q_in (by omega)]
      refine ⟨by omega, (r_X7_mostAhead (r := r) (k := k + 1) (by omega) (fun o h => ⟨hr o (by omega), hb o (by omega)⟩)).mono ?_⟩
      rintro v ν ⟨rfl, z, rfl, hz⟩
      refine ⟨z, rfl, ?_⟩
      rw [q_cl (by omega), hr (k + 1) hk, z_leI (nI (r (k + 1))), z_nI (by omega), hz, q_lt0 (by omega), nI_add, nI_add]
      refine ⟨fun h => ⟨fun _ => ⟨by omega, by omega, ?_⟩, fun h => by omega⟩, fun h => ?_⟩
      · have hlt : r (k + 1) < mx1 r (k + 1) := by omega
        refine a_for (fun i (c : Nat → Int32) => a_Runs G sX7_nextRow 51 [(0, .ref 36), (2, .int (nI i))] [] (va_up ν.1 59 c, ν.2) post) (fun i c => k + 2 ≤ i ∧ ∀ o, o < X 14 0 → c o = nI (if o < i then nxt r (k + 1) o else r o)) (X 14 0) ?_ ?_ (k + 1 + 1) (upd (ν.1 59) (k + 1) (nI (r (k + 1) + 1))) (by omega) ⟨Nat.le_refl _, fun o hoo => ?_⟩
        · rintro c ⟨_, hc⟩
          refine w_X7_nextRow_51 _ ⟨fun _ => ⟨nI_11, ?_⟩, fun h => absurd (by show ν.1 36 22 ≤ _; rw [h22, q_le] <;> omega) h⟩
          rw [← hpo]
          exact Or.inr ⟨rfl, k + 1, c, by omega, hk, hlt, hmx, rfl, fun o hoo => by rw [hc o hoo, if_pos hoo]⟩
        · rintro i c hi ⟨h2, hc⟩ ih2
          refine w_X7_nextRow_51 _ ⟨fun h => ?_, fun _ => ?_⟩
          · have h : ν.1 36 22 ≤ nI i := h
            rw [h22, q_le (by omega) (by omega)] at h; omega
          rw [q_in (by omega), q_cl (by omega), nI_add]
          refine ⟨by omega, ?_⟩
          show a_Runs G sX7_nextRow 51 _ [] (va_up (va_up ν.1 59 c) 59 (upd c i (nI 0)), ν.2) post
          rw [bx_uu]
          refine ih2 _ ⟨by omega, fun o hoo => ?_⟩
          by_cases eo : o = i
          · subst eo
            have : nxt r (k + 1) o = 0 := by unfold nxt; rw [if_neg (by omega), if_neg (by omega)]
            rw [pk_us, if_pos (by omega), this]
          · rw [pk_un eo, hc o hoo]
            by_cases q : o < i
            · rw [if_pos q, if_pos (by omega)]
            · rw [if_neg q, if_neg (by omega)]
        · by_cases eo : o = k + 1
          · subst eo
            have : nxt r (k + 1) (k + 1) = r (k + 1) + 1 := by unfold nxt; rw [if_neg (by omega), if_pos rfl]
            rw [pk_us, if_pos (by omega), this]
          · rw [pk_un eo, hr o hoo]
            by_cases q : o < k + 1 + 1
            · rw [if_pos q]; congr 1; unfold nxt; rw [if_pos (by omega)]
            · rw [if_neg q]
      · rw [q_m1 (by omega)]
        refine ih (by omega) (fun i hi1 hi2 => ?_)
        by_cases e : i = k + 1
        · subst e; omega
        · exact hmx i (by omega) hi2
  exact key (X 14 0 - 1) (by omega) (fun i h1 h2 => by omega)
theorem stL_m {m : Nat} (hm : m ≤ 8) (r : Nat → Nat) (l : Nat) : stL (2 ^ m - 1) r l = orF (fun o => if r o = l then 2 ^ o else 0) m ∧ stL (2 ^ m - 1) r l < 2 ^ m := by
  have hlt : orF (fun o => if r o = l then 2 ^ o else 0) m < 2 ^ m := orF_lt (fun o ho => by
    show (if r o = l then 2 ^ o else 0) < 2 ^ m
    split
    · exact Nat.pow_lt_pow_right (by decide) ho
    · exact Nat.two_pow_pos _)
  have h8 : 2 ^ m ≤ 256 := by have h : 2 ^ m ≤ 2 ^ 8 := Nat.pow_le_pow_right (by decide) hm
                              omega
  have e : stL (2 ^ m - 1) r l = orF (fun o => if r o = l then 2 ^ o else 0) m := by
    refine set_ext (stL_lt _ _ _) (by omega) (fun o ho => ?_)
    rw [stL_bit ho, full_bit]
    by_cases q : o < m
    · have := orF_if (b := fun o => decide (r o = l)) q
      rw [decide_eq_true q, Bool.true_and]
      have e2 : orF (fun o => if r o = l then 2 ^ o else 0) m = orF (fun d => if decide (r d = l) then 2 ^ d else 0) m := orF_cong (fun i _ => by
        by_cases hh : r i = l
        · rw [if_pos hh, decide_eq_true hh]; rfl
        · rw [if_neg hh, decide_eq_false hh]; rfl)
      rw [e2, this]
    · have hp : 2 ^ m ≤ 2 ^ o := Nat.pow_le_pow_right (by decide) (by omega)
      rw [decide_eq_false q, Nat.testBit_lt_two_pow (by omega)]; rfl
  exact ⟨e, by rw [e]; exact hlt⟩
theorem cs_le (hx : xW X) (ho : xO X) {r : Nat → Nat} (hr : rg (X 14 0) r) : ∀ n, n ≤ mx1 r (X 14 0) → fb_sm (fun l => kX X (stL (2 ^ X 14 0 - 1) r l)) n ≤ 65600000 := fun n hn => by
  have h := fb_sm_bound (f := fun l => kX X (stL (2 ^ X 14 0 - 1) r l)) (c := 8200000) (n := n) (fun k _ => (kX_le hx ho _).1)
  have := mx1_le hr (Nat.le_refl _)
  have := ho.1
  omega
/-- one row against the best so far -/
def bst (X : aX) (N : aMem) (x : Int32) : Option (Nat → Nat) → Prop
  | none => N.2 36 29 = (-1 : Int64) ∧ x = nI 9
  | some b => rg (X 14 0) b ∧ N.2 36 29 = lN (cs (kX X) (X 14 0) b) ∧ x = nI (mx1 b (X 14 0)) ∧ ∀ o, o < X 14 0 → N.1 60 o = nI (b o)
def LI (X : aX) (μ N : aMem) (r : Nat → Nat) : Prop := a_eqx [36, 59, 60, 61] μ N ∧ N.1 36 = μ.1 36 ∧ (∀ A, A ≠ 0 → A < 2 ^ X 14 0 → N.2 61 A = lN (kX X A)) ∧ rg (X 14 0) r ∧ ∀ o, o < X 14 0 → N.1 59 o = nI (r o)
theorem lp_loop (hx : xW X) (ho : xO X) (hm0 : X 14 0 ≠ 0) (h22 : μ.1 36 22 = nI (X 14 0)) {post : aPost} (hpost : ∀ N, a_eqx [36, 59, 60, 61] μ N → N.1 36 = μ.1 36 → N.2 36 29 = lN (plX X / 2 ^ 28) → (∀ o, o < X 14 0 → N.1 60 o = nI (plX X / 8 ^ (7 - o) % 8)) → post none N) :
    ∀ (f : Nat) (N : aMem) (x : Int32) (r : Nat → Nat) (b : Option (Nat → Nat)), 16777216 - dg r (X 14 0) ≤ f → LI X μ N r → bst X N x b → (∀ r', rg (X 14 0) r' → dg r' (X 14 0) < dg r (X 14 0) → ∃ rb, b = some rb ∧ vF (kX X) (X 14 0) rb ≤ vF (kX X) (X 14 0) r') → (∀ rb, b = some rb → dg rb (X 14 0) < dg r (X 14 0)) → a_Runs G sX7_layPlan 120 [(0, .ref 36), (1, .int x), (2, .int (nI 1))] [] N post := by
  have hm := ho.1
  intro f
  induction f with
  | zero =>
    intro N x r b hf hL
    have := dg_lt (r := r) (n := X 14 0) (fun i hi => by have := rg_le hL.2.2.2.1 i i (Nat.le_refl _) hi; omega)
    have h8 : 8 ^ X 14 0 ≤ 8 ^ 8 := Nat.pow_le_pow_right (by decide) hm
    omega
  | succ f ihf =>
    intro N x r b hf hL hB hlo hbl
    obtain ⟨L1, L2, L3, L4, L5⟩ := id hL
    have hb8 : ∀ o, o < X 14 0 → r o < 8 := fun o h => by have := rg_le L4 o o (Nat.le_refl _) h; omega
    have n22 : N.1 36 22 = nI (X 14 0) := by rw [L2]; exact h22
    have hn := mx1_le L4 (Nat.le_refl (X 14 0))
    have hnp : 1 ≤ mx1 r (X 14 0) := by
      obtain ⟨i, i1, i2⟩ := mx1_ex (r := r) hm0; omega
    -- behind the choice: the next row
    have after : ∀ (N' : aMem) (x' : Int32) (rb : Nat → Nat), LI X μ N' r → bst X N' x' (some rb) → (∀ r', rg (X 14 0) r' → dg r' (X 14 0) ≤ dg r (X 14 0) → vF (kX X) (X 14 0) rb ≤ vF (kX X) (X 14 0) r') → dg rb (X 14 0) ≤ dg r (X 14 0) → a_Spec G sX7_nextRow [.ref 36] N' (fun r1 m1 => ∃ v1 : Int32, r1 = some (.int v1) ∧ a_Runs G sX7_layPlan 120 [(0, .ref 36), (1, .int x'), (2, .int v1)] [] m1 post) := by
      intro N' x' rb hL' hB' hall hle
      obtain ⟨L1', L2', L3', L4', L5'⟩ := id hL'
      refine (r_X7_nextRow ho hm0 (by rw [L2']; exact h22) L4 L5').mono ?_
      rintro v ν (⟨rfl, rfl, hmx⟩ | ⟨rfl, k, c, k0, k1, k2, k3, rfl, k4⟩)
      · refine ⟨_, rfl, w_X7_layPlan_120 _ _ ⟨fun _ => ?_, fun h => absurd n00 h⟩⟩
        have hmin : ∀ r', rg (X 14 0) r' → vF (kX X) (X 14 0) rb ≤ vF (kX X) (X 14 0) r' := fun r' hr' => hall r' hr' (nx_last hm hm0 L4 hmx hr')
        have hpl : plX X = vF (kX X) (X 14 0) rb := plP_row (fun A _ => (kX_le hx ho A).1) hm hB'.1 hmin
        refine hpost ν L1' L2' ?_ (fun o hoo => ?_)
        · rw [hpl, (vF_digit hm hB'.1 (o := 0) (by omega)).2]; exact hB'.2.1
        · rw [hpl, (vF_digit hm hB'.1 hoo).1]; exact hB'.2.2.2 o hoo
      · refine ⟨_, rfl, ihf _ _ (nxt r k) (some rb) ?_ ⟨L1'.t2 (a_eqx.u1 N' 59 c (by simp)), L2', L3', nx_rg L4 k0 k1 k2, k4⟩ hB' (fun r' hr' hlt => ⟨rb, rfl, hall r' hr' (nx_next hm L4 k1 k3 hr' hlt)⟩) (fun q hq => ?_)⟩
        · have := nx_gt hm L4 k0 k1 k2 k3
          omega
        · cases hq
          have := nx_gt hm L4 k0 k1 k2 k3
          omega
    refine w_X7_layPlan_120 _ _ ⟨fun h => absurd h n10, fun _ => ?_⟩
    rw [n22]
    refine (r_X7_mostAhead (μ := N) (r := r) hm (fun o h => ⟨L5 o h, hb8 o h⟩)).mono ?_
    rintro v ν ⟨rfl, z, rfl, hz⟩
    have ez : z + nI 1 = nI (mx1 r (X 14 0)) := by
      rw [← Int32.toInt_inj, fb_addI (by rw [hz, z_nI (by decide)]; omega) (by rw [hz, z_nI (by decide)]; omega), hz, z_nI (by decide), z_nI (by omega)]; omega
    refine ⟨z, rfl, ?_⟩
    rw [ez]
    refine a_for (fun l (_ : Unit) => a_Runs G sX7_layPlan 141 [(0, .ref 36), (1, .int x), (3, .int (nI (mx1 r (X 14 0)))), (4, .long (lN (fb_sm (fun l => kX X (stL (2 ^ X 14 0 - 1) r l)) l))), (6, .int (nI l))] [] ν post) (fun _ _ => True) (mx1 r (X 14 0)) ?_ ?_ 0 () (by omega) trivial
    · intro _ _
      have hcs := cs_le hx ho L4 (mx1 r (X 14 0)) (Nat.le_refl _)
      have hcs : cs (kX X) (X 14 0) r ≤ 65600000 := hcs
      -- r is taken
      have take : (∀ r', rg (X 14 0) r' → dg r' (X 14 0) ≤ dg r (X 14 0) → vF (kX X) (X 14 0) r ≤ vF (kX X) (X 14 0) r') → a_Runs G sX7_layPlan 256 [(0, .ref 36), (1, .int (nI (mx1 r (X 14 0)))), (6, .int (nI 0))] [] (ν.1, va_up ν.2 36 (vp_updL (ν.2 36) 29 (lN (cs (kX X) (X 14 0) r)))) post := by
        intro hall
        have main := a_for (fun i (c : Nat → Int32) => a_Runs G sX7_layPlan 256 [(0, .ref 36), (1, .int (nI (mx1 r (X 14 0)))), (6, .int (nI i))] [] (va_up ν.1 60 c, va_up ν.2 36 (vp_updL (ν.2 36) 29 (lN (cs (kX X) (X 14 0) r)))) post) (fun i c => ∀ o, o < i → c o = nI (r o)) (X 14 0) ?_ ?_ 0 (ν.1 60) (by omega) (fun o h => by omega)
        · rw [a_self1] at main; exact main
        · intro c hc
          refine w_X7_layPlan_256 _ _ ⟨fun _ => ?_, fun h => absurd (by show ν.1 36 22 ≤ _; rw [n22, q_le] <;> omega) h⟩
          refine after (va_up ν.1 60 c, va_up ν.2 36 (vp_updL (ν.2 36) 29 (lN (cs (kX X) (X 14 0) r)))) (nI (mx1 r (X 14 0))) r ⟨(L1.t2 (a_eqx.u1 ν 60 c (by simp))).t2 (a_eqx.ul _ 36 _ (by simp)), L2, L3, L4, L5⟩ ⟨L4, ?_, rfl, hc⟩ hall (Nat.le_refl _)
          exact vp_updL_s (ν.2 36) 29 _
        · intro i c hi hc ih2
          refine w_X7_layPlan_256 _ _ ⟨fun h => ?_, fun _ => ?_⟩
          · have h : ν.1 36 22 ≤ nI i := h
            rw [n22, q_le (by omega) (by omega)] at h; omega
          have e59 : ((va_up ν.1 60 c, va_up ν.2 36 (vp_updL (ν.2 36) 29 (lN (cs (kX X) (X 14 0) r)))) : aMem).1 59 i = nI (r i) := L5 i hi
          rw [q_in (by omega), q_cl (by omega), e59, nI_add]
          refine ⟨by omega, by omega, ?_⟩
          show a_Runs G sX7_layPlan 256 _ [] (va_up (va_up ν.1 60 c) 60 (upd c i (nI (r i))), va_up ν.2 36 (vp_updL (ν.2 36) 29 (lN (cs (kX X) (X 14 0) r)))) post
          rw [bx_uu]
          refine ih2 _ (fun o hoo => ?_)
          by_cases eo : o = i
          · rw [eo, pk_us]
          · rw [pk_un eo]; exact hc o (by omega)
      obtain ⟨t1, t2⟩ := vF_parts (K := kX X) hm L4
      have eqv : ∀ r', rg (X 14 0) r' → dg r' (X 14 0) = dg r (X 14 0) → vF (kX X) (X 14 0) r' = vF (kX X) (X 14 0) r := fun r' hr' he => by
        have same := dg_inj (fun i hi => by have := rg_le hr' i i (Nat.le_refl _) hi; omega) (fun i hi => hb8 i hi) he
        rw [← vR_F hm hr', ← vR_F hm L4]
        exact vR_cong (fun o _ hb => same o (by rw [full_bit] at hb; exact of_decide_eq_true hb))
      refine w_X7_layPlan_141 _ _ _ _ ⟨fun _ => ?_, fun h => absurd (by rw [q_le] <;> omega) h⟩
      show ((lg_cmp (ν.2 36 29) (0 : Int64)) < 0 → a_Runs G sX7_layPlan 256 [(0, .ref 36), (1, .int (nI (mx1 r (X 14 0)))), (6, .int (nI 0))] [] (ν.1, va_up ν.2 36 (vp_updL (ν.2 36) 29 (lN (cs (kX X) (X 14 0) r)))) post) ∧ (¬ (lg_cmp (ν.2 36 29) (0 : Int64)) < 0 → (((lg_cmp (lN (cs (kX X) (X 14 0) r)) (ν.2 36 29)) < 0 → _) ∧ (¬ (lg_cmp (lN (cs (kX X) (X 14 0) r)) (ν.2 36 29)) < 0 → ((¬ (lg_cmp (lN (cs (kX X) (X 14 0) r)) (ν.2 36 29)) = 0 → _) ∧ ((lg_cmp (lN (cs (kX X) (X 14 0) r)) (ν.2 36 29)) = 0 → _)))))
      rw [lg_cmp_lt, lg_cmp_lt, lg_cmp_eq]
      cases b with
      | none =>
        obtain ⟨e1, e2⟩ := hB
        rw [e1]
        refine ⟨fun _ => take (fun r' hr' hle => ?_), fun h => absurd (by decide) h⟩
        rcases Nat.lt_or_ge (dg r' (X 14 0)) (dg r (X 14 0)) with q | q
        · obtain ⟨rb, hc, _⟩ := hlo r' hr' q; cases hc
        · rw [eqv r' hr' (by omega)]; exact Nat.le_refl _
      | some rb =>
        obtain ⟨e0, e1, e2, e3⟩ := id hB
        have hcsb : cs (kX X) (X 14 0) rb ≤ 65600000 := cs_le hx ho e0 (mx1 rb (X 14 0)) (Nat.le_refl _)
        obtain ⟨u1, u2⟩ := vF_parts (K := kX X) hm e0
        have hdl := hbl rb rfl
        have hlo' : ∀ r', rg (X 14 0) r' → dg r' (X 14 0) < dg r (X 14 0) → vF (kX X) (X 14 0) rb ≤ vF (kX X) (X 14 0) r' := fun r' hr' hlt => by
          obtain ⟨rb', hc, h⟩ := hlo r' hr' hlt
          cases hc; exact h
        have hn0 : ¬ lN (cs (kX X) (X 14 0) rb) < (0 : Int64) := fun h => by
          have h : lN (cs (kX X) (X 14 0) rb) < lN 0 := h
          rw [pk_lLT (by omega) (by omega)] at h; omega
        have htk : vF (kX X) (X 14 0) r ≤ vF (kX X) (X 14 0) rb → ∀ r', rg (X 14 0) r' → dg r' (X 14 0) ≤ dg r (X 14 0) → vF (kX X) (X 14 0) r ≤ vF (kX X) (X 14 0) r' := fun hv r' hr' hle => by
          rcases Nat.lt_or_ge (dg r' (X 14 0)) (dg r (X 14 0)) with q | q
          · have := hlo' r' hr' q; omega
          · rw [eqv r' hr' (by omega)]; exact Nat.le_refl _
        have hkp : vF (kX X) (X 14 0) rb ≤ vF (kX X) (X 14 0) r → ∀ r', rg (X 14 0) r' → dg r' (X 14 0) ≤ dg r (X 14 0) → vF (kX X) (X 14 0) rb ≤ vF (kX X) (X 14 0) r' := fun hv r' hr' hle => by
          rcases Nat.lt_or_ge (dg r' (X 14 0)) (dg r (X 14 0)) with q | q
          · exact hlo' r' hr' q
          · rw [eqv r' hr' (by omega)]; exact hv
        have hdS : dgS (2 ^ X 14 0 - 1) rb ≤ dgS (2 ^ X 14 0 - 1) r := by
          rw [dgS_dg hm, dgS_dg hm]
          exact Nat.mul_le_mul_right _ (by omega)
        rw [e1, e2, pk_lLT (by omega) (by omega), pk_lEQ (by omega) (by omega), q_le (by omega) (by omega)]
        refine ⟨fun h => absurd h hn0, fun _ => ⟨fun h => ?_, fun h => ⟨fun h2 => ?_, fun h2 => ⟨fun h3 => ?_, fun h3 => ?_⟩⟩⟩⟩
        · exact take (htk (by unfold vF; omega))
        · rw [← e2]
          exact after ν x rb hL hB (hkp (by unfold vF; omega)) (by omega)
        · rw [← e2]
          exact after ν x rb hL hB (hkp (by unfold vF; rw [h2]; omega)) (by omega)
        · exact take (htk (by unfold vF; rw [h2]; omega))
    · intro l _ hl _ ih
      refine w_X7_layPlan_141 _ _ _ _ ⟨fun h => ?_, fun _ => ?_⟩
      · rw [q_le (by omega) (by omega)] at h; omega
      obtain ⟨st1, st2⟩ := stL_m hm r l
      obtain ⟨p1, p2⟩ := pow14 ho
      have main := a_for (fun i (_ : Unit) => a_Runs G sX7_layPlan 153 [(0, .ref 36), (1, .int x), (3, .int (nI (mx1 r (X 14 0)))), (4, .long (lN (fb_sm (fun l => kX X (stL (2 ^ X 14 0 - 1) r l)) l))), (6, .int (nI l)), (7, .int (nI (orF (fun o => if r o = l then 2 ^ o else 0) i))), (8, .int (nI i))] [] ν post) (fun _ _ => True) (X 14 0) ?_ ?_ 0 () (by omega) trivial
      · exact main
      · intro _ _
        have hne : stL (2 ^ X 14 0 - 1) r l ≠ 0 := fun hc => by
          obtain ⟨i, i1, i2⟩ := mx1_ex (r := r) hm0
          obtain ⟨j, j1, j2⟩ := rg_all L4 i i (Nat.le_refl _) i1 l (by omega)
          have hb := stL_bit (S := 2 ^ X 14 0 - 1) (r := r) (l := l) (o := j) (by omega)
          rw [hc, Nat.zero_testBit, full_bit, decide_eq_true (show j < X 14 0 by omega), decide_eq_true j2] at hb
          cases hb
        refine w_X7_layPlan_153 _ _ _ _ _ _ ⟨fun _ => ?_, fun h => absurd (by rw [n22, q_le] <;> omega) h⟩
        rw [← st1, q_in (by omega), q_cl (by omega), L3 _ hne st2, lN_add, nI_add]
        exact ⟨by omega, ih () trivial⟩
      · intro i _ hi _ ih2
        refine w_X7_layPlan_153 _ _ _ _ _ _ ⟨fun h => ?_, fun _ => ?_⟩
        · rw [n22, q_le (by omega) (by omega)] at h; omega
        have ri := hb8 i hi
        rw [q_in (by omega), q_cl (by omega), L5 i hi, q_eq (by omega) (by omega), q_pow (by omega), fa_or, fa_or, nI_add]
        have ih3 := ih2 () trivial
        have eo : orF (fun o => if r o = l then 2 ^ o else 0) (i + 1) = orF (fun o => if r o = l then 2 ^ o else 0) i ||| (if r i = l then 2 ^ i else 0) := rfl
        rw [eo] at ih3
        refine ⟨by omega, fun h => ?_, fun h => ?_⟩
        · rw [if_neg h] at ih3; exact ih3
        · rw [if_pos h] at ih3; exact ih3
theorem r_X7_layPlan (hx : xW X) (ho : xO X) (hmw : mW μ X) (hmo : mO μ X) : a_Spec G sX7_layPlan [.ref 36] μ (fun v ν => v = none ∧ a_eqx [36, 59, 60, 61] μ ν ∧ ν.1 36 = μ.1 36 ∧ (X 14 0 ≠ 0 → ν.2 36 29 = lN (plX X / 2 ^ 28) ∧ ∀ o, o < X 14 0 → ν.1 60 o = nI (plX X / 8 ^ (7 - o) % 8))) := by
  have hm := ho.1
  obtain ⟨p1, p2⟩ := pow14 ho
  obtain ⟨o0, o1, o2, o3⟩ := id hmo
  generalize hpo : (fun (v : Option Value) (ν : aMem) => v = none ∧ a_eqx [36, 59, 60, 61] μ ν ∧ ν.1 36 = μ.1 36 ∧ (X 14 0 ≠ 0 → ν.2 36 29 = lN (plX X / 2 ^ 28) ∧ ∀ o, o < X 14 0 → ν.1 60 o = nI (plX X / 8 ^ (7 - o) % 8))) = post
  refine w_X7_layPlan_0 ?_
  have main := a_for (fun t (N : aMem) => a_Runs G sX7_layPlan 2 [(0, .ref 36), (1, .int (nI t))] [] N post) (fun t N => 1 ≤ t ∧ a_eqx [61] μ N ∧ ∀ A, A ≠ 0 → A < t → N.2 61 A = lN (kX X A)) (2 ^ X 14 0) ?_ ?_ 1 μ (by omega) ⟨Nat.le_refl _, a_eqx.rf _ _, fun A h h' => by omega⟩
  · exact main
  · rintro N ⟨_, h1, h2⟩
    have n36 : N.1 36 = μ.1 36 := (h1 36 (by simp)).1
    refine w_X7_layPlan_2 _ ⟨fun _ => ?_, fun h => absurd (by rw [n36, o0, q_pow (by omega), q_le] <;> omega) h⟩
    have main := a_for (fun i (c : Nat → Int32) => a_Runs G sX7_layPlan 78 [(0, .ref 36), (1, .int (nI i))] [] (va_up N.1 59 c, N.2) post) (fun i c => ∀ o, o < i → c o = nI 0) 8 ?_ ?_ 0 (N.1 59) (by omega) (fun o h => by omega)
    · rw [a_self N 59]; exact main
    · intro c hc
      have e22 : ((va_up N.1 59 c, N.2) : aMem).1 36 22 = nI (X 14 0) := by show N.1 36 22 = _; rw [n36]; exact o0
      have h1' : a_eqx [36, 59, 60, 61] μ N := h1.sub (fun k hk => by simp at hk ⊢; omega)
      refine w_X7_layPlan_78 _ ⟨fun _ => ?_, fun h => absurd (by rw [q_le] <;> omega) h⟩
      rw [e22, q_le0 (by omega)]
      refine ⟨fun h => ?_, fun h => ?_⟩
      · refine w_X7_layPlan_120 _ _ ⟨fun _ => ?_, fun h => absurd n00 h⟩
        rw [← hpo]
        exact ⟨rfl, (h1'.t2 (a_eqx.u1 N 59 c (by simp))).t2 (a_eqx.ul _ 36 _ (by simp)), n36, fun hc => absurd h hc⟩
      · refine lp_loop hx ho h o0 (fun N' a1 a2 a3 a4 => ?_) 16777216 _ _ (fun _ => 0) none (by omega) ⟨(h1'.t2 (a_eqx.u1 N 59 c (by simp))).t2 (a_eqx.ul _ 36 _ (by simp)), n36, h2, fun k _ => Or.inl rfl, fun o hoo => hc o (by omega)⟩ ⟨?_, rfl⟩ (fun r' hr' hlt => ?_) (fun rb hb => by cases hb)
        · rw [← hpo]; exact ⟨rfl, a1, a2, fun _ => ⟨a3, a4⟩⟩
        · exact vp_updL_s (N.2 36) 29 (-1 : Int64)
        · have z : ∀ n, dg (fun _ => 0) n = 0 := fun n => by
            induction n with
            | zero => rfl
            | succ n ih => show 8 * dg (fun _ => 0) n + 0 = 0; rw [ih]
          rw [z] at hlt; omega
    · intro i c hi hc ih
      refine w_X7_layPlan_78 _ ⟨fun h => ?_, fun _ => ?_⟩
      · rw [q_le (by omega) (by omega)] at h; omega
      rw [q_in (by omega), q_cl (by omega), nI_add]
      refine ⟨hi, ?_⟩
      show a_Runs G sX7_layPlan 78 _ [] (va_up (va_up N.1 59 c) 59 (upd c i (nI 0)), N.2) post
      rw [bx_uu]
      refine ih _ (fun o hoo => ?_)
      by_cases eo : o = i
      · rw [eo, pk_us]
      · rw [pk_un eo]; exact hc o (by omega)
  · rintro t N ht ⟨h0, h1, h2⟩ ih
    have n36 : N.1 36 = μ.1 36 := (h1 36 (by simp)).1
    have e22 : N.1 36 22 = nI (X 14 0) := by rw [n36]; exact o0
    have e25 : N.1 36 25 = nI (X 17 0) := by rw [n36]; exact o1
    have e58 : ∀ o, o < X 14 0 → N.1 58 o = nI (X 16 o) := fun o hoo => by rw [(h1 58 (by simp)).1]; exact o3 o hoo
    have hmwN : mW N X := by
      have q : ∀ k, k = 36 ∨ k = 41 ∨ k = 42 ∨ k = 43 ∨ k = 44 ∨ k = 45 → N.1 k = μ.1 k := fun k h => (h1 k (by simp; omega)).1
      unfold mW
      rw [q 36 (by omega), q 41 (by omega), q 42 (by omega), q 43 (by omega), q 44 (by omega), q 45 (by omega)]; exact hmw
    have hmoN : mO N X := by
      have q : ∀ k, k = 36 ∨ k = 57 ∨ k = 58 → N.1 k = μ.1 k := fun k h => (h1 k (by simp; omega)).1
      unfold mO
      rw [q 36 (by omega), q 57 (by omega), q 58 (by omega)]; exact hmo
    refine w_X7_layPlan_2 _ ⟨fun h => ?_, fun _ => ?_⟩
    · rw [e22, q_pow (by omega), q_le (by omega) (by omega)] at h; omega
    have hpc : ∀ i, i ≤ X 14 0 → fb_sm (fun o => if t.testBit o then X 16 o else 0) i ≤ 8000 := fun i hi => by
      have h := fb_sm_bound (f := fun o => if t.testBit o then X 16 o else 0) (c := 1000) (n := i) (fun k hk => by
        show (if t.testBit k then X 16 k else 0) ≤ 1000
        have := ho.2.1 k (by omega); split <;> omega)
      omega
    have main := a_for (fun i (_ : Unit) => a_Runs G sX7_layPlan 17 [(0, .ref 36), (1, .int (nI t)), (2, .long (lN (fb_sm (fun o => if t.testBit o then X 16 o else 0) i))), (4, .int (nI i))] [] N post) (fun _ _ => True) (X 14 0) ?_ ?_ 0 () (by omega) trivial
    · exact main
    · intro _ _
      have hwl := wgt_le hx t
      refine w_X7_layPlan_17 _ _ _ ⟨fun _ => ?_, fun h => absurd (by rw [e22, q_le] <;> omega) h⟩
      refine r_X7_weightOf hx ho hmwN hmoN (by omega) _ ⟨_, rfl, ?_⟩
      have h17 := ho.2.2
      rw [q_in (by omega), q_cl (by omega), e25, nI_l (n := X 17 0) (by omega), nI_l (n := wgt X t) (by omega), lN_mul, lN_add, nI_add]
      refine ⟨by omega, ih _ ⟨by omega, h1.t2 (a_eqx.ul N 61 _ (by simp)), fun A hA hA2 => ?_⟩⟩
      show vp_updL (N.2 61) t _ A = _
      by_cases e : A = t
      · rw [e, vp_updL_s]; rfl
      · rw [vp_updL_n _ _ e]; exact h2 A hA (by omega)
    · intro i _ hi _ ih2
      have h16 := ho.2.1 i hi
      refine w_X7_layPlan_17 _ _ _ ⟨fun h => ?_, fun _ => ?_⟩
      · rw [e22, q_le (by omega) (by omega)] at h; omega
      have eb : bI (t.testBit i) * nI (X 16 i) = nI (if t.testBit i then X 16 i else 0) := by
        cases t.testBit i
        · show nI 0 * nI (X 16 i) = nI 0
          rw [pk_mul, Nat.zero_mul]
        · show nI 1 * nI (X 16 i) = nI (X 16 i)
          rw [pk_mul, Nat.one_mul]
      rw [q_in (by omega), q_cl (by omega), e58 i hi, q_bit (by omega) (by omega), eb, nI_l (n := if t.testBit i then X 16 i else 0) (by split <;> omega), lN_add, nI_add]
      exact ⟨by omega, ih2 () trivial⟩
theorem m_best (hx : xW X) (ho : xO X) (hmw : mW μ X) (hmo : mO μ X) : a_Spec G sX7_best [.ref 36] μ (fun v ν => v = some (.long (aBest X)) ∧ a_eqx [36, 59, 60, 61] μ ν ∧ ν.1 36 = μ.1 36) := by
  have hm := ho.1
  refine w_X7_best_0 ((r_X7_layPlan hx ho hmw hmo).mono ?_)
  rintro v ν ⟨rfl, g1, g2, g3⟩
  have e22 : ν.1 36 22 = nI (X 14 0) := by rw [g2]; exact hmo.1
  rw [e22, q_e0 (by omega)]
  refine ⟨rfl, fun h => ⟨?_, g1, g2⟩, fun h => ⟨?_, g1, g2⟩⟩
  · rw [(g3 h).1]; rfl
  · have : plX X = 0 := by unfold plX; rw [h]; exact plP_0 _
    unfold aBest; rw [this]; rfl
theorem m_loom (hx : xW X) (ho : xO X) (hmw : mW μ X) (hmo : mO μ X) (x : Int32) : a_Spec G sX7_loom [.ref 36, .int x] μ (fun v ν => v = some (.int (aLoom X x)) ∧ a_eqx [36, 59, 60, 61] μ ν ∧ ν.1 36 = μ.1 36) := by
  have hm := ho.1
  refine w_X7_loom_0 _ (r_X7_in _ _ _ _ ⟨_, rfl, ?_⟩)
  rw [hmo.1]
  refine br_n (fun h1 => ?_) (fun h1 => ?_)
  · obtain ⟨e1, b1⟩ := inB_wi (by omega) h1
    have e : aLoom X x = nI (plX X / 8 ^ (7 - x.toNatClampNeg) % 8) := by unfold aLoom; rw [if_pos h1]
    rw [e]
    generalize x.toNatClampNeg = o at *
    subst e1
    refine (r_X7_layPlan hx ho hmw hmo).mono ?_
    rintro v ν ⟨rfl, g1, g2, g3⟩
    rw [q_in (by omega), (g3 (by omega)).2 o b1]
    exact ⟨rfl, by omega, rfl, g1, g2⟩
  · have e : aLoom X x = -1 := by unfold aLoom; rw [h1]; rfl
    rw [e]; exact ⟨rfl, a_eqx.rf _ _, rfl⟩
end MPLAN
