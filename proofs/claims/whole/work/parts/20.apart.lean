/-! ===== classes that are apart ===== -/
def stM (m b : Nat) (i : Bool) : Nat := if i then m ||| 2 ^ b else m &&& (15 ^^^ 2 ^ b)
theorem stM_ok : ∀ m, m < 16 → ∀ b, b < 4 → ∀ i : Bool, stM m b i < 16 ∧ ∀ j, j < 4 → (stM m b i).testBit j = if j = b then i else m.testBit j := by decide +kernel
theorem stM_c : ∀ m, m < 16 → ∀ b, b < 4 → nI m &&& (nI (2 ^ b) ^^^ (-1)) = nI (stM m b false) := by decide +kernel
theorem apM_lt {X : aX} (hx : xA X) {a : Nat} (ha : a < 4) : apM X a < 2 ^ 4 := orF_lt (fun b hb => by
  have h := (hx a b ha hb).1
  have h2 : 2 ^ b < 2 ^ 4 := Nat.pow_lt_pow_right (by decide) hb
  rcases (show X 13 (4 * a + b) = 0 ∨ X 13 (4 * a + b) = 1 by omega) with e | e <;> rw [e] <;> omega)
theorem apM_bit {X : aX} (hx : xA X) {a j : Nat} (ha : a < 4) (hj : j < 4) : (apM X a).testBit j = decide (X 13 (4 * a + j) = 1) := by
  have key : ∀ b, b < 4 → (X 13 (4 * a + b) * 2 ^ b).testBit j = (decide (b = j) && decide (X 13 (4 * a + b) = 1)) := by
    intro b hb
    have h := (hx a b ha hb).1
    rcases (show X 13 (4 * a + b) = 0 ∨ X 13 (4 * a + b) = 1 by omega) with e | e
    · rw [e]; simp
    · rw [e, Nat.one_mul, Nat.testBit_two_pow]; simp
  by_cases h1 : X 13 (4 * a + j) = 1
  · rw [decide_eq_true h1]
    exact orF_bit.mpr ⟨j, hj, by rw [key j hj]; simp [h1]⟩
  · rw [decide_eq_false h1]
    refine Bool.eq_false_iff.mpr (fun h => ?_)
    obtain ⟨b, hb, h2⟩ := orF_bit.mp h
    rw [key b hb] at h2
    simp only [Bool.and_eq_true, decide_eq_true_eq] at h2
    exact h1 (by rw [← h2.1]; exact h2.2)
theorem nib_ext {m k : Nat} (hm : m < 16) (hk : k < 16) (h : ∀ j, j < 4 → m.testBit j = k.testBit j) : m = k := by
  apply Nat.eq_of_testBit_eq
  intro j
  by_cases hj : j < 4
  · exact h j hj
  · have e : (2 : Nat) ^ 4 ≤ 2 ^ j := Nat.pow_le_pow_right (by decide) (by omega)
    rw [Nat.testBit_lt_two_pow (by omega), Nat.testBit_lt_two_pow (by omega)]
def aX2 (X : aX) (a b v : Nat) : aX := va_up X 13 (upN (upN (X 13) (4 * a + b) v) (4 * b + a) v)
theorem aX2_xA {X : aX} (hx : xA X) {a b v : Nat} (hv : v ≤ 1) (ha : a < 4) (hb : b < 4) : xA (aX2 X a b v) := by
  intro c d hc hd
  show upN (upN (X 13) (4 * a + b) v) (4 * b + a) v (4 * c + d) ≤ 1 ∧ upN (upN (X 13) (4 * a + b) v) (4 * b + a) v (4 * c + d) = upN (upN (X 13) (4 * a + b) v) (4 * b + a) v (4 * d + c)
  obtain ⟨h1, h2⟩ := hx c d hc hd
  by_cases e1 : c = a ∧ d = b
  · obtain ⟨rfl, rfl⟩ := e1
    have q1 : upN (upN (X 13) (4 * c + d) v) (4 * d + c) v (4 * d + c) = v := upN_s _ _ _
    have q2 : upN (upN (X 13) (4 * c + d) v) (4 * d + c) v (4 * c + d) = v := by
      unfold upN; split; rfl; simp
    rw [q1, q2]; exact ⟨hv, rfl⟩
  · by_cases e2 : c = b ∧ d = a
    · obtain ⟨rfl, rfl⟩ := e2
      have q1 : upN (upN (X 13) (4 * d + c) v) (4 * c + d) v (4 * c + d) = v := upN_s _ _ _
      have q2 : upN (upN (X 13) (4 * d + c) v) (4 * c + d) v (4 * d + c) = v := by
        unfold upN; split; rfl; simp
      rw [q1, q2]; exact ⟨hv, rfl⟩
    · have n1 : 4 * c + d ≠ 4 * b + a := by omega
      have n2 : 4 * c + d ≠ 4 * a + b := by omega
      have n3 : 4 * d + c ≠ 4 * b + a := by omega
      have n4 : 4 * d + c ≠ 4 * a + b := by omega
      rw [upN_n _ _ n1, upN_n _ _ n2, upN_n _ _ n3, upN_n _ _ n4]
      exact ⟨h1, h2⟩
theorem apM_set {X : aX} (hx : xA X) {a b : Nat} (ha : a < 4) (hb : b < 4) (hne : a ≠ b) (i : Bool) {c : Nat} (hc : c < 4) : apM (aX2 X a b i.toNat) c = if c = a then stM (apM X a) b i else if c = b then stM (apM X b) a i else apM X c := by
  have hx' := aX2_xA hx (v := i.toNat) (by cases i <;> decide) ha hb
  have val : ∀ j, j < 4 → (aX2 X a b i.toNat) 13 (4 * c + j) = if (c = a ∧ j = b) ∨ (c = b ∧ j = a) then i.toNat else X 13 (4 * c + j) := by
    intro j hj
    show upN (upN (X 13) (4 * a + b) i.toNat) (4 * b + a) i.toNat (4 * c + j) = _
    by_cases e1 : c = b ∧ j = a
    · obtain ⟨rfl, rfl⟩ := e1
      rw [upN_s, if_pos (Or.inr ⟨rfl, rfl⟩)]
    · rw [upN_n _ _ (by omega)]
      by_cases e2 : c = a ∧ j = b
      · obtain ⟨rfl, rfl⟩ := e2
        rw [upN_s, if_pos (Or.inl ⟨rfl, rfl⟩)]
      · rw [upN_n _ _ (by omega), if_neg (by omega)]
  have hi : ∀ z : Bool, decide (z.toNat = 1) = z := by decide
  refine nib_ext (apM_lt hx' hc) ?_ (fun j hj => ?_)
  · split
    · exact (stM_ok _ (apM_lt hx ha) b hb i).1
    · split
      · exact (stM_ok _ (apM_lt hx hb) a ha i).1
      · exact apM_lt hx hc
  · rw [apM_bit hx' hc hj, val j hj]
    by_cases e1 : c = a
    · subst e1
      rw [if_pos rfl, (stM_ok _ (apM_lt hx hc) b hb i).2 j hj]
      by_cases e2 : j = b
      · rw [if_pos (Or.inl ⟨rfl, e2⟩), if_pos e2, hi]
      · rw [if_neg (by omega), if_neg e2, apM_bit hx hc hj]
    · rw [if_neg e1]
      by_cases e2 : c = b
      · subst e2
        rw [if_pos rfl, (stM_ok _ (apM_lt hx hc) a ha i).2 j hj]
        by_cases e3 : j = a
        · rw [if_pos (Or.inr ⟨rfl, e3⟩), if_pos e3, hi]
        · rw [if_neg (by omega), if_neg e3, apM_bit hx hc hj]
      · rw [if_neg e2, if_neg (by omega), apM_bit hx hc hj]
def fApart (X : aX) (x1 x2 : Int32) (i : Bool) : Int32 × aX :=
  if inB x1 (nI 0) (nI 3) && inB x2 (nI 0) (nI 3) then
    if x1 = x2 then (-3, X) else (nI (X 13 (4 * x1.toNatClampNeg + x2.toNatClampNeg)), aX2 X x1.toNatClampNeg x2.toNatClampNeg i.toNat)
  else (-2, X)
section APART
variable {G : aG} {μ : aMem} {X : aX}
theorem r_X5_areApart (hx : xA X) (hc : cA μ X) {a b : Nat} (ha : a < 4) (hb : b < 4) : a_Ret G sX5_areApart [.ref 2, .int (nI a), .int (nI b)] μ (some (.int (bI (decide (X 13 (4 * a + b) = 1))))) μ := by
  intro post hp
  have h16 := apM_lt hx ha
  refine w_X5_areApart_0 _ _ ?_
  rw [q_in (by omega), q_cl (by omega), hc a ha]
  refine ⟨ha, r_X6_has (by omega) (by omega) _ ⟨_, rfl, bI_01 _, ?_⟩⟩
  rw [apM_bit hx ha hb]; exact hp
theorem c_setApart (hx : xA X) (hc : cA μ X) {a b : Nat} (ha : a < 4) (hb : b < 4) (hne : a ≠ b) (i : Bool) : a_Spec G sX5_setApart [.ref 2, .int (nI a), .int (nI b), .int (bI i)] μ (fun v ν => v = none ∧ cA ν (aX2 X a b i.toNat) ∧ a_eqx [21] μ ν) := by
  have ha16 := apM_lt hx ha
  have hb16 := apM_lt hx hb
  have fin : ∀ (u w : Int32), u = nI (stM (apM X a) b i) → w = nI (stM (apM X b) a i) → cA (va_up (va_up μ.1 21 (upd (μ.1 21) a u)) 21 (upd (upd (μ.1 21) a u) b w), μ.2) (aX2 X a b i.toNat) ∧ a_eqx [21] μ (va_up (va_up μ.1 21 (upd (μ.1 21) a u)) 21 (upd (upd (μ.1 21) a u) b w), μ.2) := by
    intro u w hu hw
    constructor
    · intro c hcc
      show upd (upd (μ.1 21) a u) b w c = nI (apM (aX2 X a b i.toNat) c)
      rw [apM_set hx ha hb hne i hcc]
      by_cases e1 : c = a
      · rw [if_pos e1, e1, pk_un hne, pk_us, hu]
      · rw [if_neg e1]
        by_cases e2 : c = b
        · rw [if_pos e2, e2, pk_us, hw]
        · rw [if_neg e2, pk_un e2, pk_un e1]; exact hc c hcc
    · intro k hk
      simp only [List.mem_cons, List.not_mem_nil, or_false] at hk
      refine ⟨?_, rfl⟩
      show va_up (va_up μ.1 21 _) 21 _ k = _
      rw [va_up_ne _ _ hk, va_up_ne _ _ hk]
  refine w_X5_setApart_0 _ _ _ ?_
  rw [q_in (by omega), q_in (by omega), q_cl (by omega), q_cl (by omega), q_pow (by omega), q_pow (by omega), hc a ha, pk_un hne.symm, hc b hb]
  have e1 := stM_c _ ha16 b hb
  have e2 := stM_c _ hb16 a ha
  cases i with
  | false => exact ⟨fun _ => ⟨ha, ha, fun _ => ⟨hb, hb, rfl, fin _ _ e1 e2⟩, fun h => absurd rfl h⟩, fun h => absurd rfl h⟩
  | true => exact ⟨fun h => absurd h (by decide), fun _ => ⟨ha, ha, fun h => absurd h (by decide), fun _ => ⟨hb, hb, rfl, fin _ _ (by rw [fa_or]; rfl) (by rw [pk_un hne.symm, hc b hb, fa_or]; rfl)⟩⟩⟩
theorem ap01 {X : aX} (hx : xA X) {a b : Nat} (ha : a < 4) (hb : b < 4) : bI (decide (X 13 (4 * a + b) = 1)) = nI (X 13 (4 * a + b)) := by
  have h := (hx a b ha hb).1
  rcases (show X 13 (4 * a + b) = 0 ∨ X 13 (4 * a + b) = 1 by omega) with e | e <;> rw [e] <;> rfl
theorem c_apart (hx : xA X) (hc : cA μ X) (x1 x2 : Int32) (i : Bool) : a_Spec G sX6_apart [.ref 0, .int x1, .int x2, .int (bI i)] μ (fun v ν => v = some (.int (fApart X x1 x2 i).1) ∧ cA ν (fApart X x1 x2 i).2 ∧ a_eqx [21] μ ν) := by
  refine w_X6_apart_0 _ _ _ (r_X6_isKind _ _ ⟨_, rfl, br_b (fun h1 => ?_) (fun h1 => r_X6_isKind _ _ ⟨_, rfl, br_n (fun h2 => br_d (fun h3 => ?_) (fun h3 => ?_)) (fun h2 => ?_)⟩)⟩)
  · have e : fApart X x1 x2 i = (-2, X) := by simp [fApart, h1]
    rw [e]; exact ⟨rfl, hc, a_eqx.rf _ _⟩
  · have e : fApart X x1 x2 i = (nI (X 13 (4 * x1.toNatClampNeg + x2.toNatClampNeg)), aX2 X x1.toNatClampNeg x2.toNatClampNeg i.toNat) := by simp [fApart, h1, h2, h3]
    rw [e]
    obtain ⟨e1, -, b1⟩ := inB_cl (by decide) (by decide) h1
    obtain ⟨e2, -, b2⟩ := inB_cl (by decide) (by decide) h2
    generalize x1.toNatClampNeg = a at *
    generalize x2.toNatClampNeg = b at *
    subst e1
    subst e2
    have hne : a ≠ b := fun h => h3 (by rw [h])
    refine r_X5_areApart hx hc (by omega) (by omega) _ ⟨_, rfl, br_b (fun h4 => ?_) (fun h4 => ?_)⟩
    · have e4 := ap01 hx (a := a) (b := b) (by omega) (by omega)
      rw [h4] at e4
      exact (c_setApart hx hc (by omega) (by omega) hne i).mono (fun v ν h => ⟨h.1, by rw [← e4]; rfl, h.2⟩)
    · have e4 := ap01 hx (a := a) (b := b) (by omega) (by omega)
      rw [h4] at e4
      exact (c_setApart hx hc (by omega) (by omega) hne i).mono (fun v ν h => ⟨h.1, by rw [← e4]; rfl, h.2⟩)
  · have e : fApart X x1 x2 i = (-3, X) := by subst h3; simp [fApart, h1]
    rw [e]; exact ⟨rfl, hc, a_eqx.rf _ _⟩
  · have e : fApart X x1 x2 i = (-2, X) := by simp [fApart, h1, h2]
    rw [e]; exact ⟨rfl, hc, a_eqx.rf _ _⟩
theorem bI_and1 (i : Bool) : bI i &&& 1 = nI i.toNat := by cases i <;> rfl
theorem m_apart (hx : xA X) (hm : mA μ X) (x1 x2 : Int32) (i : Bool) : a_Spec G sX7_apart [.ref 36, .int x1, .int x2, .int (bI i)] μ (fun v ν => v = some (.int (fApart X x1 x2 i).1) ∧ mA ν (fApart X x1 x2 i).2 ∧ a_eqx [48] μ ν) := by
  refine w_X7_apart_0 _ _ _ (r_X7_in _ _ _ _ ⟨_, rfl, br_b (fun h1 => ?_) (fun h1 => r_X7_in _ _ _ _ ⟨_, rfl, br_n (fun h2 => br_d (fun h3 => ?_) (fun h3 => ?_)) (fun h2 => ?_)⟩)⟩)
  · have e : fApart X x1 x2 i = (-2, X) := by simp [fApart, h1]
    rw [e]; exact ⟨rfl, hm, a_eqx.rf _ _⟩
  · have e : fApart X x1 x2 i = (nI (X 13 (4 * x1.toNatClampNeg + x2.toNatClampNeg)), aX2 X x1.toNatClampNeg x2.toNatClampNeg i.toNat) := by simp [fApart, h1, h2, h3]
    rw [e]
    obtain ⟨e1, -, b1⟩ := inB_cl (by decide) (by decide) h1
    obtain ⟨e2, -, b2⟩ := inB_cl (by decide) (by decide) h2
    generalize x1.toNatClampNeg = a at *
    generalize x2.toNatClampNeg = b at *
    subst e1
    subst e2
    have hab := (hx a b (by omega) (by omega)).1
    rw [pk_mul, nI_add, pk_mul, nI_add, q_in (by omega), q_in (by omega), q_cl (by omega), q_cl (by omega), hm _ (by omega), q_e0 (by omega), bI_and1]
    have fin : mA (va_up (va_up μ.1 48 (upd (μ.1 48) (4 * a + b) (nI i.toNat))) 48 (upd (upd (μ.1 48) (4 * a + b) (nI i.toNat)) (4 * b + a) (nI i.toNat)), μ.2) (aX2 X a b i.toNat) ∧ a_eqx [48] μ (va_up (va_up μ.1 48 (upd (μ.1 48) (4 * a + b) (nI i.toNat))) 48 (upd (upd (μ.1 48) (4 * a + b) (nI i.toNat)) (4 * b + a) (nI i.toNat)), μ.2) := by
      constructor
      · exact rp_at (rp_at hm rfl) rfl
      · intro k hk
        simp only [List.mem_cons, List.not_mem_nil, or_false] at hk
        refine ⟨?_, rfl⟩
        show va_up (va_up μ.1 48 _) 48 _ k = _
        rw [va_up_ne _ _ hk, va_up_ne _ _ hk]
    refine ⟨by omega, fun h => ⟨by omega, by omega, by rw [h], fin⟩, fun h => ⟨by omega, by omega, by rw [show X 13 (4 * a + b) = 1 by omega], fin⟩⟩
  · have e : fApart X x1 x2 i = (-3, X) := by subst h3; simp [fApart, h1]
    rw [e]; exact ⟨rfl, hm, a_eqx.rf _ _⟩
  · have e : fApart X x1 x2 i = (-2, X) := by simp [fApart, h1, h2]
    rw [e]; exact ⟨rfl, hm, a_eqx.rf _ _⟩
end APART
