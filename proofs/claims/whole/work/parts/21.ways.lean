/-! ===== ways: what goes through what ===== -/
def anyB (p : Nat → Bool) : Nat → Bool
  | 0 => false
  | k + 1 => anyB p k || p k
theorem anyB_iff {p : Nat → Bool} : ∀ {k : Nat}, anyB p k = true ↔ ∃ i, i < k ∧ p i = true
  | 0 => by simp [anyB]
  | k + 1 => by
    rw [anyB, Bool.or_eq_true, anyB_iff]
    constructor
    · rintro (⟨j, h1, h2⟩ | h)
      · exact ⟨j, by omega, h2⟩
      · exact ⟨k, by omega, h⟩
    · rintro ⟨j, h1, h2⟩
      by_cases e : j = k
      · subst e; exact Or.inr h2
      · exact Or.inl ⟨j, by omega, h2⟩
theorem anyB_cong {p q : Nat → Bool} : ∀ {k : Nat}, (∀ i, i < k → p i = q i) → anyB p k = anyB q k
  | 0, _ => rfl
  | k + 1, h => by rw [anyB, anyB, anyB_cong (fun i hi => h i (by omega)), h k (by omega)]
theorem b_eq {a b : Bool} (h : a = true ↔ b = true) : a = b := by cases a <;> cases b <;> simp at h <;> rfl
def goes (X : aX) (w d : Nat) : Bool := (wyB X w).testBit d
theorem goes_iff {X : aX} {w d : Nat} : goes X w d = true ↔ ∃ i, i < X 11 w ∧ X 12 (10 * w + i) = d := by
  unfold goes wyB
  rw [orF_bit]
  constructor
  · rintro ⟨j, h1, h2⟩; exact ⟨j, h1, by rw [Nat.testBit_two_pow] at h2; simpa using h2⟩
  · rintro ⟨j, h1, h2⟩; exact ⟨j, h1, by rw [Nat.testBit_two_pow]; simpa using h2⟩
theorem goes_any (X : aX) (w d : Nat) : anyB (fun i => decide (X 12 (10 * w + i) = d)) (X 11 w) = goes X w d := b_eq (by
  rw [anyB_iff, goes_iff]; simp)
theorem wyB_lt {X : aX} (hd : xD X) (hy : xY X) {w : Nat} (hw : w < 20) : wyB X w < 2 ^ 16 := orF_lt (fun i hi => Nat.pow_lt_pow_right (by decide) (by have := (hy w hw).2.2.1 i hi; have := hd.1; omega))
theorem pop_or {a e : Nat} (he : e < 20) (h : a.testBit e = false) : pop (a ||| 2 ^ e) = pop a + 1 := by
  unfold pop
  have h1 := fb_ct_upd (fun k => a.testBit k) true (i := e) (n := 20) he
  have h2 : fb_ct (fun k => (a ||| 2 ^ e).testBit k) 20 = fb_ct (fun k => if k = e then true else a.testBit k) 20 := fb_ct_cong (fun k _ => by
    rw [fb_bit_set]
    by_cases q : k = e
    · subst q; simp
    · simp [q])
  rw [h2]
  simp only [h] at h1
  simpa using h1
theorem pop_orF {f : Nat → Nat} : ∀ {k : Nat}, (∀ i, i < k → f i < 20) → (∀ i j, i < j → j < k → f i ≠ f j) → pop (orF (fun i => 2 ^ f i) k) = k
  | 0, _, _ => by show pop 0 = 0; decide
  | k + 1, h1, h2 => by
    rw [orF, pop_or (h1 k (by omega)), pop_orF (fun i hi => h1 i (by omega)) (fun i j hij hj => h2 i j hij (by omega))]
    refine Bool.eq_false_iff.mpr (fun h => ?_)
    obtain ⟨j, hj, hb⟩ := orF_bit.mp h
    rw [Nat.testBit_two_pow] at hb
    exact h2 j k hj (by omega) (by simpa using hb)
theorem pop_wyB {X : aX} (hd : xD X) (hy : xY X) {w : Nat} (hw : w < 20) : pop (wyB X w) = X 11 w := pop_orF (fun i hi => by have := (hy w hw).2.2.1 i hi; have := hd.1; omega) (hy w hw).2.2.2
theorem wyB_0 {X : aX} (hd : xD X) (hy : xY X) {w : Nat} (hw : w < 20) : wyB X w = 0 ↔ X 11 w = 0 := by
  constructor
  · intro h
    have := pop_wyB hd hy hw
    rw [h] at this
    rw [← this]; decide
  · intro h; unfold wyB; rw [h]; rfl
theorem wyL_le {X : aX} (hd : xD X) (hy : xY X) {w : Nat} (hw : w < 20) : wyL X w ≤ 891 := by
  have h := fb_sm_bound (f := fun i => X 3 (X 12 (10 * w + i))) (c := 99) (n := X 11 w) (fun i hi => by have := hd.2 _ ((hy w hw).2.2.1 i hi); omega)
  have := (hy w hw).1
  unfold wyL
  have : X 11 w * 99 ≤ 9 * 99 := Nat.mul_le_mul_right _ this
  omega
def fullB (X : aX) (d k : Nat) : Nat := fb_sm (fun w => if goes X w d then X 8 w else 0) k
theorem fullB_le {X : aX} (hw : xW X) (d : Nat) {k : Nat} (hk : k ≤ X 5 0) : fullB X d k ≤ 1000 := by
  have h := fb_sm_bound (f := fun w => if goes X w d then X 8 w else 0) (c := 50) (n := k) (fun i hi => by
    show (if goes X i d then X 8 i else 0) ≤ 50
    have := hw.2.1 i (by omega); split <;> omega)
  have := hw.1
  unfold fullB
  have : k * 50 ≤ 20 * 50 := Nat.mul_le_mul_right _ (by omega)
  omega
def apW (X : aX) (o w : Nat) : Bool := decide (X 13 (4 * X 9 o + X 9 w) = 1)
def mayB (X : aX) (w d : Nat) : Bool := decide (fullB X d (X 5 0) + X 8 w ≤ X 4 d) && !anyB (fun o => goes X o d && apW X o w) (X 5 0)
def clB (X : aX) (w : Nat) : Bool := anyB (fun o => decide ((wyB X w &&& wyB X o) ≠ 0) && apW X o w) (X 5 0)
section CWAYS
variable {G : aG} {μ : aMem} {X : aX}
theorem r_X5_isLaid (hd : xD X) (hy : xY X) (hc : cY μ X) {w : Nat} (hw : w < 20) : a_Ret G sX5_isLaid [.ref 2, .int (nI w)] μ (some (.int (bI (decide (X 11 w ≠ 0))))) μ := by
  intro post hp
  have h16 := wyB_lt hd hy hw
  refine w_X5_isLaid_0 _ ?_
  rw [q_in (by omega), q_cl (by omega), hc.1 w hw, q_e0 (by omega), wyB_0 hd hy hw]
  refine ⟨hw, fun h => ⟨nI_00, ?_⟩, fun h => ⟨nI_11, ?_⟩⟩
  · rw [decide_eq_false (by omega)] at hp; exact hp
  · rw [decide_eq_true h] at hp; exact hp
theorem r_X5_laidThrough (hd : xD X) (hx : xW X) (hy : xY X) (hcw : cW μ X) (hc : cY μ X) {d : Nat} (hdd : d < 16) : a_Ret G sX5_laidThrough [.ref 2, .int (nI d)] μ (some (.int (nI (fb_ct (fun w => goes X w d) (X 5 0))))) μ := by
  intro post hp
  have hn := hx.1
  refine w_X5_laidThrough_0 _ ?_
  refine a_for (fun i (x : Int32) => a_Runs G sX5_laidThrough 4 [(0, .ref 2), (1, .int (nI d)), (2, .int x), (3, .int (nI i))] [] μ post) (fun i x => x = nI (fb_ct (fun w => goes X w d) i)) (X 5 0) ?_ ?_ 0 (nI 0) (by omega) rfl
  · rintro x rfl
    refine w_X5_laidThrough_4 _ _ _ ⟨fun _ => hp, fun h => absurd (by rw [hcw.1, q_le] <;> omega) h⟩
  · rintro i x hi rfl ih
    have h16 := wyB_lt hd hy (w := i) (by omega)
    refine w_X5_laidThrough_4 _ _ _ ⟨fun h => ?_, fun _ => ?_⟩
    · rw [hcw.1, q_le (by omega) (by omega)] at h; omega
    rw [q_in (by omega), q_cl (by omega), hc.1 i (by omega), nI_add, nI_add]
    refine ⟨by omega, r_X6_has (by omega) (by omega) _ ⟨_, rfl, br_b (fun h1 => ih _ ?_) (fun h1 => ih _ ?_)⟩⟩
    · have h1 : goes X i d = false := h1
      rw [fb_ct_succ, h1]; rfl
    · have h1 : goes X i d = true := h1
      rw [fb_ct_succ, h1]; rfl
theorem r_X5_thicknessThrough (hd : xD X) (hx : xW X) (hy : xY X) (hcw : cW μ X) (hc : cY μ X) {d : Nat} (hdd : d < 16) : a_Ret G sX5_thicknessThrough [.ref 2, .int (nI d)] μ (some (.int (nI (fullB X d (X 5 0))))) μ := by
  intro post hp
  have hn := hx.1
  refine w_X5_thicknessThrough_0 _ ?_
  refine a_for (fun i (x : Int32) => a_Runs G sX5_thicknessThrough 4 [(0, .ref 2), (1, .int (nI d)), (2, .int x), (3, .int (nI i))] [] μ post) (fun i x => x = nI (fullB X d i)) (X 5 0) ?_ ?_ 0 (nI 0) (by omega) rfl
  · rintro x rfl
    refine w_X5_thicknessThrough_4 _ _ _ ⟨fun _ => hp, fun h => absurd (by rw [hcw.1, q_le] <;> omega) h⟩
  · rintro i x hi rfl ih
    have h16 := wyB_lt hd hy (w := i) (by omega)
    refine w_X5_thicknessThrough_4 _ _ _ ⟨fun h => ?_, fun _ => ?_⟩
    · rw [hcw.1, q_le (by omega) (by omega)] at h; omega
    rw [q_in (by omega), q_cl (by omega), hc.1 i (by omega), nI_add]
    refine ⟨by omega, r_X6_has (by omega) (by omega) _ ⟨_, rfl, br_b (fun h1 => ih _ ?_) (fun h1 => ⟨by omega, ?_⟩)⟩⟩
    · have h1 : goes X i d = false := h1
      rw [fullB, fullB, fb_sm_succ, h1]; rfl
    · have h1 : goes X i d = true := h1
      rw [hcw.2.2.2.1 i hi, nI_add]
      refine ih _ ?_
      rw [fullB, fullB, fb_sm_succ, h1]; rfl
theorem r_X5_mayGoThrough (hd : xD X) (hx : xW X) (hy : xY X) (ha : xA X) (hcw : cW μ X) (hc : cY μ X) (hca : cA μ X) {w d : Nat} (hw : w < X 5 0) (hdd : d < 16) (hr : X 4 d ≤ 300) : a_Ret G sX5_mayGoThrough [.ref 2, .int (nI w), .int (nI d), .int (nI (X 4 d))] μ (some (.int (bI (mayB X w d)))) μ := by
  intro post hp
  have hn := hx.1
  have hw8 := hx.2.1 w hw
  refine w_X5_mayGoThrough_0 _ _ _ ?_
  rw [q_in (by omega), q_cl (by omega), hcw.2.2.2.1 w hw]
  refine ⟨by omega, ?_⟩
  refine a_for (fun i (x : Int32) => a_Runs G sX5_mayGoThrough 11 [(0, .ref 2), (1, .int (nI w)), (2, .int (nI d)), (3, .int (nI (X 4 d))), (4, .int x), (5, .int (nI i))] [] μ post) (fun i x => x = nI (X 8 w + fullB X d i) ∧ anyB (fun o => goes X o d && apW X o w) i = false) (X 5 0) ?_ ?_ 0 _ (by omega) ⟨rfl, rfl⟩
  · rintro x ⟨rfl, hno⟩
    have hf := fullB_le hx d (Nat.le_refl (X 5 0))
    refine w_X5_mayGoThrough_11 _ _ _ _ _ ⟨fun _ => ?_, fun h => absurd (by rw [hcw.1, q_le] <;> omega) h⟩
    rw [q_lt (by omega) (by omega)]
    unfold mayB at hp
    rw [hno] at hp
    refine ⟨fun h => ⟨nI_00, ?_⟩, fun h => ⟨nI_11, ?_⟩⟩
    · rw [decide_eq_false (by omega)] at hp; exact hp
    · rw [decide_eq_true (by omega)] at hp; exact hp
  · rintro i x hi ⟨rfl, hno⟩ ih
    have h16 := wyB_lt hd hy (w := i) (by omega)
    have hi8 := hx.2.1 i hi
    have hsym : X 13 (4 * X 9 w + X 9 i) = X 13 (4 * X 9 i + X 9 w) := (ha _ _ (by omega) (by omega)).2
    refine w_X5_mayGoThrough_11 _ _ _ _ _ ⟨fun h => ?_, fun _ => ?_⟩
    · rw [hcw.1, q_le (by omega) (by omega)] at h; omega
    rw [q_in (by omega), q_in (by omega), q_cl (by omega), q_cl (by omega), hc.1 i (by omega), nI_add]
    refine ⟨by omega, r_X6_has (by omega) (by omega) _ ⟨_, rfl, br_b (fun h1 => ih _ ⟨?_, ?_⟩) (fun h1 => ⟨by omega, by omega, ?_⟩)⟩⟩
    · have h1 : goes X i d = false := h1
      rw [fullB, fullB, fb_sm_succ, h1]; rfl
    · have h1 : goes X i d = false := h1
      rw [anyB, hno, h1]; rfl
    · have h1 : goes X i d = true := h1
      rw [hcw.2.2.2.2.1 w hw, hcw.2.2.2.2.1 i hi]
      refine r_X5_areApart ha hca (by omega) (by omega) _ ⟨_, rfl, br_b (fun h2 => ⟨by omega, ?_⟩) (fun h2 => ⟨nI_00, ?_⟩)⟩
      · rw [hcw.2.2.2.1 i hi, nI_add]
        refine ih _ ⟨?_, ?_⟩
        · rw [fullB, fullB, fb_sm_succ, h1, Nat.add_assoc]; rfl
        · rw [anyB, hno, h1, apW, ← hsym, h2]; rfl
      · have h3 : anyB (fun o => goes X o d && apW X o w) (X 5 0) = true := anyB_iff.mpr ⟨i, hi, by rw [h1, apW, ← hsym, h2]; rfl⟩
        unfold mayB at hp
        rw [h3, Bool.not_true, Bool.and_false] at hp; exact hp
theorem r_X6_openDucts (hd : xD X) (hx : xW X) (hy : xY X) (ha : xA X) (hcd : cD μ X) (hcw : cW μ X) (hc : cY μ X) (hca : cA μ X) {w : Nat} (hw : w < X 5 0) : a_Ret G sX6_openDucts [.ref 0, .int (nI w)] μ (some (.int (nI (orF (fun d => if mayB X w d then 2 ^ d else 0) (X 0 0))))) μ := by
  intro post hp
  have hn := hd.1
  refine w_X6_openDucts_0 _ ?_
  refine a_for (fun i (x : Int32) => a_Runs G sX6_openDucts 4 [(0, .ref 0), (1, .int (nI w)), (2, .int x), (3, .int (nI i))] [] μ post) (fun i x => x = nI (orF (fun d => if mayB X w d then 2 ^ d else 0) i)) (X 0 0) ?_ ?_ 0 _ (by omega) rfl
  · rintro x rfl
    exact w_X6_openDucts_4 _ _ _ ⟨fun _ => hp, fun h => absurd (by rw [hcd.1, q_le] <;> omega) h⟩
  · rintro i x hi rfl ih
    have hdi := hd.2 i hi
    refine w_X6_openDucts_4 _ _ _ ⟨fun h => ?_, fun _ => ?_⟩
    · rw [hcd.1, q_le (by omega) (by omega)] at h; omega
    rw [q_in (by omega), q_cl (by omega), hcd.2.2.2.2.2.1 i hi, nI_add, q_pow (by omega), fa_or]
    refine ⟨by omega, r_X5_mayGoThrough hd hx hy ha hcw hc hca hw (by omega) (by omega) _ ⟨_, rfl, br_b (fun h1 => ih _ ?_) (fun h1 => ih _ ?_)⟩⟩
    · rw [orF, h1]; simp
    · rw [orF, h1]; simp
theorem r_X5_isClashing (hd : xD X) (hx : xW X) (hy : xY X) (ha : xA X) (hcw : cW μ X) (hc : cY μ X) (hca : cA μ X) {w : Nat} (hw : w < X 5 0) : a_Ret G sX5_isClashing [.ref 2, .int (nI w)] μ (some (.int (bI (clB X w)))) μ := by
  intro post hp
  have hn := hx.1
  have hw8 := hx.2.1 w hw
  have hw16 := wyB_lt hd hy (w := w) (by omega)
  refine w_X5_isClashing_0 _ ?_
  refine a_for (fun i (_ : Unit) => a_Runs G sX5_isClashing 2 [(0, .ref 2), (1, .int (nI w)), (2, .int (nI i))] [] μ post) (fun i _ => anyB (fun o => decide ((wyB X w &&& wyB X o) ≠ 0) && apW X o w) i = false) (X 5 0) ?_ ?_ 0 () (by omega) rfl
  · rintro - hno
    refine w_X5_isClashing_2 _ _ ⟨fun _ => ⟨nI_00, ?_⟩, fun h => absurd (by rw [hcw.1, q_le] <;> omega) h⟩
    unfold clB at hp
    rw [hno] at hp; exact hp
  · rintro i - hi hno ih
    have h16 := wyB_lt hd hy (w := i) (by omega)
    have hi8 := hx.2.1 i hi
    have hsym : X 13 (4 * X 9 w + X 9 i) = X 13 (4 * X 9 i + X 9 w) := (ha _ _ (by omega) (by omega)).2
    have hand : wyB X w &&& wyB X i < 2 ^ 16 := Nat.and_lt_two_pow _ h16
    refine w_X5_isClashing_2 _ _ ⟨fun h => ?_, fun _ => ?_⟩
    · rw [hcw.1, q_le (by omega) (by omega)] at h; omega
    rw [q_in (by omega), q_in (by omega), q_cl (by omega), q_cl (by omega), hc.1 i (by omega), hc.1 w (by omega), fa_and, q_e0 (by omega), nI_add]
    refine ⟨by omega, by omega, fun h1 => ⟨fun _ => ih () ?_, fun h => absurd rfl h⟩, fun h1 => ⟨fun h => absurd h (by decide), fun _ => ⟨by omega, by omega, ?_⟩⟩⟩
    · rw [anyB, hno, decide_eq_false (by omega)]; rfl
    · rw [hcw.2.2.2.2.1 w hw, hcw.2.2.2.2.1 i hi]
      refine r_X5_areApart ha hca (by omega) (by omega) _ ⟨_, rfl, br_b (fun h2 => ih () ?_) (fun h2 => ⟨nI_11, ?_⟩)⟩
      · rw [anyB, hno, apW, ← hsym, h2, Bool.and_false]; rfl
      · have h3 : clB X w = true := anyB_iff.mpr ⟨i, hi, by rw [decide_eq_true h1, apW, ← hsym, h2]; rfl⟩
        rw [h3] at hp; exact hp
theorem r_X6_clashes (hd : xD X) (hx : xW X) (hy : xY X) (ha : xA X) (hcw : cW μ X) (hc : cY μ X) (hca : cA μ X) : a_Ret G sX6_clashes [.ref 0] μ (some (.int (nI (fb_ct (clB X) (X 5 0))))) μ := by
  intro post hp
  have hn := hx.1
  refine w_X6_clashes_0 ?_
  refine a_for (fun i (x : Int32) => a_Runs G sX6_clashes 4 [(0, .ref 0), (1, .int x), (2, .int (nI i))] [] μ post) (fun i x => x = nI (fb_ct (clB X) i)) (X 5 0) ?_ ?_ 0 _ (by omega) rfl
  · rintro x rfl
    exact w_X6_clashes_4 _ _ ⟨fun _ => hp, fun h => absurd (by rw [hcw.1, q_le] <;> omega) h⟩
  · rintro i x hi rfl ih
    refine w_X6_clashes_4 _ _ ⟨fun h => ?_, fun _ => ?_⟩
    · rw [hcw.1, q_le (by omega) (by omega)] at h; omega
    rw [nI_add, nI_add]
    refine r_X5_isClashing hd hx hy ha hcw hc hca hi _ ⟨_, rfl, br_b (fun h1 => ih _ ?_) (fun h1 => ih _ ?_)⟩
    · rw [fb_ct_succ, h1]; rfl
    · rw [fb_ct_succ, h1]; rfl
end CWAYS
