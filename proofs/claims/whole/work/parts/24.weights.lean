/-! ===== what orders need, weights, alike ===== -/
def ndS (X : aX) (s w : Nat) : Bool := decide ((nI (X 10 w) &&& (nI s ^^^ (-1))) = 0)
def ndM (X : aX) (s : Nat) : Nat := orF (fun w => if ndS X s w then 2 ^ w else 0) (X 5 0)
def wfM (X : aX) (set : Nat) : Nat := orF (fun o => if set.testBit o then ndM X (X 15 o) else 0) (X 14 0)
def wgM (X : aX) (m : Nat) : Nat := fb_sm (fun w => if m.testBit w then X 8 w else 0) (X 5 0)
def wgt (X : aX) (set : Nat) : Nat := fb_sm (fun w => if anyB (fun o => set.testBit o && ndS X (X 15 o) w) (X 14 0) then X 8 w else 0) (X 5 0)
theorem ndM_bit (X : aX) (s w : Nat) : (ndM X s).testBit w = true ↔ w < X 5 0 ∧ ndS X s w = true := by
  unfold ndM
  rw [orF_bit]
  constructor
  · rintro ⟨j, h1, h2⟩
    cases h : ndS X s j with
    | true => rw [h, if_pos rfl, Nat.testBit_two_pow] at h2; have e : j = w := by simpa using h2
              subst e; exact ⟨h1, h⟩
    | false => rw [h] at h2; simp at h2
  · rintro ⟨h1, h2⟩
    exact ⟨w, h1, by rw [h2, if_pos rfl, Nat.testBit_two_pow]; simp⟩
theorem ndM_lt {X : aX} (hx : xW X) (s : Nat) : ndM X s < 2 ^ 20 := orF_lt (fun w hw => by
  have := hx.1
  split
  · exact Nat.pow_lt_pow_right (by decide) (by omega)
  · exact Nat.two_pow_pos _)
theorem wfM_lt {X : aX} (hx : xW X) (s : Nat) : wfM X s < 2 ^ 20 := orF_lt (fun o ho => by
  split
  · exact ndM_lt hx _
  · exact Nat.two_pow_pos _)
theorem wgM_le {X : aX} (hx : xW X) (m : Nat) {k : Nat} (hk : k ≤ X 5 0) : fb_sm (fun w => if m.testBit w then X 8 w else 0) k ≤ 1000 := by
  have h := fb_sm_bound (f := fun w => if m.testBit w then X 8 w else 0) (c := 50) (n := k) (fun i hi => by
    show (if m.testBit i then X 8 i else 0) ≤ 50
    have := hx.2.1 i (by omega); split <;> omega)
  have := hx.1
  have : k * 50 ≤ 20 * 50 := Nat.mul_le_mul_right _ (by omega)
  omega
theorem wg_eq (X : aX) (set : Nat) : wgM X (wfM X set) = wgt X set := by
  unfold wgM wgt
  refine fb_sm_cong (fun w hw => ?_)
  have e : (wfM X set).testBit w = anyB (fun o => set.testBit o && ndS X (X 15 o) w) (X 14 0) := b_eq (by
    unfold wfM
    rw [orF_bit, anyB_iff]
    constructor
    · rintro ⟨o, ho, h⟩
      refine ⟨o, ho, ?_⟩
      cases hs : set.testBit o with
      | true => rw [hs, if_pos rfl] at h; rw [((ndM_bit _ _ _).mp h).2]; rfl
      | false => rw [hs] at h; simp at h
    · rintro ⟨o, ho, h⟩
      rw [Bool.and_eq_true] at h
      exact ⟨o, ho, by rw [h.1, if_pos rfl]; exact (ndM_bit _ _ _).mpr ⟨hw, h.2⟩⟩)
  rw [e]
theorem wgt_le {X : aX} (hx : xW X) (set : Nat) : wgt X set ≤ 1000 := by rw [← wg_eq]; exact wgM_le hx _ (Nat.le_refl _)
theorem ndM_eq {X : aX} {s t : Nat} : ndM X s = ndM X t ↔ ∀ w, w < X 5 0 → ndS X s w = ndS X t w := by
  constructor
  · intro h w hw
    refine b_eq ?_
    have h1 := ndM_bit X s w
    have h2 := ndM_bit X t w
    rw [h] at h1
    constructor
    · intro q; exact (h2.mp (h1.mpr ⟨hw, q⟩)).2
    · intro q; exact (h1.mp (h2.mpr ⟨hw, q⟩)).2
  · intro h
    unfold ndM
    exact orF_cong (fun i hi => by rw [h i hi])
def alk (X : aX) (o t : Nat) : Bool := decide (ndM X (X 15 o) = ndM X (X 15 t))
def tw (X : aX) (o : Nat) : Bool := anyB (fun t => decide (t ≠ o) && alk X o t) (X 14 0)
theorem low_bt : ∀ k, k ≤ 8 → ∀ i, i < 32 → bt (nI (2 ^ k - 1)) i = decide (i < k) := by decide +kernel
theorem low_set {k : Nat} (hk : k ≤ 8) (x : Int32) : (x &&& (nI (2 ^ k - 1) ^^^ (-1))) = 0 ↔ inB x (nI 0) (nI (2 ^ k - 1)) = true := by
  have hp : 2 ^ k ≤ 2 ^ 8 := Nat.pow_le_pow_right (by decide) hk
  have hp0 := Nat.two_pow_pos k
  have key : (x &&& (nI (2 ^ k - 1) ^^^ (-1))) = 0 ↔ ∀ i, i < 32 → bt x i = true → i < k := by
    constructor
    · intro h i hi hb
      have h1 : bt (x &&& (nI (2 ^ k - 1) ^^^ (-1))) i = false := by rw [h]; exact b_0 i
      rw [b_and, b_xor, hb, low_bt k hk i hi, b_m1 i hi] at h1
      simpa using h1
    · intro h
      refine b_ext (fun i hi => ?_)
      rw [b_and, b_xor, low_bt k hk i hi, b_m1 i hi, b_0]
      cases hb : bt x i with
      | false => rfl
      | true => simp [h i hi hb]
  rw [key]
  constructor
  · intro h
    obtain ⟨n, hn, rfl⟩ := wb_of32 x
    have hlt : n < 2 ^ k := by
      refine Nat.lt_pow_two_of_testBit n (fun i hi => ?_)
      refine Bool.eq_false_iff.mpr (fun hb => ?_)
      by_cases h32 : i < 32
      · have h2 : bt (nI n) i = true := by
          unfold bt
          show (BitVec.ofNat 32 n).getLsbD i = true
          rw [BitVec.getLsbD_ofNat]; simp [h32, hb]
        have := h i h32 h2; omega
      · have e : (2 : Nat) ^ 32 ≤ 2 ^ i := Nat.pow_le_pow_right (by decide) (by omega)
        rw [Nat.testBit_lt_two_pow (by omega)] at hb; cases hb
    rw [inB_nI (by omega) (by decide) (by omega)]
    simp only [Bool.and_eq_true, decide_eq_true_eq]
    omega
  · intro h i hi hb
    obtain ⟨j, -, hj, rfl⟩ := inB_e (by omega) h (by decide)
    have h2 : (BitVec.ofNat 32 j).getLsbD i = true := hb
    rw [BitVec.getLsbD_ofNat] at h2
    have h3 : j.testBit i = true := by simpa [hi] using h2
    rcases Nat.lt_or_ge i k with q | q
    · exact q
    · have e : (2 : Nat) ^ k ≤ 2 ^ i := Nat.pow_le_pow_right (by decide) q
      rw [Nat.testBit_lt_two_pow (by omega)] at h3; cases h3
def aWeight (X : aX) (x : Int32) : Int32 := if inB x (nI 0) (nI (2 ^ X 14 0 - 1)) then nI (wgt X x.toNatClampNeg) else -1
section WEIGHTS
variable {G : aG} {μ : aMem} {X : aX}
theorem r_X5_neededWith (hx : xW X) (hc : cW μ X) (s : Nat) : a_Ret G sX5_neededWith [.ref 2, .int (nI s)] μ (some (.int (nI (ndM X s)))) μ := by
  intro post hp
  have hn := hx.1
  refine w_X5_neededWith_0 _ ?_
  refine a_for (fun i (z : Int32) => a_Runs G sX5_neededWith 4 [(0, .ref 2), (1, .int (nI s)), (2, .int z), (3, .int (nI i))] [] μ post) (fun i z => z = nI (orF (fun w => if ndS X s w then 2 ^ w else 0) i)) (X 5 0) ?_ ?_ 0 _ (by omega) rfl
  · rintro z rfl
    exact w_X5_neededWith_4 _ _ _ ⟨fun _ => hp, fun h => absurd (by rw [hc.1, q_le] <;> omega) h⟩
  · rintro i z hi rfl ih
    refine w_X5_neededWith_4 _ _ _ ⟨fun h => ?_, fun _ => ?_⟩
    · rw [hc.1, q_le (by omega) (by omega)] at h; omega
    rw [q_in (by omega), q_cl (by omega), hc.2.2.2.2.2 i (by omega), nI_add, q_pow (by omega), fa_or]
    refine ⟨by omega, fun h => ih _ ?_, fun h => ih _ ?_⟩
    · rw [orF, ndS, decide_eq_false h]; simp
    · rw [orF, ndS, decide_eq_true h]; simp
theorem r_X5_weightOf (hx : xW X) (hc : cW μ X) {m : Nat} (hm : m < 2 ^ 31) : a_Ret G sX5_weightOf [.ref 2, .int (nI m)] μ (some (.int (nI (wgM X m)))) μ := by
  intro post hp
  have hn := hx.1
  refine w_X5_weightOf_0 _ ?_
  refine a_for (fun i (z : Int32) => a_Runs G sX5_weightOf 4 [(0, .ref 2), (1, .int (nI m)), (2, .int z), (3, .int (nI i))] [] μ post) (fun i z => z = nI (fb_sm (fun w => if m.testBit w then X 8 w else 0) i)) (X 5 0) ?_ ?_ 0 _ (by omega) rfl
  · rintro z rfl
    exact w_X5_weightOf_4 _ _ _ ⟨fun _ => hp, fun h => absurd (by rw [hc.1, q_le] <;> omega) h⟩
  · rintro i z hi rfl ih
    refine w_X5_weightOf_4 _ _ _ ⟨fun h => ?_, fun _ => ?_⟩
    · rw [hc.1, q_le (by omega) (by omega)] at h; omega
    rw [nI_add]
    refine r_X6_has hm (by omega) _ ⟨_, rfl, br_b (fun h1 => ih _ ?_) (fun h1 => ?_)⟩
    · rw [fb_sm_succ, h1]; rfl
    · rw [q_in (by omega), q_cl (by omega), hc.2.2.2.1 i hi, nI_add]
      refine ⟨by omega, ih _ ?_⟩
      rw [fb_sm_succ, h1]; rfl
theorem r_X1_allBits (hx : xO X) (hc : cO μ X) : a_Ret G sX1_allBits [.ref 5] μ (some (.int (nI (2 ^ X 14 0 - 1)))) μ := by
  intro post hp
  have hn := hx.1
  refine w_X1_allBits_0 ?_
  rw [hc.1, q_pow (by omega), q_sub (Nat.one_le_two_pow)]
  exact hp
theorem r_X1_wiresFor (hx : xW X) (ho : xO X) (hc : cW μ X) (hco : cO μ X) {set : Nat} (hs : set < 2 ^ 31) : a_Ret G sX1_wiresFor [.ref 5, .int (nI set)] μ (some (.int (nI (wfM X set)))) μ := by
  intro post hp
  have hn := ho.1
  refine w_X1_wiresFor_0 _ ?_
  refine a_for (fun i (z : Int32) => a_Runs G sX1_wiresFor 4 [(0, .ref 5), (1, .int (nI set)), (2, .int z), (3, .int (nI i))] [] μ post) (fun i z => z = nI (orF (fun o => if set.testBit o then ndM X (X 15 o) else 0) i)) (X 14 0) ?_ ?_ 0 _ (by omega) rfl
  · rintro z rfl
    exact w_X1_wiresFor_4 _ _ _ ⟨fun _ => hp, fun h => absurd (by rw [hco.1, q_le] <;> omega) h⟩
  · rintro i z hi rfl ih
    refine w_X1_wiresFor_4 _ _ _ ⟨fun h => ?_, fun _ => ?_⟩
    · rw [hco.1, q_le (by omega) (by omega)] at h; omega
    rw [nI_add]
    refine r_X6_has hs (by omega) _ ⟨_, rfl, br_b (fun h1 => ih _ ?_) (fun h1 => ?_)⟩
    · rw [orF, h1]; simp
    · rw [q_in (by omega), q_cl (by omega), hco.2.2.1 i hi]
      refine ⟨by omega, r_X5_neededWith hx hc _ _ ⟨_, rfl, ?_⟩⟩
      rw [fa_or]
      refine ih _ ?_
      rw [orF, h1]; simp
theorem c_weight (hx : xW X) (ho : xO X) (hc : cW μ X) (hco : cO μ X) (x : Int32) : a_Ret G sX6_weight [.ref 0, .int x] μ (some (.int (aWeight X x))) μ := by
  intro post hp
  have hn := ho.1
  have hpw : 2 ^ X 14 0 ≤ 2 ^ 8 := Nat.pow_le_pow_right (by decide) hn
  refine w_X6_weight_0 _ (r_X1_allBits ho hco _ ⟨_, rfl, ?_⟩)
  rw [low_set hn]
  unfold aWeight at hp
  refine ⟨fun h1 => ?_, fun h1 => ?_⟩
  · rw [if_pos h1] at hp
    obtain ⟨e1, -, b1⟩ := inB_cl (by omega) (by decide) h1
    generalize hw : x.toNatClampNeg = w at *
    subst e1
    have := wfM_lt hx w
    refine r_X1_wiresFor hx ho hc hco (by omega) _ ⟨_, rfl, r_X5_weightOf hx hc (by omega) _ ⟨_, rfl, ?_⟩⟩
    rw [wg_eq]; exact hp
  · rw [if_neg h1] at hp; exact hp
theorem r_X7_needs (hx : xW X) (ho : xO X) (hm : mW μ X) (hmo : mO μ X) {o w : Nat} (hw : w < 20) (hoo : o < X 14 0) : a_Ret G sX7_needs [.ref 36, .int (nI o), .int (nI w)] μ (some (.int (bI (ndS X (X 15 o) w)))) μ := by
  intro post hp
  have hn := ho.1
  refine w_X7_needs_0 _ _ ?_
  rw [q_in (by omega), q_in (by omega), q_cl (by omega), q_cl (by omega), hm.2.2.2.2.2 w hw, hmo.2.2.1 o hoo]
  unfold ndS at hp
  refine ⟨hw, by omega, fun h => ⟨nI_00, ?_⟩, fun h => ⟨nI_11, ?_⟩⟩
  · rw [decide_eq_false h] at hp; exact hp
  · rw [decide_eq_true h] at hp; exact hp
theorem r_X7_weightOf (hx : xW X) (ho : xO X) (hm : mW μ X) (hmo : mO μ X) {set : Nat} (hs : set < 2 ^ 31) : a_Ret G sX7_weightOf [.ref 36, .int (nI set)] μ (some (.int (nI (wgt X set)))) μ := by
  intro post hp
  have hn := hx.1
  have hon := ho.1
  refine w_X7_weightOf_0 _ ?_
  refine a_for (fun i (z : Int32) => a_Runs G sX7_weightOf 4 [(0, .ref 36), (1, .int (nI set)), (2, .int z), (3, .int (nI i))] [] μ post) (fun i z => z = nI (fb_sm (fun w => if anyB (fun o => set.testBit o && ndS X (X 15 o) w) (X 14 0) then X 8 w else 0) i)) (X 5 0) ?_ ?_ 0 _ (by omega) rfl
  · rintro z rfl
    exact w_X7_weightOf_4 _ _ _ ⟨fun _ => hp, fun h => absurd (by rw [hm.1, q_le] <;> omega) h⟩
  · rintro i z hi rfl ih
    refine w_X7_weightOf_4 _ _ _ ⟨fun h => ?_, fun _ => ?_⟩
    · rw [hm.1, q_le (by omega) (by omega)] at h; omega
    refine a_for (fun j (b : Bool) => a_Runs G sX7_weightOf 18 [(0, .ref 36), (1, .int (nI set)), (2, .int (nI (fb_sm (fun w => if anyB (fun o => set.testBit o && ndS X (X 15 o) w) (X 14 0) then X 8 w else 0) i))), (3, .int (nI i)), (4, .int (bI b)), (5, .int (nI j))] [] μ post) (fun j b => b = anyB (fun o => set.testBit o && ndS X (X 15 o) i) j) (X 14 0) ?_ ?_ 0 false (by omega) rfl
    · rintro b rfl
      refine w_X7_weightOf_18 _ _ _ _ _ ⟨fun _ => br_b (fun h1 => ?_) (fun h1 => ?_), fun h => absurd (by rw [hmo.1, q_le] <;> omega) h⟩
      · rw [nI_add, nI_add]
        refine ih _ ?_
        rw [fb_sm_succ, h1]; rfl
      · rw [q_in (by omega), q_cl (by omega), hm.2.2.2.1 i hi, nI_add, nI_add]
        refine ⟨by omega, ih _ ?_⟩
        rw [fb_sm_succ, h1]; rfl
    · rintro j b hj rfl ih2
      refine w_X7_weightOf_18 _ _ _ _ _ ⟨fun h => ?_, fun _ => ?_⟩
      · rw [hmo.1, q_le (by omega) (by omega)] at h; omega
      rw [nI_add, q_bit hs (by omega), bI_1]
      refine br_n (fun h1 => ih2 true ?_) (fun h1 => ⟨fun h2 => ih2 false ?_, fun h2 => r_X7_needs hx ho hm hmo (by omega) hj _ ⟨_, rfl, br_b (fun h3 => ih2 false ?_) (fun h3 => ih2 true ?_)⟩⟩)
      · rw [anyB, h1]; rfl
      · rw [anyB, h1, Bool.eq_false_iff.mpr h2]; rfl
      · rw [anyB, h1, h2, h3]; rfl
      · rw [anyB, h1, h2, h3]; rfl
theorem m_weight (hx : xW X) (ho : xO X) (hm : mW μ X) (hmo : mO μ X) (x : Int32) : a_Ret G sX7_weight [.ref 36, .int x] μ (some (.int (aWeight X x))) μ := by
  intro post hp
  have hn := ho.1
  have hpw : 2 ^ X 14 0 ≤ 2 ^ 8 := Nat.pow_le_pow_right (by decide) hn
  refine w_X7_weight_0 _ ?_
  rw [hmo.1, q_pow (by omega), q_sub (Nat.one_le_two_pow)]
  unfold aWeight at hp
  refine r_X7_in _ _ _ _ ⟨_, rfl, br_b (fun h1 => ?_) (fun h1 => ?_)⟩
  · rw [h1, if_neg (by decide)] at hp; exact hp
  · rw [h1, if_pos rfl] at hp
    obtain ⟨e1, -, b1⟩ := inB_cl (by omega) (by decide) h1
    generalize hw : x.toNatClampNeg = w at *
    subst e1
    exact r_X7_weightOf hx ho hm hmo (by omega) _ ⟨_, rfl, hp⟩
theorem r_X1_hasTwin (hx : xW X) (ho : xO X) (hc : cW μ X) (hco : cO μ X) {o : Nat} (hoo : o < X 14 0) : a_Ret G sX1_hasTwin [.ref 5, .int (nI o)] μ (some (.int (bI (tw X o)))) μ := by
  intro post hp
  have hn := ho.1
  refine w_X1_hasTwin_0 _ ?_
  rw [q_in (by omega), q_cl (by omega), hco.2.2.1 o hoo]
  refine ⟨by omega, r_X5_neededWith hx hc _ _ ⟨_, rfl, ?_⟩⟩
  refine a_for (fun i (_ : Unit) => a_Runs G sX1_hasTwin 16 [(0, .ref 5), (1, .int (nI o)), (2, .int (nI (ndM X (X 15 o)))), (3, .int (nI i))] [] μ post) (fun i _ => anyB (fun t => decide (t ≠ o) && alk X o t) i = false) (X 14 0) ?_ ?_ 0 () (by omega) rfl
  · rintro - hno
    refine w_X1_hasTwin_16 _ _ _ ⟨fun _ => ⟨nI_00, ?_⟩, fun h => absurd (by rw [hco.1, q_le] <;> omega) h⟩
    unfold tw at hp
    rw [hno] at hp; exact hp
  · rintro i - hi hno ih
    have h1 := ndM_lt hx (X 15 i)
    have h2 := ndM_lt hx (X 15 o)
    refine w_X1_hasTwin_16 _ _ _ ⟨fun h => ?_, fun _ => ?_⟩
    · rw [hco.1, q_le (by omega) (by omega)] at h; omega
    rw [q_eq (by omega) (by omega), nI_add]
    refine ⟨fun h => ih () ?_, fun h => ?_⟩
    · rw [anyB, hno, decide_eq_false (by omega)]; rfl
    · rw [q_in (by omega), q_cl (by omega), hco.2.2.1 i hi]
      refine ⟨by omega, r_X5_neededWith hx hc _ _ ⟨_, rfl, ?_⟩⟩
      rw [q_eq (by omega) (by omega)]
      refine ⟨fun h3 => ih () ?_, fun h3 => ⟨nI_11, ?_⟩⟩
      · have e3 : alk X o i = false := decide_eq_false (fun q => h3 q.symm)
        rw [anyB, hno, e3, Bool.and_false]; rfl
      · have h4 : tw X o = true := anyB_iff.mpr ⟨i, hi, by rw [alk, decide_eq_true h3.symm, decide_eq_true h]; rfl⟩
        rw [h4] at hp; exact hp
theorem c_alike (hx : xW X) (ho : xO X) (hc : cW μ X) (hco : cO μ X) : a_Ret G sX6_alike [.ref 0] μ (some (.int (nI (fb_ct (tw X) (X 14 0))))) μ := by
  intro post hp
  have hn := ho.1
  refine w_X6_alike_0 ?_
  refine a_for (fun i (z : Int32) => a_Runs G sX6_alike 4 [(0, .ref 0), (1, .int z), (2, .int (nI i))] [] μ post) (fun i z => z = nI (fb_ct (tw X) i)) (X 14 0) ?_ ?_ 0 _ (by omega) rfl
  · rintro z rfl
    exact w_X6_alike_4 _ _ ⟨fun _ => hp, fun h => absurd (by rw [hco.1, q_le] <;> omega) h⟩
  · rintro i z hi rfl ih
    refine w_X6_alike_4 _ _ ⟨fun h => ?_, fun _ => ?_⟩
    · rw [hco.1, q_le (by omega) (by omega)] at h; omega
    rw [nI_add, nI_add]
    refine r_X1_hasTwin hx ho hc hco hi _ ⟨_, rfl, br_b (fun h1 => ih _ ?_) (fun h1 => ih _ ?_)⟩
    · rw [fb_ct_succ, h1]; rfl
    · rw [fb_ct_succ, h1]; rfl
theorem bI_inj {a b : Bool} : (bI a = bI b) = (a = b) := by cases a <;> cases b <;> simp [bI] <;> decide
theorem r_X7_areAlike (hx : xW X) (ho : xO X) (hm : mW μ X) (hmo : mO μ X) {a b : Nat} (ha : a < X 14 0) (hb : b < X 14 0) : a_Ret G sX7_areAlike [.ref 36, .int (nI a), .int (nI b)] μ (some (.int (bI (alk X a b)))) μ := by
  intro post hp
  have hn := hx.1
  refine w_X7_areAlike_0 _ _ ?_
  refine a_for (fun i (z : Bool) => a_Runs G sX7_areAlike 5 [(0, .ref 36), (1, .int (nI a)), (2, .int (nI b)), (3, .int (bI z)), (4, .int (nI i))] [] μ post) (fun i z => z = true ↔ ∀ w, w < i → ndS X (X 15 a) w = ndS X (X 15 b) w) (X 5 0) ?_ ?_ 0 true (by omega) ⟨fun _ w h => by omega, fun _ => rfl⟩
  · intro z hz
    have e : alk X a b = z := b_eq (by rw [hz]; unfold alk; rw [decide_eq_true_iff]; exact ndM_eq)
    rw [e] at hp
    exact w_X7_areAlike_5 _ _ _ _ ⟨fun _ => ⟨bI_01 _, hp⟩, fun h => absurd (by rw [hm.1, q_le] <;> omega) h⟩
  · intro i z hi hz ih
    refine w_X7_areAlike_5 _ _ _ _ ⟨fun h => ?_, fun _ => ?_⟩
    · rw [hm.1, q_le (by omega) (by omega)] at h; omega
    rw [nI_add]
    refine br_b (fun h1 => ih false ⟨fun h => (by cases h), fun h => ?_⟩) (fun h1 => r_X7_needs hx ho hm hmo (by omega) ha _ ⟨_, rfl, r_X7_needs hx ho hm hmo (by omega) hb _ ⟨_, rfl, ?_⟩⟩)
    · have := hz.mpr (fun w hw => h w (by omega))
      rw [h1] at this; cases this
    · rw [bI_inj]
      refine ⟨fun h2 => ih false ⟨fun h => (by cases h), fun h => absurd (h i (by omega)) h2⟩, fun h2 => ih true ⟨fun _ w hw => ?_, fun _ => rfl⟩⟩
      by_cases e : w = i
      · rw [e]; exact h2
      · exact hz.mp h1 w (by omega)
theorem m_alike (hx : xW X) (ho : xO X) (hm : mW μ X) (hmo : mO μ X) : a_Ret G sX7_alike [.ref 36] μ (some (.int (nI (fb_ct (tw X) (X 14 0))))) μ := by
  intro post hp
  have hn := ho.1
  refine w_X7_alike_0 ?_
  refine a_for (fun i (z : Int32) => a_Runs G sX7_alike 4 [(0, .ref 36), (1, .int z), (2, .int (nI i))] [] μ post) (fun i z => z = nI (fb_ct (tw X) i)) (X 14 0) ?_ ?_ 0 _ (by omega) rfl
  · rintro z rfl
    exact w_X7_alike_4 _ _ ⟨fun _ => hp, fun h => absurd (by rw [hmo.1, q_le] <;> omega) h⟩
  · rintro i z hi rfl ih
    refine w_X7_alike_4 _ _ ⟨fun h => ?_, fun _ => ?_⟩
    · rw [hmo.1, q_le (by omega) (by omega)] at h; omega
    refine a_for (fun j (b : Bool) => a_Runs G sX7_alike 17 [(0, .ref 36), (1, .int (nI (fb_ct (tw X) i))), (2, .int (nI i)), (3, .int (bI b)), (4, .int (nI j))] [] μ post) (fun j b => b = anyB (fun t => decide (t ≠ i) && alk X i t) j) (X 14 0) ?_ ?_ 0 false (by omega) rfl
    · rintro b rfl
      refine w_X7_alike_17 _ _ _ _ ⟨fun _ => ?_, fun h => absurd (by rw [hmo.1, q_le] <;> omega) h⟩
      rw [nI_add, nI_add, nI_add]
      have e : anyB (fun t => decide (t ≠ i) && alk X i t) (X 14 0) = tw X i := rfl
      rw [e]
      refine br_b (fun h1 => ih _ ?_) (fun h1 => ih _ ?_)
      · rw [fb_ct_succ, h1]; rfl
      · rw [fb_ct_succ, h1]; rfl
    · rintro j b hj rfl ih2
      refine w_X7_alike_17 _ _ _ _ ⟨fun h => ?_, fun _ => ?_⟩
      · rw [hmo.1, q_le (by omega) (by omega)] at h; omega
      rw [q_eq (by omega) (by omega), nI_add]
      refine br_n (fun h1 => ih2 true ?_) (fun h1 => ⟨fun h2 => ih2 false ?_, fun h2 => r_X7_areAlike hx ho hm hmo hi hj _ ⟨_, rfl, br_b (fun h3 => ih2 false ?_) (fun h3 => ih2 true ?_)⟩⟩)
      · rw [anyB, h1]; rfl
      · rw [anyB, h1, decide_eq_false (by omega)]; rfl
      · rw [anyB, h1, h3, Bool.and_false]; rfl
      · rw [anyB, h1, h3, decide_eq_true (by omega)]; rfl
end WEIGHTS
