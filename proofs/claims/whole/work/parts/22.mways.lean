section MWAYS
variable {G : aG} {μ : aMem} {X : aX}
theorem r_X7_goesBy (hy : xY X) (hm : mY μ X) {w d : Nat} (hw : w < 20) (hdd : d < 2 ^ 31) (hd : X 0 0 ≤ 16) : a_Ret G sX7_goesBy [.ref 36, .int (nI w), .int (nI d)] μ (some (.int (bI (goes X w d)))) μ := by
  intro post hp
  obtain ⟨hs, -, hin, -⟩ := hy w hw
  refine w_X7_goesBy_0 _ _ ?_
  refine a_for (fun i (x : Int32) => a_Runs G sX7_goesBy 5 [(0, .ref 36), (1, .int (nI w)), (2, .int (nI d)), (3, .int x), (4, .int (nI i))] [] μ post) (fun i x => x = bI (anyB (fun i => decide (X 12 (10 * w + i) = d)) i)) (X 11 w) ?_ ?_ 0 _ (by omega) rfl
  · rintro x rfl
    refine w_X7_goesBy_5 _ _ _ _ ?_
    rw [q_in (by omega), q_cl (by omega), hm.1 w hw]
    refine ⟨hw, fun _ => ⟨bI_01 _, ?_⟩, fun h => absurd (by rw [q_le] <;> omega) h⟩
    rw [goes_any]; exact hp
  · rintro i x hi rfl ih
    have hwi := hin i hi
    refine w_X7_goesBy_5 _ _ _ _ ?_
    rw [q_in (by omega), q_cl (by omega), hm.1 w hw, q_le (by omega) (by omega), pk_mul, nI_add, nI_add, q_in (by omega), q_cl (by omega), hm.2 w hw i hi, q_eq (by omega) hdd]
    refine ⟨hw, fun h => by omega, fun _ => br_n (fun h1 => ih _ ?_) (fun h1 => ⟨by omega, fun h2 => ih _ ?_, fun h2 => ih _ ?_⟩)⟩
    · rw [anyB, h1]; rfl
    · rw [anyB, h1, decide_eq_false h2]; rfl
    · rw [anyB, h1, decide_eq_true h2]; rfl
theorem r_X7_full (hd : xD X) (hx : xW X) (hy : xY X) (hmw : mW μ X) (hm : mY μ X) {d : Nat} (hdd : d < 16) : a_Ret G sX7_full [.ref 36, .int (nI d)] μ (some (.int (nI (fullB X d (X 5 0))))) μ := by
  intro post hp
  have hn := hx.1
  refine w_X7_full_0 _ ?_
  refine a_for (fun i (x : Int32) => a_Runs G sX7_full 4 [(0, .ref 36), (1, .int (nI d)), (2, .int x), (3, .int (nI i))] [] μ post) (fun i x => x = nI (fullB X d i)) (X 5 0) ?_ ?_ 0 _ (by omega) rfl
  · rintro x rfl
    exact w_X7_full_4 _ _ _ ⟨fun _ => hp, fun h => absurd (by rw [hmw.1, q_le] <;> omega) h⟩
  · rintro i x hi rfl ih
    refine w_X7_full_4 _ _ _ ⟨fun h => ?_, fun _ => ?_⟩
    · rw [hmw.1, q_le (by omega) (by omega)] at h; omega
    rw [nI_add, nI_add]
    refine r_X7_goesBy hy hm (by omega) (by omega) hd.1 _ ⟨_, rfl, br_b (fun h1 => ih _ ?_) (fun h1 => ?_)⟩
    · rw [fullB, fullB, fb_sm_succ, h1]; rfl
    · rw [q_in (by omega), q_cl (by omega), hmw.2.2.2.1 i hi, nI_add]
      refine ⟨by omega, ih _ ?_⟩
      rw [fullB, fullB, fb_sm_succ, h1]; rfl
theorem r_X7_mayGo (hd : xD X) (hx : xW X) (hy : xY X) (ha : xA X) (hmd : mD μ X) (hmw : mW μ X) (hm : mY μ X) (hma : mA μ X) {w d : Nat} (hw : w < X 5 0) (hdd : d < X 0 0) : a_Ret G sX7_mayGo [.ref 36, .int (nI w), .int (nI d)] μ (some (.int (bI (mayB X w d)))) μ := by
  intro post hp
  have hn := hx.1
  have hdn := hd.1
  have hw8 := hx.2.1 w hw
  have hd4 := hd.2 d hdd
  have hf := fullB_le hx d (Nat.le_refl (X 5 0))
  refine w_X7_mayGo_0 _ _ (r_X7_full hd hx hy hmw hm (by omega) _ ⟨_, rfl, ?_⟩)
  rw [q_in (by omega), q_in (by omega), q_cl (by omega), q_cl (by omega), hmd.2.2.2.2 d hdd, hmw.2.2.2.1 w hw, nI_add, q_lt (by omega) (by omega)]
  have loop : ∀ b : Bool, decide (fullB X d (X 5 0) + X 8 w ≤ X 4 d) = b → a_Runs G sX7_mayGo 30 [(0, .ref 36), (1, .int (nI w)), (2, .int (nI d)), (3, .int (bI b)), (4, .int (nI 0))] [] μ post := by
    intro b hb
    unfold mayB at hp
    rw [hb] at hp
    refine a_for (fun i (x : Bool) => a_Runs G sX7_mayGo 30 [(0, .ref 36), (1, .int (nI w)), (2, .int (nI d)), (3, .int (bI x)), (4, .int (nI i))] [] μ post) (fun i x => x = (b && !anyB (fun o => goes X o d && apW X o w) i)) (X 5 0) ?_ ?_ 0 b (by omega) (by simp [anyB])
    · rintro x rfl
      exact w_X7_mayGo_30 _ _ _ _ ⟨fun _ => ⟨bI_01 _, hp⟩, fun h => absurd (by rw [hmw.1, q_le] <;> omega) h⟩
    · rintro i x hi rfl ih
      have hi8 := hx.2.1 i hi
      have hap := (ha (X 9 i) (X 9 w) (by omega) (by omega)).1
      refine w_X7_mayGo_30 _ _ _ _ ⟨fun h => ?_, fun _ => br_b (fun h1 => ⟨bI_01 _, ?_⟩) (fun h1 => ?_)⟩
      · rw [hmw.1, q_le (by omega) (by omega)] at h; omega
      · rw [h1]
        have h2 : (b && !anyB (fun o => goes X o d && apW X o w) (X 5 0)) = false := by
          cases b with
          | false => rfl
          | true =>
            have h3 : anyB (fun o => goes X o d && apW X o w) i = true := by simpa using h1
            obtain ⟨j, hj, hj2⟩ := anyB_iff.mp h3
            rw [anyB_iff.mpr ⟨j, by omega, hj2⟩]; rfl
        rw [h2] at hp; exact hp
      · simp only [Bool.and_eq_true, Bool.not_eq_true'] at h1
        rw [nI_add]
        refine r_X7_goesBy hy hm (by omega) (by omega) hdn _ ⟨_, rfl, br_b (fun h2 => ih true ?_) (fun h2 => ?_)⟩
        · rw [anyB, h1.1, h1.2, h2]; rfl
        · rw [q_in (by omega), q_in (by omega), q_cl (by omega), q_cl (by omega), hmw.2.2.2.2.1 i hi, hmw.2.2.2.2.1 w hw, pk_mul, nI_add, q_in (by omega), q_cl (by omega), hma _ (by omega), q_e0 (by omega)]
          refine ⟨by omega, by omega, by omega, fun h3 => ih false ?_, fun h3 => ih true ?_⟩
          · rw [anyB, h1.1, h1.2, h2, apW, decide_eq_true (by omega)]; rfl
          · rw [anyB, h1.1, h1.2, h2, apW, decide_eq_false (by omega)]; rfl
  refine ⟨by omega, by omega, fun h => loop false (decide_eq_false (by omega)), fun h => loop true (decide_eq_true (by omega))⟩
theorem r_X7_lengthOf (hd : xD X) (hy : xY X) (hmd : mD μ X) (hm : mY μ X) {w : Nat} (hw : w < 20) : a_Ret G sX7_lengthOf [.ref 36, .int (nI w)] μ (some (.int (nI (wyL X w)))) μ := by
  intro post hp
  obtain ⟨hs, -, hin, -⟩ := hy w hw
  have hdn := hd.1
  refine w_X7_lengthOf_0 _ ?_
  refine a_for (fun i (x : Int32) => a_Runs G sX7_lengthOf 4 [(0, .ref 36), (1, .int (nI w)), (2, .int x), (3, .int (nI i))] [] μ post) (fun i x => x = nI (fb_sm (fun i => X 3 (X 12 (10 * w + i))) i)) (X 11 w) ?_ ?_ 0 _ (by omega) rfl
  · rintro x rfl
    refine w_X7_lengthOf_4 _ _ _ ?_
    rw [q_in (by omega), q_cl (by omega), hm.1 w hw]
    exact ⟨hw, fun _ => hp, fun h => absurd (by rw [q_le] <;> omega) h⟩
  · rintro i x hi rfl ih
    have hwi := hin i hi
    refine w_X7_lengthOf_4 _ _ _ ?_
    rw [q_in (by omega), q_cl (by omega), hm.1 w hw, q_le (by omega) (by omega), pk_mul, nI_add, q_in (by omega), q_cl (by omega), hm.2 w hw i hi, q_in (by omega), q_cl (by omega), hmd.2.2.2.1 _ hwi, nI_add, nI_add]
    exact ⟨hw, fun h => by omega, fun _ => ⟨by omega, by omega, ih _ (by rw [fb_sm_succ])⟩⟩
theorem clB_iff {X : aX} {w : Nat} : clB X w = true ↔ ∃ i o, i < X 11 w ∧ o < X 5 0 ∧ goes X o (X 12 (10 * w + i)) = true ∧ apW X o w = true := by
  unfold clB
  rw [anyB_iff]
  constructor
  · rintro ⟨o, ho, h⟩
    simp only [Bool.and_eq_true, decide_eq_true_eq] at h
    obtain ⟨b, hb⟩ : ∃ b, (wyB X w &&& wyB X o).testBit b = true := Nat.exists_testBit_of_ne_zero h.1
    rw [Nat.testBit_and, Bool.and_eq_true] at hb
    obtain ⟨i, hi, e⟩ := goes_iff.mp hb.1
    exact ⟨i, o, hi, ho, by rw [e]; exact hb.2, h.2⟩
  · rintro ⟨i, o, hi, ho, h1, h2⟩
    refine ⟨o, ho, ?_⟩
    simp only [Bool.and_eq_true, decide_eq_true_eq]
    refine ⟨fun h0 => ?_, h2⟩
    have h3 : (wyB X w).testBit (X 12 (10 * w + i)) = true := goes_iff.mpr ⟨i, hi, rfl⟩
    have h4 : (wyB X w &&& wyB X o).testBit (X 12 (10 * w + i)) = true := by rw [Nat.testBit_and, h3]; exact h1
    rw [h0] at h4; simp at h4
theorem r_X7_isClash (hd : xD X) (hx : xW X) (hy : xY X) (ha : xA X) (hmw : mW μ X) (hm : mY μ X) (hma : mA μ X) {w : Nat} (hw : w < X 5 0) : a_Ret G sX7_isClash [.ref 36, .int (nI w)] μ (some (.int (bI (clB X w)))) μ := by
  intro post hp
  have hn := hx.1
  have hdn := hd.1
  have hw8 := hx.2.1 w hw
  obtain ⟨hs, -, hin, -⟩ := hy w (by omega)
  have hend : anyB (fun i => anyB (fun o => goes X o (X 12 (10 * w + i)) && apW X o w) (X 5 0)) (X 11 w) = clB X w := b_eq (by
    rw [anyB_iff, clB_iff]
    constructor
    · rintro ⟨i, hi, h⟩
      obtain ⟨o, ho, h⟩ := anyB_iff.mp h
      simp only [Bool.and_eq_true] at h
      exact ⟨i, o, hi, ho, h.1, h.2⟩
    · rintro ⟨i, o, hi, ho, h1, h2⟩
      exact ⟨i, hi, anyB_iff.mpr ⟨o, ho, by rw [h1, h2]; rfl⟩⟩)
  refine w_X7_isClash_0 _ ?_
  refine a_for (fun i (x : Bool) => a_Runs G sX7_isClash 4 [(0, .ref 36), (1, .int (nI w)), (2, .int (bI x)), (3, .int (nI i))] [] μ post) (fun i x => x = anyB (fun i => anyB (fun o => goes X o (X 12 (10 * w + i)) && apW X o w) (X 5 0)) i) (X 11 w) ?_ ?_ 0 false (by omega) rfl
  · rintro x rfl
    refine w_X7_isClash_4 _ _ _ ?_
    rw [q_in (by omega), q_cl (by omega), hm.1 w (by omega)]
    refine ⟨by omega, fun _ => ⟨bI_01 _, ?_⟩, fun h => absurd (by rw [q_le] <;> omega) h⟩
    rw [hend]; exact hp
  · rintro i x hi rfl ih
    have hwi := hin i hi
    refine w_X7_isClash_4 _ _ _ ?_
    rw [q_in (by omega), q_cl (by omega), hm.1 w (by omega), q_le (by omega) (by omega)]
    refine ⟨by omega, fun h => by omega, fun _ => ?_⟩
    refine a_for (fun j (x : Bool) => a_Runs G sX7_isClash 17 [(0, .ref 36), (1, .int (nI w)), (2, .int (bI x)), (3, .int (nI i)), (4, .int (nI j))] [] μ post) (fun j x => x = (anyB (fun i => anyB (fun o => goes X o (X 12 (10 * w + i)) && apW X o w) (X 5 0)) i || anyB (fun o => goes X o (X 12 (10 * w + i)) && apW X o w) j)) (X 5 0) ?_ ?_ 0 _ (by omega) (by simp [anyB])
    · rintro x rfl
      refine w_X7_isClash_17 _ _ _ _ ⟨fun _ => ?_, fun h => absurd (by rw [hmw.1, q_le] <;> omega) h⟩
      rw [nI_add]; exact ih _ rfl
    · rintro j x hj rfl ih2
      have hj8 := hx.2.1 j hj
      have hap := (ha (X 9 j) (X 9 w) (by omega) (by omega)).1
      refine w_X7_isClash_17 _ _ _ _ ⟨fun h => ?_, fun _ => ?_⟩
      · rw [hmw.1, q_le (by omega) (by omega)] at h; omega
      rw [nI_add, pk_mul, nI_add, q_in (by omega), q_cl (by omega), hm.2 w (by omega) i hi]
      refine br_n (fun h1 => ih2 true ?_) (fun h1 => ⟨by omega, ?_⟩)
      · rw [anyB]
        rw [Bool.or_eq_true] at h1
        rcases h1 with h1 | h1 <;> rw [h1] <;> simp
      · rw [Bool.or_eq_false_iff] at h1
        refine r_X7_goesBy hy hm (by omega) (by omega) hdn _ ⟨_, rfl, br_b (fun h2 => ih2 false ?_) (fun h2 => ?_)⟩
        · rw [anyB, h1.1, h1.2, h2]; rfl
        · rw [q_in (by omega), q_in (by omega), q_cl (by omega), q_cl (by omega), hmw.2.2.2.2.1 j hj, hmw.2.2.2.2.1 w hw, pk_mul, nI_add, q_in (by omega), q_cl (by omega), hma _ (by omega), q_e0 (by omega)]
          refine ⟨by omega, by omega, by omega, fun h3 => ih2 false ?_, fun h3 => ih2 true ?_⟩
          · rw [anyB, h1.1, h1.2, h2, apW, decide_eq_false (by omega)]; rfl
          · rw [anyB, h1.1, h1.2, h2, apW, decide_eq_true (by omega)]; rfl
theorem r_X7_clashes (hd : xD X) (hx : xW X) (hy : xY X) (ha : xA X) (hmw : mW μ X) (hm : mY μ X) (hma : mA μ X) : a_Ret G sX7_clashes [.ref 36] μ (some (.int (nI (fb_ct (clB X) (X 5 0))))) μ := by
  intro post hp
  have hn := hx.1
  refine w_X7_clashes_0 ?_
  refine a_for (fun i (x : Int32) => a_Runs G sX7_clashes 4 [(0, .ref 36), (1, .int x), (2, .int (nI i))] [] μ post) (fun i x => x = nI (fb_ct (clB X) i)) (X 5 0) ?_ ?_ 0 _ (by omega) rfl
  · rintro x rfl
    exact w_X7_clashes_4 _ _ ⟨fun _ => hp, fun h => absurd (by rw [hmw.1, q_le] <;> omega) h⟩
  · rintro i x hi rfl ih
    refine w_X7_clashes_4 _ _ ⟨fun h => ?_, fun _ => ?_⟩
    · rw [hmw.1, q_le (by omega) (by omega)] at h; omega
    rw [nI_add, nI_add, nI_add]
    refine r_X7_isClash hd hx hy ha hmw hm hma hi _ ⟨_, rfl, br_b (fun h1 => ih _ ?_) (fun h1 => ih _ ?_)⟩
    · rw [fb_ct_succ, h1]; rfl
    · rw [fb_ct_succ, h1]; rfl
end MWAYS
