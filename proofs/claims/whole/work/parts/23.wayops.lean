/-! ===== lift, way, length, left, loss, count ===== -/
def isW (X : aX) (x : Int32) : Bool := inB x (nI 0) (nI (X 5 0) - nI 1)
def lX (X : aX) (w : Nat) : aX := va_up X 11 (upN (X 11) w 0)
def fLift (X : aX) (x : Int32) : Int32 × aX := if isW X x then if X 11 x.toNatClampNeg = 0 then (-3, X) else (nI (wyL X x.toNatClampNeg), lX X x.toNatClampNeg) else (-1, X)
def aWay (X : aX) (x i : Int32) : Int32 := if isW X x then if inB i (nI 0) (nI (X 11 x.toNatClampNeg) - nI 1) then nI (X 12 (10 * x.toNatClampNeg + i.toNatClampNeg)) else -9 else -1
def aLength (X : aX) (x : Int32) : Int32 := if isW X x then if X 11 x.toNatClampNeg = 0 then -9 else nI (wyL X x.toNatClampNeg) else -1
def aLeft (X : aX) (x : Int32) (m : Bool) : Int32 := if inB x (nI 0) (nI (X 0 0) - nI 1) then if m then nI (fb_ct (fun w => goes X w x.toNatClampNeg) (X 5 0)) else nI (X 4 x.toNatClampNeg) - nI (fullB X x.toNatClampNeg (X 5 0)) else -1
def aLoss (X : aX) (x c : Int32) : Int32 := if isW X x then if inB c (nI 1) (nI 100) then if X 11 x.toNatClampNeg = 0 then -3 else (nI 20 * c * nI (wyL X x.toNatClampNeg) + nI (X 8 x.toNatClampNeg) - nI 1) / nI (X 8 x.toNatClampNeg) else -2 else -1
def aCount (X : aX) (x : Int32) : Int32 := if x.toInt = 0 then nI (X 0 0) else if x.toInt = 1 then nI (X 5 0) else if x.toInt = 2 then nI (fb_ct (fun w => decide (X 11 w ≠ 0)) (X 5 0)) else if x.toInt = 3 then nI (X 14 0) else if x.toInt = 4 then nI (pop (usedN (X 18))) else if x.toInt = 5 then nI (fb_sm (wyL X) (X 5 0)) else -2
section WAYOPS
variable {G : aG} {μ : aMem} {X : aX}
theorem lX_B {X : aX} {w v : Nat} : wyB (lX X w) v = if v = w then 0 else wyB X v := by
  show orF (fun i => 2 ^ X 12 (10 * v + i)) (upN (X 11) w 0 v) = _
  by_cases e : v = w
  · rw [if_pos e, e, upN_s]; rfl
  · rw [if_neg e, upN_n _ _ e]; rfl
theorem lX_L {X : aX} {w v : Nat} : wyL (lX X w) v = if v = w then 0 else wyL X v := by
  show fb_sm (fun i => X 3 (X 12 (10 * v + i))) (upN (X 11) w 0 v) = _
  by_cases e : v = w
  · rw [if_pos e, e, upN_s]; rfl
  · rw [if_neg e, upN_n _ _ e]; rfl
theorem c_lift (hd : xD X) (hx : xW X) (hy : xY X) (hcw : cW μ X) (hc : cY μ X) (x : Int32) : a_Spec G sX6_lift [.ref 0, .int x] μ (fun v ν => v = some (.int (fLift X x).1) ∧ cY ν (fLift X x).2 ∧ a_eqx [18, 19] μ ν) := by
  have hn := hx.1
  refine w_X6_lift_0 _ (r_X6_isWire _ _ ⟨_, rfl, ?_⟩)
  rw [hcw.1]
  refine br_n (fun h1 => ?_) (fun h1 => ?_)
  · obtain ⟨e1, b1⟩ := inB_wi (by omega) h1
    generalize hw : x.toNatClampNeg = w at *
    subst e1
    refine r_X5_isLaid hd hy hc (by omega) _ ⟨_, rfl, br_n (fun h2 => ?_) (fun h2 => ?_)⟩
    · have h2 : X 11 w ≠ 0 := of_decide_eq_true h2
      have e : fLift X (nI w) = (nI (wyL X w), lX X w) := by unfold fLift isW; rw [h1, if_pos rfl, hw, if_neg h2]
      rw [e, q_in (by omega)]
      try rw [hw]
      rw [hc.2.1 w (by omega)]
      refine ⟨by omega, w_X5_takeOut_0 _ ?_⟩
      rw [q_in (by omega), hw]
      refine ⟨by omega, by omega, rfl, rfl, ⟨?_, ?_, ?_⟩, ?_⟩
      · exact rp_cong (rp_at (k := w) (v := 0) hc.1 rfl) (fun i hi => by rw [lX_B]; rfl)
      · exact rp_cong (rp_at (k := w) (v := 0) hc.2.1 rfl) (fun i hi => by rw [lX_L]; rfl)
      · intro v hv i hi
        have hi : i < upN (X 11) w 0 v := hi
        by_cases ev : v = w
        · rw [ev, upN_s] at hi; omega
        · rw [upN_n _ _ ev] at hi; exact hc.2.2 v hv i hi
      · intro k hk
        simp only [List.mem_cons, List.not_mem_nil, or_false, not_or] at hk
        refine ⟨?_, rfl⟩
        show va_up (va_up μ.1 18 _) 19 _ k = _
        rw [va_up_ne _ _ hk.2, va_up_ne _ _ hk.1]
    · have h2 : X 11 w = 0 := by simpa using h2
      have e : fLift X (nI w) = (-3, X) := by unfold fLift isW; rw [h1, if_pos rfl, hw, if_pos h2]
      rw [e]; exact ⟨rfl, hc, a_eqx.rf _ _⟩
  · have e : fLift X x = (-1, X) := by unfold fLift isW; rw [h1, if_neg (by decide)]
    rw [e]; exact ⟨rfl, hc, a_eqx.rf _ _⟩
theorem m_lift (hd : xD X) (hx : xW X) (hy : xY X) (hmd : mD μ X) (hmw : mW μ X) (hm : mY μ X) (x : Int32) : a_Spec G sX7_lift [.ref 36, .int x] μ (fun v ν => v = some (.int (fLift X x).1) ∧ mY ν (fLift X x).2 ∧ a_eqx [46] μ ν) := by
  have hn := hx.1
  refine w_X7_lift_0 _ (r_X7_isWire _ _ ⟨_, rfl, ?_⟩)
  rw [hmw.1]
  refine br_n (fun h1 => ?_) (fun h1 => ?_)
  · obtain ⟨e1, b1⟩ := inB_wi (by omega) h1
    generalize hw : x.toNatClampNeg = w at *
    subst e1
    have h9 := (hy w (by omega)).1
    rw [q_in (by omega)]
    try rw [hw]
    rw [hm.1 w (by omega), q_e0 (by omega)]
    refine ⟨by omega, fun h2 => ?_, fun h2 => ?_⟩
    · have e : fLift X (nI w) = (nI (wyL X w), lX X w) := by unfold fLift isW; rw [h1, if_pos rfl, hw, if_neg h2]
      rw [e]
      refine r_X7_lengthOf hd hy hmd hm (by omega) _ ⟨_, rfl, by omega, rfl, ⟨?_, ?_⟩, a_eqx.up _ _ _⟩
      · exact rp_at (k := w) (v := 0) hm.1 rfl
      · intro v hv i hi
        have hi : i < upN (X 11) w 0 v := hi
        by_cases ev : v = w
        · rw [ev, upN_s] at hi; omega
        · rw [upN_n _ _ ev] at hi; exact hm.2 v hv i hi
    · have e : fLift X (nI w) = (-3, X) := by unfold fLift isW; rw [h1, if_pos rfl, hw, if_pos h2]
      rw [e]; exact ⟨rfl, hm, a_eqx.rf _ _⟩
  · have e : fLift X x = (-1, X) := by unfold fLift isW; rw [h1, if_neg (by decide)]
    rw [e]; exact ⟨rfl, hm, a_eqx.rf _ _⟩
theorem c_way (hd : xD X) (hx : xW X) (hy : xY X) (hcw : cW μ X) (hc : cY μ X) (x i : Int32) : a_Ret G sX6_way [.ref 0, .int x, .int i] μ (some (.int (aWay X x i))) μ := by
  intro post hp
  have hn := hx.1
  refine w_X6_way_0 _ _ (r_X6_isWire _ _ ⟨_, rfl, ?_⟩)
  rw [hcw.1]
  unfold aWay isW at hp
  refine br_n (fun h1 => ?_) (fun h1 => ?_)
  · obtain ⟨e1, b1⟩ := inB_wi (by omega) h1
    rw [h1, if_pos rfl] at hp
    generalize hw : x.toNatClampNeg = w at *
    subst e1
    obtain ⟨h9, -⟩ := hy w (by omega)
    have h16 := wyB_lt hd hy (w := w) (by omega)
    refine w_X5_step_0 _ _ ⟨fun h2 => ?_, fun h2 => ?_⟩
    · have h3 : inB i (nI 0) (nI (X 11 w) - nI 1) = false := by
        refine Bool.eq_false_iff.mpr (fun h => ?_)
        obtain ⟨j, hj, rfl⟩ := (inB_m1 (by omega)).mp h
        rw [q_n0 (by omega)] at h2; exact h2
      rw [h3, if_neg (by decide)] at hp
      exact ⟨_, rfl, hp⟩
    · rw [q_in (by omega), q_cl (by omega), hc.1 w (by omega)]
      refine ⟨by omega, r_J6_bitCount h16 _ ⟨_, rfl, ?_⟩⟩
      rw [pop_wyB hd hy (by omega)]
      obtain ⟨j, hj, rfl⟩ := nI_of h2
      rw [q_lt hj (by omega)]
      refine ⟨fun h3 => ?_, fun h3 => ?_⟩
      · have h4 : inB (nI j) (nI 0) (nI (X 11 w) - nI 1) = true := (inB_m1 (by omega)).mpr ⟨j, h3, rfl⟩
        rw [h4, if_pos rfl, q_cl hj] at hp
        rw [pk_mul, nI_add, q_in (by omega), q_cl (by omega), Nat.mul_comm w 9, hc.2.2 w (by omega) j h3]
        exact ⟨by omega, _, rfl, hp⟩
      · have h4 : inB (nI j) (nI 0) (nI (X 11 w) - nI 1) = false := by
          refine Bool.eq_false_iff.mpr (fun h => ?_)
          obtain ⟨k, hk, e⟩ := (inB_m1 (by omega)).mp h
          rw [q_eq hj (by omega)] at e; omega
        rw [h4, if_neg (by decide)] at hp
        exact ⟨_, rfl, hp⟩
  · rw [h1, if_neg (by decide)] at hp; exact hp
theorem m_way (hx : xW X) (hy : xY X) (hmw : mW μ X) (hm : mY μ X) (x i : Int32) : a_Ret G sX7_way [.ref 36, .int x, .int i] μ (some (.int (aWay X x i))) μ := by
  intro post hp
  have hn := hx.1
  refine w_X7_way_0 _ _ (r_X7_isWire _ _ ⟨_, rfl, ?_⟩)
  rw [hmw.1]
  unfold aWay isW at hp
  refine br_n (fun h1 => ?_) (fun h1 => ?_)
  · obtain ⟨e1, b1⟩ := inB_wi (by omega) h1
    rw [h1, if_pos rfl] at hp
    generalize hw : x.toNatClampNeg = w at *
    subst e1
    obtain ⟨h9, -⟩ := hy w (by omega)
    rw [q_in (by omega)]
    try rw [hw]
    rw [hm.1 w (by omega)]
    refine ⟨by omega, r_X7_in _ _ _ _ ⟨_, rfl, br_b (fun h2 => ?_) (fun h2 => ?_)⟩⟩
    · rw [h2, if_neg (by decide)] at hp; exact hp
    · rw [h2, if_pos rfl] at hp
      obtain ⟨e2, b2⟩ := inB_wi (by omega) h2
      generalize hw2 : i.toNatClampNeg = j at *
      subst e2
      rw [pk_mul, nI_add, q_in (by omega), q_cl (by omega), hm.2 w (by omega) j b2]
      exact ⟨by omega, hp⟩
  · rw [h1, if_neg (by decide)] at hp; exact hp
theorem c_length (hd : xD X) (hx : xW X) (hy : xY X) (hcw : cW μ X) (hc : cY μ X) (x : Int32) : a_Ret G sX6_length [.ref 0, .int x] μ (some (.int (aLength X x))) μ := by
  intro post hp
  have hn := hx.1
  refine w_X6_length_0 _ (r_X6_isWire _ _ ⟨_, rfl, ?_⟩)
  rw [hcw.1]
  unfold aLength isW at hp
  refine br_n (fun h1 => ?_) (fun h1 => ?_)
  · obtain ⟨e1, b1⟩ := inB_wi (by omega) h1
    rw [h1, if_pos rfl] at hp
    generalize hw : x.toNatClampNeg = w at *
    subst e1
    refine r_X5_isLaid hd hy hc (by omega) _ ⟨_, rfl, br_b (fun h2 => ?_) (fun h2 => ?_)⟩
    · rw [if_pos (by simpa using h2)] at hp; exact hp
    · rw [if_neg (of_decide_eq_true h2)] at hp
      rw [q_in (by omega)]
      try rw [hw]
      rw [hc.2.1 w (by omega)]
      exact ⟨by omega, hp⟩
  · rw [h1, if_neg (by decide)] at hp; exact hp
theorem m_length (hd : xD X) (hx : xW X) (hy : xY X) (hmd : mD μ X) (hmw : mW μ X) (hm : mY μ X) (x : Int32) : a_Ret G sX7_length [.ref 36, .int x] μ (some (.int (aLength X x))) μ := by
  intro post hp
  have hn := hx.1
  refine w_X7_length_0 _ (r_X7_isWire _ _ ⟨_, rfl, ?_⟩)
  rw [hmw.1]
  unfold aLength isW at hp
  refine br_n (fun h1 => ?_) (fun h1 => ?_)
  · obtain ⟨e1, b1⟩ := inB_wi (by omega) h1
    rw [h1, if_pos rfl] at hp
    generalize hw : x.toNatClampNeg = w at *
    subst e1
    have h9 := (hy w (by omega)).1
    rw [q_in (by omega)]
    try rw [hw]
    rw [hm.1 w (by omega), q_e0 (by omega)]
    refine ⟨by omega, fun h2 => ?_, fun h2 => ?_⟩
    · rw [if_neg h2] at hp
      exact r_X7_lengthOf hd hy hmd hm (by omega) _ ⟨_, rfl, hp⟩
    · rw [if_pos h2] at hp; exact hp
  · rw [h1, if_neg (by decide)] at hp; exact hp
theorem c_left (hd : xD X) (hx : xW X) (hy : xY X) (hcd : cD μ X) (hcw : cW μ X) (hc : cY μ X) (x : Int32) (m : Bool) : a_Ret G sX6_left [.ref 0, .int x, .int (bI m)] μ (some (.int (aLeft X x m))) μ := by
  intro post hp
  have hn := hd.1
  refine w_X6_left_0 _ _ (r_X6_isWithin _ _ _ _ ⟨_, rfl, ?_⟩)
  rw [hcd.1]
  unfold aLeft at hp
  refine br_n (fun h1 => br_b (fun h2 => ?_) (fun h2 => ?_)) (fun h1 => ?_)
  · obtain ⟨e1, b1⟩ := inB_wi (by omega) h1
    rw [h1, if_pos rfl, h2, if_neg (by decide)] at hp
    generalize hw : x.toNatClampNeg = w at *
    subst e1
    rw [q_in (by omega)]
    try rw [hw]
    rw [hcd.2.2.2.2.2.1 w b1]
    exact ⟨by omega, r_X5_thicknessThrough hd hx hy hcw hc (by omega) _ ⟨_, rfl, hp⟩⟩
  · obtain ⟨e1, b1⟩ := inB_wi (by omega) h1
    rw [h1, if_pos rfl, h2, if_pos rfl] at hp
    generalize hw : x.toNatClampNeg = w at *
    subst e1
    exact r_X5_laidThrough hd hx hy hcw hc (by omega) _ ⟨_, rfl, hp⟩
  · rw [h1, if_neg (by decide)] at hp; exact hp
theorem m_left (hd : xD X) (hx : xW X) (hy : xY X) (hmd : mD μ X) (hmw : mW μ X) (hm : mY μ X) (x : Int32) (m : Bool) : a_Ret G sX7_left [.ref 36, .int x, .int (bI m)] μ (some (.int (aLeft X x m))) μ := by
  intro post hp
  have hn := hd.1
  have hwn := hx.1
  refine w_X7_left_0 _ _ (r_X7_isDuct _ _ ⟨_, rfl, ?_⟩)
  rw [hmd.1]
  unfold aLeft at hp
  refine br_n (fun h1 => ?_) (fun h1 => ?_)
  · obtain ⟨e1, b1⟩ := inB_wi (by omega) h1
    rw [h1, if_pos rfl] at hp
    generalize hw : x.toNatClampNeg = w at *
    subst e1
    refine a_for (fun i (z : Int32) => a_Runs G sX7_left 15 [(0, .ref 36), (1, .int (nI w)), (2, .int (bI m)), (3, .int z), (4, .int (nI i))] [] μ post) (fun i z => z = nI (fb_ct (fun v => goes X v w) i)) (X 5 0) ?_ ?_ 0 _ (by omega) rfl
    · rintro z rfl
      refine w_X7_left_15 _ _ _ _ ⟨fun _ => br_b (fun h2 => ?_) (fun h2 => ?_), fun h => absurd (by rw [hmw.1, q_le] <;> omega) h⟩
      · rw [h2, if_neg (by decide)] at hp
        rw [q_in (by omega)]
        try rw [hw]
        rw [hmd.2.2.2.2 w b1]
        exact ⟨by omega, r_X7_full hd hx hy hmw hm (by omega) _ ⟨_, rfl, hp⟩⟩
      · rw [h2, if_pos rfl] at hp; exact hp
    · rintro i z hi rfl ih
      refine w_X7_left_15 _ _ _ _ ⟨fun h => ?_, fun _ => ?_⟩
      · rw [hmw.1, q_le (by omega) (by omega)] at h; omega
      rw [nI_add, nI_add, nI_add]
      refine r_X7_goesBy hy hm (by omega) (by omega) hn _ ⟨_, rfl, br_b (fun h2 => ih _ ?_) (fun h2 => ih _ ?_)⟩
      · rw [fb_ct_succ, h2]; rfl
      · rw [fb_ct_succ, h2]; rfl
  · rw [h1, if_neg (by decide)] at hp; exact hp
theorem c_loss (hd : xD X) (hx : xW X) (hy : xY X) (hcw : cW μ X) (hc : cY μ X) (x c : Int32) : a_Ret G sX6_loss [.ref 0, .int x, .int c] μ (some (.int (aLoss X x c))) μ := by
  intro post hp
  have hn := hx.1
  refine w_X6_loss_0 _ _ (r_X6_isWire _ _ ⟨_, rfl, ?_⟩)
  rw [hcw.1]
  unfold aLoss isW at hp
  refine br_n (fun h1 => r_X6_isWithin _ _ _ _ ⟨_, rfl, br_n (fun h2 => ?_) (fun h2 => ?_)⟩) (fun h1 => ?_)
  · obtain ⟨e1, b1⟩ := inB_wi (by omega) h1
    rw [h1, if_pos rfl, h2, if_pos rfl] at hp
    generalize hw : x.toNatClampNeg = w at *
    subst e1
    have h8 := hx.2.1 w b1
    refine r_X5_isLaid hd hy hc (by omega) _ ⟨_, rfl, br_n (fun h3 => ?_) (fun h3 => ?_)⟩
    · rw [if_neg (of_decide_eq_true h3)] at hp
      rw [q_in (by omega)]
      try rw [hw]
      rw [hc.2.1 w (by omega), hcw.2.2.2.1 w b1]
      refine ⟨by omega, by omega, w_X6_dividedUp_0 _ _ ?_⟩
      rw [q_le (by omega) (by omega), q_e0 (by omega)]
      exact ⟨fun _ => ⟨by omega, _, rfl, hp⟩, fun h => absurd (by omega) h⟩
    · rw [if_pos (by simpa using h3)] at hp; exact hp
  · rw [h1, if_pos rfl, h2, if_neg (by decide)] at hp; exact hp
  · rw [h1, if_neg (by decide)] at hp; exact hp
theorem m_loss (hd : xD X) (hx : xW X) (hy : xY X) (hmd : mD μ X) (hmw : mW μ X) (hm : mY μ X) (x c : Int32) : a_Ret G sX7_loss [.ref 36, .int x, .int c] μ (some (.int (aLoss X x c))) μ := by
  intro post hp
  have hn := hx.1
  refine w_X7_loss_0 _ _ (r_X7_isWire _ _ ⟨_, rfl, ?_⟩)
  rw [hmw.1]
  unfold aLoss isW at hp
  refine br_n (fun h1 => r_X7_in _ _ _ _ ⟨_, rfl, br_n (fun h2 => ?_) (fun h2 => ?_)⟩) (fun h1 => ?_)
  · obtain ⟨e1, b1⟩ := inB_wi (by omega) h1
    rw [h1, if_pos rfl, h2, if_pos rfl] at hp
    generalize hw : x.toNatClampNeg = w at *
    subst e1
    have h8 := hx.2.1 w b1
    have h9 := (hy w (by omega)).1
    rw [q_in (by omega)]
    try rw [hw]
    rw [hm.1 w (by omega), q_e0 (by omega)]
    refine ⟨by omega, fun h3 => ?_, fun h3 => ?_⟩
    · rw [if_neg h3] at hp
      refine r_X7_lengthOf hd hy hmd hm (by omega) _ ⟨_, rfl, by omega, by omega, ?_⟩
      rw [hmw.2.2.2.1 w b1, q_e0 (by omega)]
      exact ⟨by omega, hp⟩
    · rw [if_pos h3] at hp; exact hp
  · rw [h1, if_pos rfl, h2, if_neg (by decide)] at hp; exact hp
  · rw [h1, if_neg (by decide)] at hp; exact hp
theorem sumL_le {X : aX} (hd : xD X) (hy : xY X) {k : Nat} (hk : k ≤ 20) : fb_sm (wyL X) k ≤ 17820 := by
  have h := fb_sm_bound (f := wyL X) (c := 891) (n := k) (fun i hi => wyL_le hd hy (by omega))
  have : k * 891 ≤ 20 * 891 := Nat.mul_le_mul_right _ hk
  omega
theorem r_X5_laid (hd : xD X) (hx : xW X) (hy : xY X) (hcw : cW μ X) (hc : cY μ X) : a_Ret G sX5_laid [.ref 2] μ (some (.int (nI (fb_ct (fun w => decide (X 11 w ≠ 0)) (X 5 0))))) μ := by
  intro post hp
  have hn := hx.1
  refine w_X5_laid_0 ?_
  refine a_for (fun i (x : Int32) => a_Runs G sX5_laid 4 [(0, .ref 2), (1, .int x), (2, .int (nI i))] [] μ post) (fun i x => x = nI (fb_ct (fun w => decide (X 11 w ≠ 0)) i)) (X 5 0) ?_ ?_ 0 _ (by omega) rfl
  · rintro x rfl
    exact w_X5_laid_4 _ _ ⟨fun _ => hp, fun h => absurd (by rw [hcw.1, q_le] <;> omega) h⟩
  · rintro i x hi rfl ih
    refine w_X5_laid_4 _ _ ⟨fun h => ?_, fun _ => ?_⟩
    · rw [hcw.1, q_le (by omega) (by omega)] at h; omega
    rw [nI_add, nI_add]
    refine r_X5_isLaid hd hy hc (by omega) _ ⟨_, rfl, br_b (fun h1 => ih _ ?_) (fun h1 => ih _ ?_)⟩
    · rw [fb_ct_succ, h1]; rfl
    · rw [fb_ct_succ, h1]; rfl
theorem r_X5_laidLength (hx : xW X) (hcw : cW μ X) (hc : cY μ X) : a_Ret G sX5_laidLength [.ref 2] μ (some (.int (nI (fb_sm (wyL X) (X 5 0))))) μ := by
  intro post hp
  have hn := hx.1
  refine w_X5_laidLength_0 ?_
  refine a_for (fun i (x : Int32) => a_Runs G sX5_laidLength 4 [(0, .ref 2), (1, .int x), (2, .int (nI i))] [] μ post) (fun i x => x = nI (fb_sm (wyL X) i)) (X 5 0) ?_ ?_ 0 _ (by omega) rfl
  · rintro x rfl
    exact w_X5_laidLength_4 _ _ ⟨fun _ => hp, fun h => absurd (by rw [hcw.1, q_le] <;> omega) h⟩
  · rintro i x hi rfl ih
    refine w_X5_laidLength_4 _ _ ⟨fun h => ?_, fun _ => ?_⟩
    · rw [hcw.1, q_le (by omega) (by omega)] at h; omega
    rw [q_in (by omega), q_cl (by omega), hc.2.1 i (by omega), nI_add, nI_add]
    exact ⟨by omega, ih _ (by rw [fb_sm_succ])⟩
theorem c_count (hd : xD X) (hx : xW X) (hy : xY X) (hn8 : xN X) (hcd : cD μ X) (hcw : cW μ X) (hc : cY μ X) (hco : cO μ X) (hcn : cN μ X) (x : Int32) : a_Ret G sX6_count [.ref 0, .int x] μ (some (.int (aCount X x))) μ := by
  intro post hp
  have hu := usedN_lt hn8
  unfold aCount at hp
  refine w_X6_count_0 _ ⟨fun h => ?_, fun h => ?_, fun h => ?_, fun h => ?_, fun h => ?_, fun h => ?_, fun h => ?_, trivial⟩
  · rw [if_neg (by omega), if_neg (by omega), if_neg (by omega), if_neg (by omega), if_neg (by omega), if_neg (by omega)] at hp; exact hp
  · rw [if_pos h] at hp; rw [hcd.1]; exact hp
  · rw [if_neg (by omega), if_pos h] at hp; rw [hcw.1]; exact hp
  · rw [if_neg (by omega), if_neg (by omega), if_pos h] at hp
    exact r_X5_laid hd hx hy hcw hc _ ⟨_, rfl, hp⟩
  · rw [if_neg (by omega), if_neg (by omega), if_neg (by omega), if_pos h] at hp; rw [hco.1]; exact hp
  · rw [if_neg (by omega), if_neg (by omega), if_neg (by omega), if_neg (by omega), if_pos h] at hp
    exact r_X2_usedNets hcn hn8 _ ⟨_, rfl, r_J6_bitCount (by omega) _ ⟨_, rfl, hp⟩⟩
  · rw [if_neg (by omega), if_neg (by omega), if_neg (by omega), if_neg (by omega), if_neg (by omega), if_pos h] at hp
    exact r_X5_laidLength hx hcw hc _ ⟨_, rfl, hp⟩
theorem m_count (hd : xD X) (hx : xW X) (hy : xY X) (hn8 : xN X) (hm : mR μ X) (x : Int32) : a_Ret G sX7_count [.ref 36, .int x] μ (some (.int (aCount X x))) μ := by
  intro post hp
  have hu := usedN_lt hn8
  have hwn := hx.1
  obtain ⟨hmd, hmw, hmy, hma, hmo, hmn⟩ := hm
  unfold aCount at hp
  refine w_X7_count_0 _ ?_
  refine a_for (fun i (z : Int32 × Int32) => a_Runs G sX7_count 7 [(0, .ref 36), (1, .int x), (2, .int z.1), (3, .int z.2), (4, .int (nI i))] [] μ post) (fun i z => z.1 = nI (fb_ct (fun w => decide (X 11 w ≠ 0)) i) ∧ z.2 = nI (fb_sm (wyL X) i)) (X 5 0) ?_ ?_ 0 (nI 0, nI 0) (by omega) ⟨rfl, rfl⟩
  · rintro ⟨z1, z2⟩ ⟨rfl, rfl⟩
    refine w_X7_count_7 _ _ _ _ ⟨fun _ => ⟨fun h => ?_, fun h => ?_, fun h => ?_, fun h => ?_, fun h => ?_, fun h => ?_, fun h => ?_, trivial⟩, fun h => absurd (by rw [hmw.1, q_le] <;> omega) h⟩
    · rw [if_neg (by omega), if_neg (by omega), if_neg (by omega), if_neg (by omega), if_neg (by omega), if_neg (by omega)] at hp; exact hp
    · rw [if_pos h] at hp; rw [hmd.1]; exact hp
    · rw [if_neg (by omega), if_pos h] at hp; rw [hmw.1]; exact hp
    · rw [if_neg (by omega), if_neg (by omega), if_pos h] at hp; exact hp
    · rw [if_neg (by omega), if_neg (by omega), if_neg (by omega), if_pos h] at hp; rw [hmo.1]; exact hp
    · rw [if_neg (by omega), if_neg (by omega), if_neg (by omega), if_neg (by omega), if_pos h] at hp
      exact r_X7_nets hmn hn8 _ ⟨_, rfl, r_X7_ones (by omega) _ ⟨_, rfl, hp⟩⟩
    · rw [if_neg (by omega), if_neg (by omega), if_neg (by omega), if_neg (by omega), if_neg (by omega), if_pos h] at hp; exact hp
  · rintro i ⟨z1, z2⟩ hi ⟨e1, e2⟩ ih
    have e1 : z1 = _ := e1
    have e2 : z2 = _ := e2
    subst e1
    subst e2
    have h9 := (hy i (by omega)).1
    refine w_X7_count_7 _ _ _ _ ⟨fun h => ?_, fun _ => ?_⟩
    · rw [hmw.1, q_le (by omega) (by omega)] at h; omega
    rw [q_in (by omega), q_cl (by omega), hmy.1 i (by omega), q_le0 (by omega)]
    refine ⟨by omega, fun h => r_X7_lengthOf hd hy hmd hmy (by omega) _ ⟨_, rfl, ?_⟩, fun h => r_X7_lengthOf hd hy hmd hmy (by omega) _ ⟨_, rfl, ?_⟩⟩
    · rw [nI_add, nI_add, nI_add]
      refine ih (_, _) ⟨?_, ?_⟩
      · show nI _ = _
        rw [fb_ct_succ, decide_eq_false (by omega)]; rfl
      · show nI _ = _
        rw [fb_sm_succ]
    · rw [nI_add, nI_add, nI_add]
      refine ih (_, _) ⟨?_, ?_⟩
      · show nI _ = _
        rw [fb_ct_succ, decide_eq_true h]; rfl
      · show nI _ = _
        rw [fb_sm_succ]
end WAYOPS
