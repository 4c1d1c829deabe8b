/-! ===== the whole invariant; what a row's change does ===== -/
def JC (μ : aMem) (X : aX) : Prop := cD μ X ∧ cW μ X ∧ cY μ X ∧ cA μ X ∧ cO μ X ∧ cN μ X ∧ cQ μ X
def J (μ : aMem) (X : aX) : Prop := xOK X ∧ JC μ X ∧ mR μ X
section ROWS
variable {μ ν : aMem} {X Y : aX}
theorem xD_r (h : ∀ r, r ≤ 4 → Y r = X r) (hc : xD X) : xD Y := by unfold xD; rw [h 0 (by omega), h 1 (by omega), h 2 (by omega), h 3 (by omega), h 4 (by omega)]; exact hc
theorem cD_r (h : ∀ r, r ≤ 4 → Y r = X r) (hc : cD μ X) : cD μ Y := by unfold cD; rw [h 0 (by omega), h 1 (by omega), h 2 (by omega), h 3 (by omega), h 4 (by omega)]; exact hc
theorem mD_r (h : ∀ r, r ≤ 4 → Y r = X r) (hc : mD μ X) : mD μ Y := by unfold mD; rw [h 0 (by omega), h 1 (by omega), h 2 (by omega), h 3 (by omega), h 4 (by omega)]; exact hc
theorem xW_r (h : ∀ r, 5 ≤ r → r ≤ 10 → Y r = X r) (hc : xW X) : xW Y := by unfold xW; rw [h 5 (by omega) (by omega), h 6 (by omega) (by omega), h 7 (by omega) (by omega), h 8 (by omega) (by omega), h 9 (by omega) (by omega), h 10 (by omega) (by omega)]; exact hc
theorem cW_r (h : ∀ r, 5 ≤ r → r ≤ 10 → Y r = X r) (hc : cW μ X) : cW μ Y := by unfold cW; rw [h 5 (by omega) (by omega), h 6 (by omega) (by omega), h 7 (by omega) (by omega), h 8 (by omega) (by omega), h 9 (by omega) (by omega), h 10 (by omega) (by omega)]; exact hc
theorem mW_r (h : ∀ r, 5 ≤ r → r ≤ 10 → Y r = X r) (hc : mW μ X) : mW μ Y := by unfold mW; rw [h 5 (by omega) (by omega), h 6 (by omega) (by omega), h 7 (by omega) (by omega), h 8 (by omega) (by omega), h 9 (by omega) (by omega), h 10 (by omega) (by omega)]; exact hc
theorem xY_r (h0 : Y 0 = X 0) (h5 : Y 5 = X 5) (h11 : Y 11 = X 11) (h12 : Y 12 = X 12) (hc : xY X) : xY Y := by unfold xY; rw [h0, h5, h11, h12]; exact hc
theorem cY_r (h3 : Y 3 = X 3) (h11 : Y 11 = X 11) (h12 : Y 12 = X 12) (hc : cY μ X) : cY μ Y := by
  unfold cY
  have e1 : wyB Y = wyB X := by funext w; unfold wyB; rw [h11, h12]
  have e2 : wyL Y = wyL X := by funext w; unfold wyL; rw [h3, h11, h12]
  rw [e1, e2, h11, h12]; exact hc
theorem mY_r (h11 : Y 11 = X 11) (h12 : Y 12 = X 12) (hc : mY μ X) : mY μ Y := by unfold mY; rw [h11, h12]; exact hc
theorem xA_r (h : Y 13 = X 13) (hc : xA X) : xA Y := by unfold xA; rw [h]; exact hc
theorem cA_r (h : Y 13 = X 13) (hc : cA μ X) : cA μ Y := by
  unfold cA
  have e : apM Y = apM X := by funext a; unfold apM; rw [h]
  rw [e]; exact hc
theorem mA_r (h : Y 13 = X 13) (hc : mA μ X) : mA μ Y := by unfold mA; rw [h]; exact hc
theorem xO_r (h : ∀ r, 14 ≤ r → r ≤ 17 → Y r = X r) (hc : xO X) : xO Y := by unfold xO; rw [h 14 (by omega) (by omega), h 15 (by omega) (by omega), h 16 (by omega) (by omega), h 17 (by omega) (by omega)]; exact hc
theorem cO_r (h : ∀ r, 14 ≤ r → r ≤ 17 → Y r = X r) (hc : cO μ X) : cO μ Y := by unfold cO; rw [h 14 (by omega) (by omega), h 15 (by omega) (by omega), h 16 (by omega) (by omega), h 17 (by omega) (by omega)]; exact hc
theorem mO_r (h : ∀ r, 14 ≤ r → r ≤ 17 → Y r = X r) (hc : mO μ X) : mO μ Y := by unfold mO; rw [h 14 (by omega) (by omega), h 15 (by omega) (by omega), h 16 (by omega) (by omega), h 17 (by omega) (by omega)]; exact hc
theorem xN_r (h : Y 18 = X 18) (hc : xN X) : xN Y := by unfold xN; rw [h]; exact hc
theorem cN_r (h : Y 18 = X 18) (hc : cN μ X) : cN μ Y := by unfold cN; rw [h]; exact hc
theorem mN_r (h : Y 18 = X 18) (hc : mN μ X) : mN μ Y := by unfold mN; rw [h]; exact hc
theorem cQ_r (h5 : Y 5 = X 5) (h8 : Y 8 = X 8) (h10 : Y 10 = X 10) (h : ∀ r, 14 ≤ r → r ≤ 17 → Y r = X r) (hc : cQ μ X) : cQ μ Y := by
  have e : plX Y = plX X := by
    have ek : kX Y = kX X := by
      funext A
      unfold kX pcs wgt ndS
      rw [h5, h8, h10, h 14 (by omega) (by omega), h 15 (by omega) (by omega), h 16 (by omega) (by omega), h 17 (by omega) (by omega)]
    unfold plX; rw [ek, h 14 (by omega) (by omega)]
  unfold cQ; rw [e, h 14 (by omega) (by omega)]; exact hc
-- cells
theorem cO.kp {μ ν : aMem} {X : aX} (h : cO μ X) (hk : ∀ k, k = 5 ∨ k = 28 ∨ k = 29 → ν.1 k = μ.1 k) : cO ν X := by unfold cO; rw [hk 5 (by omega), hk 28 (by omega), hk 29 (by omega)]; exact h
theorem cQ.kp {μ ν : aMem} {X : aX} (h : cQ μ X) (hk : ∀ k, k = 5 ∨ k = 30 ∨ k = 31 ∨ k = 33 → ν.1 k = μ.1 k) (h34 : ν.2 34 = μ.2 34) : cQ ν X := by unfold cQ; rw [hk 5 (by omega), hk 30 (by omega), hk 31 (by omega), hk 33 (by omega), h34]; exact h
theorem mD.kp {μ ν : aMem} {X : aX} (h : mD μ X) (hk : ∀ k, 37 ≤ k → k ≤ 40 → ν.1 k = μ.1 k) (h0 : ν.1 36 0 = μ.1 36 0) : mD ν X := by unfold mD; rw [h0, hk 37 (by omega) (by omega), hk 38 (by omega) (by omega), hk 39 (by omega) (by omega), hk 40 (by omega) (by omega)]; exact h
theorem mW.kp {μ ν : aMem} {X : aX} (h : mW μ X) (hk : ∀ k, 41 ≤ k → k ≤ 45 → ν.1 k = μ.1 k) (h0 : ν.1 36 5 = μ.1 36 5) : mW ν X := by unfold mW; rw [h0, hk 41 (by omega) (by omega), hk 42 (by omega) (by omega), hk 43 (by omega) (by omega), hk 44 (by omega) (by omega), hk 45 (by omega) (by omega)]; exact h
theorem mY.kp {μ ν : aMem} {X : aX} (h : mY μ X) (h46 : ν.1 46 = μ.1 46) (h47 : ν.1 47 = μ.1 47) : mY ν X := by unfold mY; rw [h46, h47]; exact h
theorem mA.kp {μ ν : aMem} {X : aX} (h : mA μ X) (hk : ν.1 48 = μ.1 48) : mA ν X := by unfold mA; rw [hk]; exact h
theorem mO.kp {μ ν : aMem} {X : aX} (h : mO μ X) (h22 : ν.1 36 22 = μ.1 36 22) (h25 : ν.1 36 25 = μ.1 36 25) (h57 : ν.1 57 = μ.1 57) (h58 : ν.1 58 = μ.1 58) : mO ν X := by unfold mO; rw [h22, h25, h57, h58]; exact h
theorem mN.kp {μ ν : aMem} {X : aX} (h : mN μ X) (hk : ν.1 62 = μ.1 62) : mN ν X := by unfold mN; rw [hk]; exact h
/-- what the class's own scratch cells leave -/
theorem JC.scr (h : JC μ X) (hk : ∀ k, k < 36 → k ∉ [3, 4, 22, 23, 24, 25, 26, 27] → ν.1 k = μ.1 k ∧ ν.2 k = μ.2 k) : JC ν X := by
  obtain ⟨a, b, c, d, e, f, g⟩ := h
  have q : ∀ k, k < 36 → k ∉ [3, 4, 22, 23, 24, 25, 26, 27] → ν.1 k = μ.1 k := fun k h1 h2 => (hk k h1 h2).1
  exact ⟨a.kept (fun k h => q k (by omega) (by simp; omega)), b.kept (fun k h => q k (by omega) (by simp; omega)), c.kept (fun k h => q k (by omega) (by simp; omega)), d.kept (q 21 (by omega) (by simp)), e.kp (fun k h => q k (by omega) (by simp; omega)), f.kept (q 35 (by omega) (by simp)), g.kp (fun k h => q k (by omega) (by simp; omega)) (hk 34 (by omega) (by simp)).2⟩
theorem JC.lo (h : JC μ X) (hk : loS μ ν) : JC ν X := h.scr (fun k h _ => hk k h)
/-- what the reference's scratch cells leave -/
theorem mR.scr (h : mR μ X) (hk : ∀ k, 36 ≤ k → k ∉ [49, 50, 51, 52, 53, 54, 55, 56, 59, 60, 61] → ν.1 k = μ.1 k) : mR ν X := by
  obtain ⟨a, b, c, d, e, f⟩ := h
  have q := hk
  exact ⟨a.kp (fun k h h' => q k (by omega) (by simp; omega)) (by rw [q 36 (by omega) (by simp)]), b.kp (fun k h h' => q k (by omega) (by simp; omega)) (by rw [q 36 (by omega) (by simp)]), c.kp (q 46 (by omega) (by simp)) (q 47 (by omega) (by simp)), d.kp (q 48 (by omega) (by simp)), e.kp (by rw [q 36 (by omega) (by simp)]) (by rw [q 36 (by omega) (by simp)]) (q 57 (by omega) (by simp)) (q 58 (by omega) (by simp)), f.kp (q 62 (by omega) (by simp))⟩
theorem hiS_of {ks : List Nat} (h : a_eqx ks μ ν) (hk : ∀ k ∈ ks, k < 36) : hiS μ ν := fun k h36 => h k (fun hc => by have := hk k hc; omega)
theorem loS_of {ks : List Nat} (h : a_eqx ks μ ν) (hk : ∀ k ∈ ks, 36 ≤ k) : loS μ ν := fun k h36 => h k (fun hc => by have := hk k hc; omega)
theorem mR.hi (h : mR μ X) (hk : hiS μ ν) : mR ν X := h.scr (fun k h _ => (hk k h).1)
theorem hiS.rf (μ : aMem) : hiS μ μ := fun _ _ => ⟨rfl, rfl⟩
theorem loS.rf (μ : aMem) : loS μ μ := fun _ _ => ⟨rfl, rfl⟩
-- the states behind each call
theorem dX_ok (hx : xOK X) (hn : X 0 0 < 16) {a b l r : Nat} (ha : a < 10) (hb : b < 10) (hab : a ≠ b) (hl : 1 ≤ l ∧ l ≤ 99) (hr : 1 ≤ r ∧ r ≤ 300) : xOK (dX X a b l r) := by
  obtain ⟨h1, h2, h3, h4, h5, h6⟩ := hx
  have e0 : dX X a b l r 0 0 = X 0 0 + 1 := by show upN (X 0) 0 (X 0 0 + 1) 0 = _; exact upN_s _ _ _
  refine ⟨⟨by rw [e0]; omega, fun d hd => ?_⟩, h2, fun w hw => ?_, h4, h5, h6⟩
  · rw [e0] at hd
    show upN (X 1) (X 0 0) a d < 10 ∧ upN (X 2) (X 0 0) b d < 10 ∧ upN (X 1) (X 0 0) a d ≠ upN (X 2) (X 0 0) b d ∧ 1 ≤ upN (X 3) (X 0 0) l d ∧ upN (X 3) (X 0 0) l d ≤ 99 ∧ 1 ≤ upN (X 4) (X 0 0) r d ∧ upN (X 4) (X 0 0) r d ≤ 300
    by_cases e : d = X 0 0
    · rw [e, upN_s, upN_s, upN_s, upN_s]; exact ⟨ha, hb, hab, hl.1, hl.2, hr.1, hr.2⟩
    · rw [upN_n _ _ e, upN_n _ _ e, upN_n _ _ e, upN_n _ _ e]; exact h1.2 d (by omega)
  · obtain ⟨q1, q2, q3, q4⟩ := h3 w hw
    refine ⟨q1, q2, fun i hi => ?_, q4⟩
    rw [e0]
    have : X 12 (10 * w + i) < X 0 0 := q3 i hi
    show X 12 (10 * w + i) < X 0 0 + 1
    omega
theorem dX_cY (hy : xY X) {a b l r : Nat} (hc : cY μ X) : cY μ (dX X a b l r) := by
  refine ⟨hc.1, rp_cong hc.2.1 (fun w hw => ?_), hc.2.2⟩
  refine fb_sm_cong (fun i hi => ?_)
  show X 3 (X 12 (10 * w + i)) = upN (X 3) (X 0 0) l (X 12 (10 * w + i))
  have := (hy w hw).2.2.1 i hi
  rw [upN_n _ _ (by omega)]
theorem fDuct_j (hx : xOK X) (x1 x2 x3 x4 : Int32) : xOK (fDuct X x1 x2 x3 x4).2 ∧ (∀ r, 5 ≤ r → (fDuct X x1 x2 x3 x4).2 r = X r) ∧ ∀ μ, cY μ X → cY μ (fDuct X x1 x2 x3 x4).2 := by
  have same : xOK X ∧ (∀ r, 5 ≤ r → X r = X r) ∧ ∀ μ, cY μ X → cY μ X := ⟨hx, fun _ _ => rfl, fun _ h => h⟩
  unfold fDuct
  by_cases h1 : (inB x1 (nI 0) (nI 9) && inB x2 (nI 0) (nI 9)) = true
  · rw [if_pos h1]
    by_cases h2 : (inB x3 (nI 1) (nI 99) && inB x4 (nI 1) (nI 300)) = true
    · rw [if_pos h2]
      by_cases h3 : x1 = x2
      · rw [if_pos h3]; exact same
      · rw [if_neg h3]
        by_cases h4 : X 0 0 < 16
        · rw [if_pos h4]
          rw [Bool.and_eq_true] at h1 h2
          obtain ⟨e1, a1, b1⟩ := inB_cl (by decide) (by decide) h1.1
          obtain ⟨e2, a2, b2⟩ := inB_cl (by decide) (by decide) h1.2
          obtain ⟨e3, a3, b3⟩ := inB_cl (by decide) (by decide) h2.1
          obtain ⟨e4, a4, b4⟩ := inB_cl (by decide) (by decide) h2.2
          refine ⟨dX_ok hx h4 (by omega) (by omega) (fun h => h3 (by rw [e1, e2, h])) ⟨a3, b3⟩ ⟨a4, b4⟩, fun r hr => ?_, fun μ h => dX_cY hx.2.2.1 h⟩
          show va_up (va_up (va_up (va_up (va_up X 1 _) 2 _) 3 _) 4 _) 0 _ r = _
          rw [va_up_ne _ _ (by omega), va_up_ne _ _ (by omega), va_up_ne _ _ (by omega), va_up_ne _ _ (by omega), va_up_ne _ _ (by omega)]
        · rw [if_neg h4]; exact same
    · rw [if_neg h2]; exact same
  · rw [if_neg h1]; exact same
theorem fWire_j (hx : xOK X) (x1 x2 x3 x4 : Int32) : xOK (fWire X x1 x2 x3 x4).2 ∧ (∀ r, r < 5 ∨ 10 ≤ r → (fWire X x1 x2 x3 x4).2 r = X r) := by
  have same : xOK X ∧ (∀ r, r < 5 ∨ 10 ≤ r → X r = X r) := ⟨hx, fun _ _ => rfl⟩
  unfold fWire
  by_cases h1 : (inB x1 (nI 0) (nI 9) && inB x2 (nI 0) (nI 9)) = true
  · rw [if_pos h1]
    by_cases h2 : (inB x3 (nI 1) (nI 50) && inB x4 (nI 0) (nI 3)) = true
    · rw [if_pos h2]
      by_cases h3 : x1 = x2
      · rw [if_pos h3]; exact same
      · rw [if_neg h3]
        by_cases h4 : X 5 0 < 20
        · rw [if_pos h4]
          rw [Bool.and_eq_true] at h1 h2
          obtain ⟨e1, a1, b1⟩ := inB_cl (by decide) (by decide) h1.1
          obtain ⟨e2, a2, b2⟩ := inB_cl (by decide) (by decide) h1.2
          obtain ⟨e3, a3, b3⟩ := inB_cl (by decide) (by decide) h2.1
          obtain ⟨e4, a4, b4⟩ := inB_cl (by decide) (by decide) h2.2
          have hne : x1.toNatClampNeg ≠ x2.toNatClampNeg := fun h => h3 (by rw [e1, e2, h])
          generalize x1.toNatClampNeg = a at *
          generalize x2.toNatClampNeg = b at *
          generalize x3.toNatClampNeg = t at *
          generalize x4.toNatClampNeg = k at *
          obtain ⟨q1, q2, q3, q4, q5, q6⟩ := hx
          have e0 : wX X a b t k 5 0 = X 5 0 + 1 := by show upN (X 5) 0 (X 5 0 + 1) 0 = _; exact upN_s _ _ _
          show xOK (wX X a b t k) ∧ ∀ r, r < 5 ∨ 10 ≤ r → wX X a b t k r = X r
          refine ⟨⟨q1, ⟨by rw [e0]; omega, fun w hw => ?_, q2.2.2⟩, fun w hw => ?_, q4, q5, q6⟩, fun r hr => ?_⟩
          · rw [e0] at hw
            show upN (X 6) (X 5 0) a w < 10 ∧ upN (X 7) (X 5 0) b w < 10 ∧ upN (X 6) (X 5 0) a w ≠ upN (X 7) (X 5 0) b w ∧ 1 ≤ upN (X 8) (X 5 0) t w ∧ upN (X 8) (X 5 0) t w ≤ 50 ∧ upN (X 9) (X 5 0) k w < 4
            by_cases e : w = X 5 0
            · rw [e, upN_s, upN_s, upN_s, upN_s]; exact ⟨by omega, by omega, hne, a3, b3, by omega⟩
            · rw [upN_n _ _ e, upN_n _ _ e, upN_n _ _ e, upN_n _ _ e]; exact q2.2.1 w (by omega)
          · obtain ⟨y1, y2, y3, y4⟩ := q3 w hw
            refine ⟨y1, fun h => y2 ?_, y3, y4⟩
            rw [e0] at h; omega
          · show va_up (va_up (va_up (va_up (va_up X 6 _) 7 _) 8 _) 9 _) 5 _ r = _
            rw [va_up_ne _ _ (by omega), va_up_ne _ _ (by omega), va_up_ne _ _ (by omega), va_up_ne _ _ (by omega), va_up_ne _ _ (by omega)]
        · rw [if_neg h4]; exact same
    · rw [if_neg h2]; exact same
  · rw [if_neg h1]; exact same
theorem fOption_j (hx : xOK X) (x1 x2 : Int32) : xOK (fOption X x1 x2).2 ∧ (∀ r, r ≠ 10 → (fOption X x1 x2).2 r = X r) := by
  have same : xOK X ∧ (∀ r, r ≠ 10 → X r = X r) := ⟨hx, fun _ _ => rfl⟩
  unfold fOption
  by_cases h1 : inB x1 (nI 0) (nI (X 5 0) - nI 1) = true
  · rw [if_pos h1]
    by_cases h2 : inB x2 (nI 0) (nI 255) = true
    · rw [if_pos h2]
      obtain ⟨e2, a2, b2⟩ := inB_cl (by decide) (by decide) h2
      generalize x2.toNatClampNeg = s at *
      obtain ⟨q1, q2, q3, q4, q5, q6⟩ := hx
      refine ⟨⟨q1, ⟨q2.1, q2.2.1, fun w hw => ?_⟩, q3, q4, q5, q6⟩, fun r hr => va_up_ne _ _ hr⟩
      show upN (X 10) x1.toNatClampNeg s w < 256
      by_cases e : w = x1.toNatClampNeg
      · rw [e, upN_s]; omega
      · rw [upN_n _ _ e]; exact q2.2.2 w hw
    · rw [if_neg h2]; exact same
  · rw [if_neg h1]; exact same
theorem fOrder_j (hx : xOK X) (x1 x2 : Int32) : xOK (fOrder X x1 x2).2 ∧ (∀ r, r < 14 ∨ 17 ≤ r → (fOrder X x1 x2).2 r = X r) := by
  have same : xOK X ∧ (∀ r, r < 14 ∨ 17 ≤ r → X r = X r) := ⟨hx, fun _ _ => rfl⟩
  unfold fOrder
  by_cases h1 : (inB x1 (nI 0) (nI 255) && inB x2 (nI 1) (nI 1000)) = true
  · rw [if_pos h1]
    by_cases h4 : X 14 0 < 8
    · rw [if_pos h4]
      rw [Bool.and_eq_true] at h1
      obtain ⟨e1, a1, b1⟩ := inB_cl (by decide) (by decide) h1.1
      obtain ⟨e2, a2, b2⟩ := inB_cl (by decide) (by decide) h1.2
      generalize x1.toNatClampNeg = s at *
      generalize x2.toNatClampNeg = p at *
      obtain ⟨q1, q2, q3, q4, q5, q6⟩ := hx
      have e0 : oX X s p 14 0 = X 14 0 + 1 := by show upN (X 14) 0 (X 14 0 + 1) 0 = _; exact upN_s _ _ _
      show xOK (oX X s p) ∧ ∀ r, r < 14 ∨ 17 ≤ r → oX X s p r = X r
      refine ⟨⟨q1, q2, q3, q4, ⟨by rw [e0]; omega, fun o hoo => ?_, q5.2.2⟩, q6⟩, fun r hr => ?_⟩
      · rw [e0] at hoo
        show upN (X 15) (X 14 0) s o < 256 ∧ 1 ≤ upN (X 16) (X 14 0) p o ∧ upN (X 16) (X 14 0) p o ≤ 1000
        by_cases e : o = X 14 0
        · rw [e, upN_s, upN_s]; exact ⟨by omega, a2, b2⟩
        · rw [upN_n _ _ e, upN_n _ _ e]; exact q5.2.1 o (by omega)
      · show va_up (va_up (va_up X 15 _) 16 _) 14 _ r = _
        rw [va_up_ne _ _ (by omega), va_up_ne _ _ (by omega), va_up_ne _ _ (by omega)]
    · rw [if_neg h4]; exact same
  · rw [if_neg h1]; exact same
theorem fSetup_j (hx : xOK X) (x : Int32) : xOK (fSetup X x).2 ∧ (∀ r, r ≠ 17 → (fSetup X x).2 r = X r) := by
  unfold fSetup
  by_cases h1 : inB x (nI 0) (nI 100000) = true
  · rw [if_pos h1]
    obtain ⟨e1, a1, b1⟩ := inB_cl (by decide) (by decide) h1
    obtain ⟨q1, q2, q3, q4, q5, q6⟩ := hx
    refine ⟨⟨q1, q2, q3, q4, ⟨q5.1, q5.2.1, ?_⟩, q6⟩, fun r hr => va_up_ne _ _ hr⟩
    show upN (X 17) 0 x.toNatClampNeg 0 ≤ 100000
    rw [upN_s]; exact b1
  · rw [if_neg h1]; exact ⟨hx, fun _ _ => rfl⟩
theorem fApart_j (hx : xOK X) (x1 x2 : Int32) (i : Bool) : xOK (fApart X x1 x2 i).2 ∧ (∀ r, r ≠ 13 → (fApart X x1 x2 i).2 r = X r) := by
  have same : xOK X ∧ (∀ r, r ≠ 13 → X r = X r) := ⟨hx, fun _ _ => rfl⟩
  unfold fApart
  by_cases h1 : (inB x1 (nI 0) (nI 3) && inB x2 (nI 0) (nI 3)) = true
  · rw [if_pos h1]
    by_cases h3 : x1 = x2
    · rw [if_pos h3]; exact same
    · rw [if_neg h3]
      rw [Bool.and_eq_true] at h1
      obtain ⟨e1, a1, b1⟩ := inB_cl (by decide) (by decide) h1.1
      obtain ⟨e2, a2, b2⟩ := inB_cl (by decide) (by decide) h1.2
      obtain ⟨q1, q2, q3, q4, q5, q6⟩ := hx
      exact ⟨⟨q1, q2, q3, aX2_xA q4 (by cases i <;> decide) (by omega) (by omega), q5, q6⟩, fun r hr => va_up_ne _ _ hr⟩
  · rw [if_neg h1]; exact same
theorem fLift_j (hx : xOK X) (x : Int32) : xOK (fLift X x).2 ∧ (∀ r, r ≠ 11 → (fLift X x).2 r = X r) := by
  have same : xOK X ∧ (∀ r, r ≠ 11 → X r = X r) := ⟨hx, fun _ _ => rfl⟩
  unfold fLift
  by_cases h1 : isW X x = true
  · rw [if_pos h1]
    by_cases h3 : X 11 x.toNatClampNeg = 0
    · rw [if_pos h3]; exact same
    · rw [if_neg h3]
      obtain ⟨q1, q2, q3, q4, q5, q6⟩ := hx
      refine ⟨⟨q1, q2, fun w hw => ?_, q4, q5, q6⟩, fun r hr => va_up_ne _ _ hr⟩
      obtain ⟨y1, y2, y3, y4⟩ := q3 w hw
      show upN (X 11) x.toNatClampNeg 0 w ≤ 9 ∧ (X 5 0 ≤ w → upN (X 11) x.toNatClampNeg 0 w = 0) ∧ (∀ i, i < upN (X 11) x.toNatClampNeg 0 w → X 12 (10 * w + i) < X 0 0) ∧ ∀ i j, i < j → j < upN (X 11) x.toNatClampNeg 0 w → X 12 (10 * w + i) ≠ X 12 (10 * w + j)
      by_cases e : w = x.toNatClampNeg
      · rw [e, upN_s]; exact ⟨by omega, fun _ => rfl, fun i h => by omega, fun i j _ h => by omega⟩
      · rw [upN_n _ _ e]; exact ⟨y1, y2, y3, y4⟩
  · rw [if_neg h1]; exact same
theorem fLay_j (hx : xOK X) (x : Int32) : xOK (fLay X x).2 ∧ (∀ r, r ≠ 11 → r ≠ 12 → (fLay X x).2 r = X r) := by
  obtain ⟨h1, h2⟩ := fLay_ok hx.1 hx.2.1 hx.2.2.1 x
  obtain ⟨q1, q2, q3, q4, q5, q6⟩ := hx
  refine ⟨⟨xD_r (fun r hr => h2 r (by omega) (by omega)) q1, xW_r (fun r hr hr' => h2 r (by omega) (by omega)) q2, h1, xA_r (h2 13 (by omega) (by omega)) q4, xO_r (fun r hr hr' => h2 r (by omega) (by omega)) q5, xN_r (h2 18 (by omega) (by omega)) q6⟩, h2⟩
def fPin (X : aX) (x1 x2 : Int32) : Int32 × aX := if inB x1 (nI 0) (nI 15) && inB x2 (nI 0) (nI 7) then (nI (X 18 x1.toNatClampNeg), va_up X 18 (upN (X 18) x1.toNatClampNeg x2.toNatClampNeg)) else (-1, X)
theorem fPin_j (hx : xOK X) (x1 x2 : Int32) : xOK (fPin X x1 x2).2 ∧ (∀ r, r ≠ 18 → (fPin X x1 x2).2 r = X r) := by
  unfold fPin
  by_cases h1 : (inB x1 (nI 0) (nI 15) && inB x2 (nI 0) (nI 7)) = true
  · rw [if_pos h1]
    rw [Bool.and_eq_true] at h1
    obtain ⟨e2, a2, b2⟩ := inB_cl (by decide) (by decide) h1.2
    obtain ⟨q1, q2, q3, q4, q5, q6⟩ := hx
    refine ⟨⟨q1, q2, q3, q4, q5, fun p hp => ?_⟩, fun r hr => va_up_ne _ _ hr⟩
    show upN (X 18) x1.toNatClampNeg x2.toNatClampNeg p < 8
    by_cases e : p = x1.toNatClampNeg
    · rw [e, upN_s]; omega
    · rw [upN_n _ _ e]; exact q6 p hp
  · rw [if_neg h1]; exact ⟨hx, fun _ _ => rfl⟩
end ROWS
