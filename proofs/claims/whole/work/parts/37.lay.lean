/-! ===== lay ===== -/
def layL (X : aX) (w : Nat) : Nat → Int := labO X (mayB X w) (X 7 w)
def layN (X : aX) (w : Nat) : Nat := (layL X w (X 6 w) % 32).toNat
def layS (X : aX) (w i : Nat) : Nat := stp X (prO X (mayB X w)) (prO X (mayB X w)) (layL X w) (X 6 w) i
def yX (X : aX) (w : Nat) : aX := va_up (va_up X 11 (upN (X 11) w (layN X w))) 12 (fun j => if 10 * w ≤ j ∧ j < 10 * w + layN X w then layS X w (j - 10 * w) else X 12 j)
def fLay (X : aX) (x : Int32) : Int32 × aX := if isW X x then if X 11 x.toNatClampNeg ≠ 0 then (-3, X) else if layL X x.toNatClampNeg (X 6 x.toNatClampNeg) = BIG then (-9, X) else (nI (layL X x.toNatClampNeg (X 6 x.toNatClampNeg) / 32).toNat, yX X x.toNatClampNeg) else (-1, X)
theorem orF_if {b : Nat → Bool} {n d : Nat} (h : d < n) : (orF (fun d => if b d then 2 ^ d else 0) n).testBit d = b d := by
  cases hb : b d with
  | true => exact orF_bit.mpr ⟨d, h, by simp [hb]⟩
  | false =>
    refine Bool.eq_false_iff.mpr (fun hc => ?_)
    obtain ⟨j, _, h2⟩ := orF_bit.mp hc
    by_cases hj : b j = true
    · rw [if_pos hj, Nat.testBit_two_pow] at h2
      have : j = d := of_decide_eq_true h2
      rw [this, hb] at hj; cases hj
    · rw [if_neg hj] at h2; simp at h2
section LAY
variable {G : aG} {μ : aMem} {X : aX}
theorem lay_path (hd : xD X) (hx : xW X) {w : Nat} (hw : w < X 5 0) (hne : layL X w (X 6 w) ≠ BIG) :
    layN X w ≤ 9 ∧ vtx X (prO X (mayB X w)) (prO X (mayB X w)) (layL X w) (X 6 w) (layN X w) = X 7 w ∧ (∀ i, i < layN X w → vtx X (prO X (mayB X w)) (prO X (mayB X w)) (layL X w) (X 6 w) i ≠ X 7 w ∧ layL X w (vtx X (prO X (mayB X w)) (prO X (mayB X w)) (layL X w) (X 6 w) i) ≠ BIG) ∧ (fb_sm (fun i => X 3 (layS X w i)) (layN X w) : Int) = layL X w (X 6 w) / 32 :=
  path_all hd (hx.2.1 w hw).2.1 (layN X w) (X 6 w) hne rfl
theorem lay_dist (hd : xD X) (hx : xW X) {w : Nat} (hw : w < X 5 0) (hne : layL X w (X 6 w) ≠ BIG) :
    (∀ i, i < layN X w → layS X w i < X 0 0) ∧ ∀ i j, i < j → j < layN X w → layS X w i ≠ layS X w j :=
  path_dist hd (hx.2.1 w hw).2.1 (lay_path hd hx hw hne).2.2.1
theorem yX_12 {w v i : Nat} (hn : layN X w ≤ 9) (hi : i < 10) : yX X w 12 (10 * v + i) = if v = w ∧ i < layN X w then layS X w i else X 12 (10 * v + i) := by
  show (if 10 * w ≤ 10 * v + i ∧ 10 * v + i < 10 * w + layN X w then layS X w (10 * v + i - 10 * w) else X 12 (10 * v + i)) = _
  by_cases e : v = w ∧ i < layN X w
  · obtain ⟨rfl, e⟩ := e
    rw [if_pos (by omega), if_pos ⟨rfl, e⟩]
    congr 1; omega
  · rw [if_neg (by omega), if_neg e]
theorem yX_11 {w v : Nat} : yX X w 11 v = upN (X 11) w (layN X w) v := rfl
theorem yX_B (hy : xY X) {w v : Nat} (hn : layN X w ≤ 9) (hv : v < 20) : wyB (yX X w) v = if v = w then orF (fun i => 2 ^ layS X w i) (layN X w) else wyB X v := by
  unfold wyB
  rw [yX_11]
  by_cases e : v = w
  · rw [if_pos e, e, upN_s]
    exact orF_cong (fun i hi => by rw [yX_12 hn (by omega), if_pos ⟨rfl, hi⟩])
  · rw [if_neg e, upN_n _ _ e]
    have := (hy v hv).1
    exact orF_cong (fun i hi => by rw [yX_12 hn (by omega), if_neg (fun h => e h.1)])
theorem yX_L (hy : xY X) {w v : Nat} (hn : layN X w ≤ 9) (hv : v < 20) : wyL (yX X w) v = if v = w then fb_sm (fun i => X 3 (layS X w i)) (layN X w) else wyL X v := by
  unfold wyL
  rw [yX_11]
  by_cases e : v = w
  · rw [if_pos e, e, upN_s]
    exact fb_sm_cong (fun i hi => by show X 3 (yX X w 12 (10 * w + i)) = _; rw [yX_12 hn (by omega), if_pos ⟨rfl, hi⟩])
  · rw [if_neg e, upN_n _ _ e]
    have := (hy v hv).1
    exact fb_sm_cong (fun i hi => by show X 3 (yX X w 12 (10 * v + i)) = _; rw [yX_12 hn (by omega), if_neg (fun h => e h.1)])
theorem yX_ok (hd : xD X) (hx : xW X) (hy : xY X) {w : Nat} (hw : w < X 5 0) (hne : layL X w (X 6 w) ≠ BIG) : xY (yX X w) := by
  have hn := (lay_path hd hx hw hne).1
  obtain ⟨l1, l2⟩ := lay_dist hd hx hw hne
  intro v hv
  obtain ⟨y1, y2, y3, y4⟩ := hy v hv
  rw [yX_11]
  show _ ∧ (X 5 0 ≤ v → _) ∧ (∀ i, _ → yX X w 12 (10 * v + i) < X 0 0) ∧ _
  by_cases e : v = w
  · subst e
    rw [upN_s]
    refine ⟨hn, fun h => by omega, fun i hi => ?_, fun i j hij hj => ?_⟩
    · rw [yX_12 hn (by omega), if_pos ⟨rfl, hi⟩]; exact l1 i hi
    · rw [yX_12 hn (by omega), if_pos ⟨rfl, by omega⟩, yX_12 hn (by omega), if_pos ⟨rfl, hj⟩]; exact l2 i j hij hj
  · rw [upN_n _ _ e]
    refine ⟨y1, y2, fun i hi => ?_, fun i j hij hj => ?_⟩
    · rw [yX_12 hn (by omega), if_neg (fun h => e h.1)]; exact y3 i hi
    · rw [yX_12 hn (by omega), if_neg (fun h => e h.1), yX_12 hn (by omega), if_neg (fun h => e h.1)]; exact y4 i j hij hj
theorem fLay_ok (hd : xD X) (hx : xW X) (hy : xY X) (x : Int32) : xY (fLay X x).2 ∧ ∀ r, r ≠ 11 → r ≠ 12 → (fLay X x).2 r = X r := by
  have hn := hx.1
  unfold fLay
  by_cases h : isW X x = true
  · rw [if_pos h]
    by_cases h2 : X 11 x.toNatClampNeg ≠ 0
    · rw [if_pos h2]; exact ⟨hy, fun _ _ _ => rfl⟩
    · rw [if_neg h2]
      by_cases h3 : layL X x.toNatClampNeg (X 6 x.toNatClampNeg) = BIG
      · rw [if_pos h3]; exact ⟨hy, fun _ _ _ => rfl⟩
      · rw [if_neg h3]
        refine ⟨yX_ok hd hx hy (inB_wi (by omega) h).2 h3, fun r h1 h2 => ?_⟩
        show va_up (va_up X 11 _) 12 _ r = _
        rw [va_up_ne _ _ h2, va_up_ne _ _ h1]
  · rw [if_neg h]; exact ⟨hy, fun _ _ _ => rfl⟩
theorem c_lay (hd : xD X) (hx : xW X) (hy : xY X) (ha : xA X) (hcd : cD μ X) (hcw : cW μ X) (hc : cY μ X) (hca : cA μ X) (x : Int32) : a_Spec G sX6_lay [.ref 0, .int x] μ (fun v ν => v = some (.int (fLay X x).1) ∧ cY ν (fLay X x).2 ∧ a_eqx [3, 18, 19, 20, 22, 23, 24, 25] μ ν) := by
  have hn := hx.1
  refine w_X6_lay_0 _ (r_X6_isWire _ _ ⟨_, rfl, ?_⟩)
  rw [hcw.1]
  refine br_n (fun h1 => ?_) (fun h1 => ?_)
  · obtain ⟨e1, b1⟩ := inB_wi (by omega) h1
    generalize hw : x.toNatClampNeg = w at *
    subst e1
    refine r_X5_isLaid hd hy hc (by omega) _ ⟨_, rfl, br_b (fun h2 => ?_) (fun h2 => ?_)⟩
    · have h2 : X 11 w = 0 := by simpa using h2
      obtain ⟨w6, w7, -⟩ := hx.2.1 w b1
      have hs : orF (fun d => if mayB X w d then 2 ^ d else 0) (X 0 0) < 2 ^ 16 := orF_lt (fun i hi => by
        show (if mayB X w i then 2 ^ i else 0) < 2 ^ 16
        split
        · exact Nat.pow_lt_pow_right (by decide) (by have := hd.1; omega)
        · decide)
      refine r_X6_openDucts hd hx hy ha hcd hcw hc hca b1 _ ⟨_, rfl, (r_X3_open hd hcd (s := orF (fun d => if mayB X w d then 2 ^ d else 0) (X 0 0)) (by omega)).mono ?_⟩
      rintro v ν ⟨rfl, c, c', rfl, g1, g2⟩
      have pc : ∀ d, d < X 0 0 → prO X (fun d => (orF (fun d => if mayB X w d then 2 ^ d else 0) (X 0 0)).testBit d) d = prO X (mayB X w) d := fun d hd => by unfold prO; simp only [orF_if hd]
      have g1 : rZ c (prO X (mayB X w)) (X 0 0) := fun i hi => by rw [← pc i hi]; exact g1 i hi
      have g2 : rZ c' (prO X (mayB X w)) (X 0 0) := fun i hi => by rw [← pc i hi]; exact g2 i hi
      have hcd' : cD (va_up (va_up μ.1 22 c) 23 c', μ.2) X := hcd.kept (fun k hk => by show va_up (va_up μ.1 22 c) 23 c' k = _; rw [va_up_ne _ _ (by omega), va_up_ne _ _ (by omega)])
      have e13 : ((va_up (va_up μ.1 22 c) 23 c', μ.2) : aMem).1 13 w = nI (X 6 w) := hcw.2.1 w b1
      have e14 : ((va_up (va_up μ.1 22 c) 23 c', μ.2) : aMem).1 14 w = nI (X 7 w) := hcw.2.2.1 w b1
      rw [q_in (by omega)]
      try rw [hw]
      rw [e13, e14]
      refine ⟨rfl, by omega, by omega, (r_X3_leastLength (μ := (va_up (va_up μ.1 22 c) 23 c', μ.2)) hd hcd' (op := mayB X w) ?_ ?_ (a := X 6 w) (g := X 7 w) w6 w7).mono ?_⟩
      · exact g1
      · exact g2
      rintro v ν ⟨rfl, c2, rfl, g3⟩
      have hk : ∀ k, k ≠ 22 → k ≠ 23 → k ≠ 24 → (va_up (va_up (va_up μ.1 22 c) 23 c') 24 c2) k = μ.1 k := fun k h h' h'' => by rw [va_up_ne _ _ h'', va_up_ne _ _ h', va_up_ne _ _ h]
      have hform : ∀ u, labO X (mayB X w) (X 7 w) u = BIG ∨ (0 ≤ labO X (mayB X w) (X 7 w) u ∧ labO X (mayB X w) (X 7 w) u ≤ 36000 ∧ labO X (mayB X w) (X 7 w) u % 32 ≤ 9) := bf_form hd (bfI_rnds (π := fun _ => 0) (asO_ok hd _) (asO_pot hd _) w7 9)
      refine ⟨_, rfl, ?_⟩
      by_cases h3 : labO X (mayB X w) (X 7 w) (X 6 w) = BIG
      · have e : fLay X (nI w) = (-9, X) := by unfold fLay isW; rw [h1, if_pos rfl, hw, if_neg (by omega)]; exact if_pos h3
        rw [if_pos h3, e]
        refine ⟨fun h => absurd rfl h, fun _ => ⟨rfl, hc.kept (fun k h => hk k (by omega) (by omega) (by omega)), fun k h => ⟨?_, rfl⟩⟩⟩
        simp only [List.mem_cons, List.not_mem_nil, or_false, not_or] at h
        exact hk k (by omega) (by omega) (by omega)
      · have e : fLay X (nI w) = (nI (layL X w (X 6 w) / 32).toNat, yX X w) := by unfold fLay isW; rw [h1, if_pos rfl, hw, if_neg (by omega)]; exact if_neg h3
        rw [if_neg h3, e]
        have bw := (hform (X 6 w)).resolve_left h3
        refine ⟨fun _ => ?_, fun h => absurd h (nI_nm9 (n := (labO X (mayB X w) (X 7 w) (X 6 w) / 32).toNat) (by
          obtain ⟨-, -, -, p4⟩ := lay_path hd hx b1 h3
          have hl := (lay_dist hd hx b1 h3).1
          have hs := fb_sm_bound (f := fun i => X 3 (layS X w i)) (c := 99) (n := layN X w) (fun i hi => (hd.2 _ (hl i hi)).2.2.2.2.1)
          have := (lay_path hd hx b1 h3).1
          have p4 : ((fb_sm (fun i => X 3 (layS X w i)) (layN X w) : Nat) : Int) = labO X (mayB X w) (X 7 w) (X 6 w) / 32 := p4
          omega))⟩
        have f13 : ((va_up (va_up (va_up μ.1 22 c) 23 c') 24 c2, μ.2) : aMem).1 13 w = nI (X 6 w) := by show (va_up (va_up (va_up μ.1 22 c) 23 c') 24 c2) 13 w = _; rw [hk 13 (by decide) (by decide) (by decide)]; exact hcw.2.1 w b1
        have f14 : ((va_up (va_up (va_up μ.1 22 c) 23 c') 24 c2, μ.2) : aMem).1 14 w = nI (X 7 w) := by show (va_up (va_up (va_up μ.1 22 c) 23 c') 24 c2) 14 w = _; rw [hk 14 (by decide) (by decide) (by decide)]; exact hcw.2.2.1 w b1
        obtain ⟨p1, p2, p3, p4⟩ := lay_path hd hx b1 h3
        obtain ⟨l1, l2⟩ := lay_dist hd hx b1 h3
        refine ⟨by omega, by omega, ?_⟩
        rw [f13, f14]
        refine (r_X3_walk (μ := (va_up (va_up (va_up μ.1 22 c) 23 c') 24 c2, μ.2)) (X := X) (pf := prO X (mayB X w)) (pb := prO X (mayB X w)) (T := layL X w) (p := X 6 w) (g := X 7 w) (n := layN X w) hd (hcd.kept (fun k h => hk k (by omega) (by omega) (by omega))) g1 g2 ?_ ?_ g3 ?_ w6 w7 p1 p2 (fun i hi => ⟨(p3 i hi).1, l1 i hi⟩)).mono ?_
        · exact fun k hk => by rcases prO_bd hd (mayB X w) hk with h | h; exact Or.inl h; right; omega
        · exact fun k hk => by rcases prO_bd hd (mayB X w) hk with h | h; exact Or.inl h; right; omega
        · exact fun v => by rcases hform v with h | h; exact Or.inl h; right; show -36000 ≤ labO X (mayB X w) (X 7 w) v ∧ labO X (mayB X w) (X 7 w) v ≤ 36000; omega
        rintro v ν ⟨rfl, c25, e3, rfl, g5, g6⟩
        refine ⟨rfl, ?_⟩
        have m3 : (va_up (va_up (va_up (va_up (va_up μ.1 22 c) 23 c') 24 c2) 25 c25) 3 e3) 3 5 = nI (layN X w) := by rw [va_up_self]; exact g5
        have hk2 : ∀ k, k ≠ 3 → k ≠ 22 → k ≠ 23 → k ≠ 24 → k ≠ 25 → (va_up (va_up (va_up (va_up (va_up μ.1 22 c) 23 c') 24 c2) 25 c25) 3 e3) k = μ.1 k := fun k h0 h h' h'' h3 => by rw [va_up_ne _ _ h0, va_up_ne _ _ h3, va_up_ne _ _ h'', va_up_ne _ _ h', va_up_ne _ _ h]
        show a_Spec G sX5_putThrough [.ref 2, .int (nI w), .ref 25, .int ((va_up (va_up (va_up (va_up (va_up μ.1 22 c) 23 c') 24 c2) 25 c25) 3 e3) 3 5), .int _] _ _
        rw [m3]
        generalize hM : va_up (va_up (va_up (va_up (va_up μ.1 22 c) 23 c') 24 c2) 25 c25) 3 e3 = M at *
        have m25 : ∀ k, k < layN X w → M 25 k = nI (layS X w k) ∧ layS X w k < 16 := fun k hk => by
          refine ⟨?_, by have := l1 k hk; have := hd.1; omega⟩
          rw [← hM, va_up_ne _ _ (by decide), va_up_self]; exact g6 k hk
        refine (r_X5_putThrough (μ := (M, μ.2)) (w := w) (n := layN X w) (by omega) p1 (s := layS X w) m25 _).mono ?_
        rintro v ν ⟨rfl, c20, rfl, k1, k2⟩
        refine ⟨rfl, rfl, ⟨?_, ?_, ?_⟩, ?_⟩
        · have e18 : (va_up (va_up (va_up M 20 c20) 18 (upd (M 18) w (nI (orF (fun k => 2 ^ layS X w k) (layN X w))))) 19 (upd (M 19) w (nI (labO X (mayB X w) (X 7 w) (X 6 w) / 32).toNat))) 18 = upd (μ.1 18) w (nI (orF (fun k => 2 ^ layS X w k) (layN X w))) := by
            rw [va_up_ne _ _ (by decide), va_up_self, hk2 18 (by decide) (by decide) (by decide) (by decide) (by decide)]
          show rp ((va_up (va_up (va_up M 20 c20) 18 (upd (M 18) w (nI (orF (fun k => 2 ^ layS X w k) (layN X w))))) 19 (upd (M 19) w (nI (labO X (mayB X w) (X 7 w) (X 6 w) / 32).toNat))) 18) _ 20
          rw [e18]
          exact rp_cong (rp_at (k := w) (v := orF (fun k => 2 ^ layS X w k) (layN X w)) hc.1 rfl) (fun i hi => by rw [yX_B hy p1 hi]; rfl)
        · have e19 : (va_up (va_up (va_up M 20 c20) 18 (upd (M 18) w (nI (orF (fun k => 2 ^ layS X w k) (layN X w))))) 19 (upd (M 19) w (nI (labO X (mayB X w) (X 7 w) (X 6 w) / 32).toNat))) 19 = upd (μ.1 19) w (nI (labO X (mayB X w) (X 7 w) (X 6 w) / 32).toNat) := by
            rw [va_up_self, hk2 19 (by decide) (by decide) (by decide) (by decide) (by decide)]
          show rp ((va_up (va_up (va_up M 20 c20) 18 (upd (M 18) w (nI (orF (fun k => 2 ^ layS X w k) (layN X w))))) 19 (upd (M 19) w (nI (labO X (mayB X w) (X 7 w) (X 6 w) / 32).toNat))) 19) _ 20
          rw [e19]
          refine rp_cong (rp_at (k := w) (v := (labO X (mayB X w) (X 7 w) (X 6 w) / 32).toNat) hc.2.1 rfl) (fun i hi => ?_)
          rw [yX_L hy p1 hi]
          have p4 : ((fb_sm (fun i => X 3 (layS X w i)) (layN X w) : Nat) : Int) = labO X (mayB X w) (X 7 w) (X 6 w) / 32 := p4
          by_cases ei : i = w
          · rw [if_pos ei, ei, upN_s]; omega
          · rw [if_neg ei, upN_n _ _ ei]
        · intro v hv i hi
          have e20 : (va_up (va_up (va_up M 20 c20) 18 (upd (M 18) w (nI (orF (fun k => 2 ^ layS X w k) (layN X w))))) 19 (upd (M 19) w (nI (labO X (mayB X w) (X 7 w) (X 6 w) / 32).toNat))) 20 = c20 := by
            rw [va_up_ne _ _ (by decide), va_up_ne _ _ (by decide), va_up_self]
          show (va_up (va_up (va_up M 20 c20) 18 (upd (M 18) w (nI (orF (fun k => 2 ^ layS X w k) (layN X w))))) 19 (upd (M 19) w (nI (labO X (mayB X w) (X 7 w) (X 6 w) / 32).toNat))) 20 _ = _
          rw [e20]
          have hi : i < yX X w 11 v := hi
          show c20 (9 * v + i) = nI (yX X w 12 (10 * v + i))
          rw [yX_11] at hi
          by_cases ev : v = w
          · subst ev
            rw [upN_s] at hi
            rw [yX_12 p1 (by omega), if_pos ⟨rfl, hi⟩]; exact k1 i hi
          · rw [upN_n _ _ ev] at hi
            have h9 := (hy v hv).1
            rw [yX_12 p1 (by omega), if_neg (fun h => ev h.1), k2 _ (by omega)]
            show M 20 _ = _
            rw [hk2 20 (by decide) (by decide) (by decide) (by decide) (by decide)]
            exact hc.2.2 v hv i hi
        · intro k h
          simp only [List.mem_cons, List.not_mem_nil, or_false, not_or] at h
          refine ⟨?_, rfl⟩
          show (va_up (va_up (va_up M 20 c20) 18 _) 19 _) k = _
          rw [va_up_ne _ _ (by omega), va_up_ne _ _ (by omega), va_up_ne _ _ (by omega)]
          exact hk2 k (by omega) (by omega) (by omega) (by omega) (by omega)
    · have h2 : X 11 w ≠ 0 := of_decide_eq_true h2
      have e : fLay X (nI w) = (-3, X) := by unfold fLay isW; rw [h1, if_pos rfl, hw, if_pos h2]
      rw [e]; exact ⟨rfl, hc, a_eqx.rf _ _⟩
  · have e : fLay X x = (-1, X) := by unfold fLay isW; rw [h1, if_neg (by decide)]
    rw [e]; exact ⟨rfl, hc, a_eqx.rf _ _⟩
theorem m_lay (hd : xD X) (hx : xW X) (hy : xY X) (ha : xA X) (hmd : mD μ X) (hmw : mW μ X) (hm : mY μ X) (hma : mA μ X) (x : Int32) : a_Spec G sX7_lay [.ref 36, .int x] μ (fun v ν => v = some (.int (fLay X x).1) ∧ mY ν (fLay X x).2 ∧ a_eqx [46, 47, 49, 50, 51] μ ν) := by
  have hn := hx.1
  have hdn := hd.1
  refine w_X7_lay_0 _ (r_X7_isWire _ _ ⟨_, rfl, ?_⟩)
  rw [hmw.1]
  refine br_n (fun h1 => ?_) (fun h1 => ?_)
  · obtain ⟨e1, b1⟩ := inB_wi (by omega) h1
    generalize hw : x.toNatClampNeg = w at *
    subst e1
    have h9 := (hy w (by omega)).1
    obtain ⟨w6, w7, -⟩ := hx.2.1 w b1
    rw [q_in (by omega)]
    try rw [hw]
    rw [hm.1 w (by omega), q_le0 (by omega)]
    refine ⟨by omega, fun h2 => ?_, fun h2 => ?_⟩
    · generalize hpo : (fun (v : Option Value) (ν : aMem) => v = some (.int (fLay X (nI w)).1) ∧ mY ν (fLay X (nI w)).2 ∧ a_eqx [46, 47, 49, 50, 51] μ ν) = post
      have hpost : ∀ ν : aMem, mY ν (fLay X (nI w)).2 → a_eqx [46, 47, 49, 50, 51] μ ν → post (some (.int (fLay X (nI w)).1)) ν := fun ν h h' => by rw [← hpo]; exact ⟨rfl, h, h'⟩
      clear hpo
      have main := a_for (fun i (c : Nat → Int32) => a_Runs G sX7_lay 24 [(0, .ref 36), (1, .int (nI w)), (2, .int (nI i))] [] (va_up μ.1 49 c, μ.2) post) (fun i c => ∀ d, d < i → c d = bI (mayB X w d)) (X 0 0) ?_ ?_ 0 (μ.1 49) (by omega) (fun d h => by omega)
      · rw [a_self μ 49]; exact main
      · intro c hc
        have k1 : ∀ k, k ≠ 49 → ((va_up μ.1 49 c, μ.2) : aMem).1 k = μ.1 k := fun k h => va_up_ne _ _ h
        have hmd' : mD (va_up μ.1 49 c, μ.2) X := hmd
        have e42 : ((va_up μ.1 49 c, μ.2) : aMem).1 42 w = nI (X 7 w) := hmw.2.2.1 w b1
        refine w_X7_lay_24 _ _ ⟨fun _ => ?_, fun h => absurd (by show μ.1 36 0 ≤ _; rw [hmd.1, q_le] <;> omega) h⟩
        rw [q_in (by omega)]
        try rw [hw]
        rw [e42]
        refine ⟨by omega, (r_X7_measure (μ := (va_up μ.1 49 c, μ.2)) hd hmd' (op := mayB X w) (fun d hdd => hc d hdd) w7).mono ?_⟩
        rintro v ν ⟨rfl, c50, c51, rfl, g1, g2⟩
        have hk : ∀ k, k ≠ 49 → k ≠ 50 → k ≠ 51 → (va_up (va_up (va_up μ.1 49 c) 50 c50) 51 c51) k = μ.1 k := fun k h h' h'' => by rw [va_up_ne _ _ h'', va_up_ne _ _ h', va_up_ne _ _ h]
        have f41 : (va_up (va_up (va_up μ.1 49 c) 50 c50) 51 c51) 41 w = nI (X 6 w) := by rw [hk 41 (by decide) (by decide) (by decide)]; exact hmw.2.1 w b1
        have f50 : (va_up (va_up (va_up μ.1 49 c) 50 c50) 51 c51) 50 = c50 := by rw [va_up_ne _ _ (by decide), va_up_self]
        have f51 : (va_up (va_up (va_up μ.1 49 c) 50 c50) 51 c51) 51 = c51 := by rw [va_up_self]
        have f49 : (va_up (va_up (va_up μ.1 49 c) 50 c50) 51 c51) 49 = c := by rw [va_up_ne _ _ (by decide), va_up_ne _ _ (by decide), va_up_self]
        have hform : ∀ u, layL X w u = BIG ∨ (0 ≤ layL X w u ∧ layL X w u ≤ 36000 ∧ layL X w u % 32 ≤ 9) := bf_form hd (bfI_rnds (π := fun _ => 0) (asO_ok hd _) (asO_pot hd _) w7 9)
        have g1 : rZ c50 (farZ (layL X w)) 10 := g1
        have g2 : rZ c51 (byZ (layL X w)) 10 := g2
        show _ ∧ _ ∧ vp_in ((va_up (va_up (va_up μ.1 49 c) 50 c50) 51 c51) 41 w) 10 ∧ ((va_up (va_up (va_up μ.1 49 c) 50 c50) 51 c51) 50 ((va_up (va_up (va_up μ.1 49 c) 50 c50) 51 c51) 41 w).toNatClampNeg < nI 1000000 → _ ∧ a_Runs G sX7_lay 88 [(0, .ref 36), (1, .int (nI w)), (2, .int ((va_up (va_up (va_up μ.1 49 c) 50 c50) 51 c51) 41 w)), (3, .int (nI 0))] [] (va_up (va_up (va_up μ.1 49 c) 50 c50) 51 c51, μ.2) post) ∧ (¬ (va_up (va_up (va_up μ.1 49 c) 50 c50) 51 c51) 50 ((va_up (va_up (va_up μ.1 49 c) 50 c50) 51 c51) 41 w).toNatClampNeg < nI 1000000 → _)
        rw [f41, f50, q_in (by omega), q_cl (by omega), z_ltI, z_nI (by decide), g1 _ w6]
        refine ⟨rfl, by omega, w6, fun h3 => ⟨by omega, ?_⟩, fun h3 => ?_⟩
        · have h3 : layL X w (X 6 w) ≠ BIG := by
            intro h; unfold farZ at h3; rw [if_pos h] at h3; unfold BIG at h3; omega
          have e : fLay X (nI w) = (nI (layL X w (X 6 w) / 32).toNat, yX X w) := by unfold fLay isW; rw [h1, if_pos rfl, hw, if_neg (by omega), if_neg h3]
          rw [e] at hpost
          obtain ⟨p1, p2, p3, p4⟩ := lay_path hd hx b1 h3
          obtain ⟨l1, l2⟩ := lay_dist hd hx b1 h3
          generalize hM : va_up (va_up (va_up μ.1 49 c) 50 c50) 51 c51 = M at *
          have hvl : ∀ i, i ≤ layN X w → vtx X (prO X (mayB X w)) (prO X (mayB X w)) (layL X w) (X 6 w) i < 10 := by
            intro i hi
            cases i with
            | zero => exact w6
            | succ i => exact acr_lt hd (l1 i (by omega))
          have main := a_for (fun i (z : Nat → Int32) => a_Runs G sX7_lay 88 [(0, .ref 36), (1, .int (nI w)), (2, .int (nI (vtx X (prO X (mayB X w)) (prO X (mayB X w)) (layL X w) (X 6 w) i))), (3, .int (nI i))] [] (va_up M 47 z, μ.2) post) (fun i z => (∀ k, k < i → z (10 * w + k) = nI (layS X w k)) ∧ ∀ j, (j < 10 * w ∨ 10 * w + i ≤ j) → z j = μ.1 47 j) (layN X w) ?_ ?_ 0 (M 47) (by omega) ⟨fun k h => by omega, fun j _ => by rw [hk 47 (by decide) (by decide) (by decide)]⟩
          · rw [a_self1] at main; exact main
          · rintro z ⟨z1, z2⟩
            rw [p2]
            have mk : ∀ k, k ≠ 47 → (va_up M 47 z) k = M k := fun k h => va_up_ne _ _ h
            have e42 : ((va_up M 47 z, μ.2) : aMem).1 42 w = nI (X 7 w) := by show (va_up M 47 z) 42 w = _; rw [mk 42 (by decide), hk 42 (by decide) (by decide) (by decide)]; exact hmw.2.2.1 w b1
            refine w_X7_lay_88 _ _ _ ?_
            rw [q_in (by omega)]
            try rw [hw]
            rw [e42]
            refine ⟨by omega, fun _ => ⟨by omega, ?_⟩, fun h => absurd rfl h⟩
            have f46 : (va_up M 47 z) 46 = μ.1 46 := by rw [mk 46 (by decide), hk 46 (by decide) (by decide) (by decide)]
            show a_Spec G sX7_lengthOf _ (va_up (va_up M 47 z) 46 (upd ((va_up M 47 z) 46) w (nI (layN X w))), μ.2) _
            rw [f46]
            have n47 : (va_up (va_up M 47 z) 46 (upd (μ.1 46) w (nI (layN X w)))) 47 = z := by rw [va_up_ne _ _ (by decide), va_up_self]
            have n46 : (va_up (va_up M 47 z) 46 (upd (μ.1 46) w (nI (layN X w)))) 46 = upd (μ.1 46) w (nI (layN X w)) := va_up_self _ _ _
            have hmY : mY (va_up (va_up M 47 z) 46 (upd (μ.1 46) w (nI (layN X w))), μ.2) (yX X w) := by
              refine ⟨?_, fun v hv i hi => ?_⟩
              · show rp ((va_up (va_up M 47 z) 46 (upd (μ.1 46) w (nI (layN X w)))) 46) _ _
                rw [n46]; exact rp_at (k := w) (v := layN X w) hm.1 rfl
              · show (va_up (va_up M 47 z) 46 (upd (μ.1 46) w (nI (layN X w)))) 47 _ = _
                rw [n47]
                rw [yX_11] at hi
                by_cases ev : v = w
                · subst ev
                  rw [upN_s] at hi
                  rw [yX_12 p1 (by omega), if_pos ⟨rfl, hi⟩]; exact z1 i hi
                · rw [upN_n _ _ ev] at hi
                  have h9 := (hy v hv).1
                  rw [yX_12 p1 (by omega), if_neg (fun h => ev h.1), z2 _ (by omega)]
                  exact hm.2 v hv i hi
            have hyk := yX_ok hd hx hy b1 h3
            have hmd2 : mD (va_up (va_up M 47 z) 46 (upd (μ.1 46) w (nI (layN X w))), μ.2) (yX X w) := by
              have q : ∀ k, k = 36 ∨ k = 37 ∨ k = 38 ∨ k = 39 ∨ k = 40 → (va_up (va_up M 47 z) 46 (upd (μ.1 46) w (nI (layN X w)))) k = μ.1 k := fun k h => by rw [va_up_ne _ _ (by omega), va_up_ne _ _ (by omega)]; exact hk k (by omega) (by omega) (by omega)
              unfold mD
              show (va_up (va_up M 47 z) 46 (upd (μ.1 46) w (nI (layN X w)))) 36 0 = nI (X 0 0) ∧ rp ((va_up (va_up M 47 z) 46 (upd (μ.1 46) w (nI (layN X w)))) 37) (X 1) (X 0 0) ∧ rp ((va_up (va_up M 47 z) 46 (upd (μ.1 46) w (nI (layN X w)))) 38) (X 2) (X 0 0) ∧ rp ((va_up (va_up M 47 z) 46 (upd (μ.1 46) w (nI (layN X w)))) 39) (X 3) (X 0 0) ∧ rp ((va_up (va_up M 47 z) 46 (upd (μ.1 46) w (nI (layN X w)))) 40) (X 4) (X 0 0)
              rw [q 36 (by omega), q 37 (by omega), q 38 (by omega), q 39 (by omega), q 40 (by omega)]
              exact hmd
            refine r_X7_lengthOf (X := yX X w) hd hyk hmd2 hmY (by omega) _ ⟨_, rfl, ?_⟩
            have eL : wyL (yX X w) w = (layL X w (X 6 w) / 32).toNat := by rw [yX_L hy p1 (by omega), if_pos rfl]; omega
            rw [eL]
            refine hpost _ hmY (fun k h => ⟨?_, rfl⟩)
            simp only [List.mem_cons, List.not_mem_nil, or_false, not_or] at h
            show (va_up (va_up M 47 z) 46 _) k = _
            rw [va_up_ne _ _ (by omega), va_up_ne _ _ (by omega)]
            exact hk k (by omega) (by omega) (by omega)
          · rintro i z hi ⟨z1, z2⟩ ih
            have mk : ∀ z k, k ≠ 47 → (va_up M 47 z) k = M k := fun z k h => va_up_ne _ _ h
            have e42 : ((va_up M 47 z, μ.2) : aMem).1 42 w = nI (X 7 w) := by show (va_up M 47 z) 42 w = _; rw [mk _ 42 (by decide), hk 42 (by decide) (by decide) (by decide)]; exact hmw.2.2.1 w b1
            have hv := hvl i (by omega)
            obtain ⟨q1, q2⟩ := p3 i hi
            obtain ⟨s1, s2, -⟩ := path_step hd (op := mayB X w) w7 q1 q2
            have hmdz : ∀ z, mD (va_up M 47 z, μ.2) X := fun z => by
              have q : ∀ k, k = 36 ∨ k = 37 ∨ k = 38 ∨ k = 39 ∨ k = 40 → (va_up M 47 z) k = μ.1 k := fun k h => by rw [va_up_ne _ _ (by omega)]; exact hk k (by omega) (by omega) (by omega)
              unfold mD
              show (va_up M 47 z) 36 0 = nI (X 0 0) ∧ rp ((va_up M 47 z) 37) (X 1) (X 0 0) ∧ rp ((va_up M 47 z) 38) (X 2) (X 0 0) ∧ rp ((va_up M 47 z) 39) (X 3) (X 0 0) ∧ rp ((va_up M 47 z) 40) (X 4) (X 0 0)
              rw [q 36 (by omega), q 37 (by omega), q 38 (by omega), q 39 (by omega), q 40 (by omega)]
              exact hmd
            refine w_X7_lay_88 _ _ _ ?_
            rw [q_in (by omega)]
            try rw [hw]
            rw [e42, q_eq (by omega) (by omega)]
            refine ⟨by omega, fun h => absurd h q1, fun _ => ?_⟩
            refine r_X7_next (μ := (va_up M 47 z, μ.2)) hd (hmdz z) (op := mayB X w) (T := layL X w) (fun d hdd => ?_) ?_ ?_ hform hv q2 s1 _ ⟨_, rfl, ?_⟩
            · show (va_up M 47 z) 49 d = _; rw [mk _ 49 (by decide), f49]; exact hc d hdd
            · show rZ ((va_up M 47 z) 50) _ _; rw [mk _ 50 (by decide), f50]; exact g1
            · show rZ ((va_up M 47 z) 51) _ _; rw [mk _ 51 (by decide), f51]; exact g2
            rw [pk_mul, nI_add, q_in (by omega), q_cl (by omega)]
            refine ⟨by omega, ?_⟩
            have f47 : ((va_up M 47 z, μ.2) : aMem).1 47 = z := va_up_self M 47 z
            rw [f47]
            show a_Spec G sX7_across _ (va_up (va_up M 47 z) 47 _, μ.2) _
            rw [bx_uu]
            refine r_X7_across (μ := (va_up M 47 _, μ.2)) hd (hmdz _) s1 (by omega) _ ⟨_, rfl, ?_⟩
            rw [if_pos s2, nI_add]
            refine ih _ ⟨fun k hk => ?_, fun j hj => ?_⟩
            · by_cases ek : k = i
              · rw [ek, pk_us]; rfl
              · rw [pk_un (by omega)]; exact z1 k (by omega)
            · rw [pk_un (by omega)]; exact z2 j (by omega)
        · have h3 : layL X w (X 6 w) = BIG := by
            rcases hform (X 6 w) with h | h
            · exact h
            · exfalso; unfold farZ at h3; split at h3
              · rename_i hb; rw [hb] at h; unfold BIG at h; omega
              · omega
          have e : fLay X (nI w) = (-9, X) := by unfold fLay isW; rw [h1, if_pos rfl, hw, if_neg (by omega), if_pos h3]
          rw [e] at hpost
          refine hpost _ ⟨?_, ?_⟩ (fun k h => ⟨?_, rfl⟩)
          · show rp ((va_up (va_up (va_up μ.1 49 c) 50 c50) 51 c51) 46) _ _
            rw [hk 46 (by decide) (by decide) (by decide)]; exact hm.1
          · show ∀ w, w < 20 → ∀ i, i < X 11 w → (va_up (va_up (va_up μ.1 49 c) 50 c50) 51 c51) 47 _ = _
            rw [hk 47 (by decide) (by decide) (by decide)]; exact hm.2
          · simp only [List.mem_cons, List.not_mem_nil, or_false, not_or] at h
            exact hk k (by omega) (by omega) (by omega)
      · rintro i c hi hc ih
        refine w_X7_lay_24 _ _ ⟨fun h => ?_, fun _ => ?_⟩
        · have h : μ.1 36 0 ≤ nI i := h
          rw [hmd.1, q_le (by omega) (by omega)] at h; omega
        refine r_X7_mayGo (μ := (va_up μ.1 49 c, μ.2)) hd hx hy ha hmd hmw hm hma b1 hi _ ⟨_, rfl, ?_⟩
        rw [q_in (by omega), q_cl (by omega), nI_add]
        refine ⟨by omega, ?_⟩
        have f49 : ((va_up μ.1 49 c, μ.2) : aMem).1 49 = c := va_up_self μ.1 49 c
        rw [f49]
        show a_Runs G sX7_lay 24 _ [] (va_up (va_up μ.1 49 c) 49 _, μ.2) post
        rw [bx_uu]
        refine ih _ (fun d hdd => ?_)
        by_cases ed : d = i
        · rw [ed, pk_us]; cases mayB X w i <;> decide
        · rw [pk_un ed]; exact hc d (by omega)
    · have e : fLay X (nI w) = (-3, X) := by unfold fLay isW; rw [h1, if_pos rfl, hw, if_pos h2]
      rw [e]; exact ⟨rfl, hm, a_eqx.rf _ _⟩
  · have e : fLay X x = (-1, X) := by unfold fLay isW; rw [h1, if_neg (by decide)]
    rw [e]; exact ⟨rfl, hm, a_eqx.rf _ _⟩
end LAY
