/-! ===== duct, wire, option, order, setup: one function for both sides ===== -/
theorem inB_cl {x : Int32} {a b : Nat} (hb : b < 2 ^ 31) (ha : a < 2 ^ 31) (h : inB x (nI a) (nI b) = true) : x = nI x.toNatClampNeg ∧ a ≤ x.toNatClampNeg ∧ x.toNatClampNeg ≤ b := by
  obtain ⟨j, h1, h2, rfl⟩ := inB_e hb h ha
  rw [q_cl (by omega)]; exact ⟨rfl, h1, h2⟩
theorem inB_wi {x : Int32} {n : Nat} (hn : n < 2 ^ 30) (h : inB x (nI 0) (nI n - nI 1) = true) : x = nI x.toNatClampNeg ∧ x.toNatClampNeg < n := by
  obtain ⟨j, h1, rfl⟩ := (inB_m1 hn).mp h
  rw [q_cl (by omega)]; exact ⟨rfl, h1⟩
theorem rp_at {c : Nat → Int32} {f : Nat → Nat} {N v k : Nat} {x : Int32} (h : rp c f N) (hx : x = nI v) : rp (upd c k x) (upN f k v) N := by
  intro i hi
  by_cases e : i = k
  · subst e; rw [pk_us, upN_s, hx]
  · rw [pk_un e, upN_n _ _ e]; exact h i hi
theorem rp_push {c : Nat → Int32} {f : Nat → Nat} {N v : Nat} {x : Int32} (h : rp c f N) (hx : x = nI v) : rp (upd c N x) (upN f N v) (N + 1) := by
  intro i hi
  by_cases e : i = N
  · subst e; rw [pk_us, upN_s, hx]
  · rw [pk_un e, upN_n _ _ e]; exact h i (by omega)
theorem rp_cong {c : Nat → Int32} {f g : Nat → Nat} {N : Nat} (h : rp c f N) (e : ∀ i, i < N → f i = g i) : rp c g N := fun i hi => by rw [← e i hi]; exact h i hi
theorem rp_le {c : Nat → Int32} {f : Nat → Nat} {N M : Nat} (h : rp c f N) (e : M ≤ N) : rp c f M := fun i hi => h i (by omega)
def dX (X : aX) (a b l r : Nat) : aX := va_up (va_up (va_up (va_up (va_up X 1 (upN (X 1) (X 0 0) a)) 2 (upN (X 2) (X 0 0) b)) 3 (upN (X 3) (X 0 0) l)) 4 (upN (X 4) (X 0 0) r)) 0 (upN (X 0) 0 (X 0 0 + 1))
def fDuct (X : aX) (x1 x2 x3 x4 : Int32) : Int32 × aX :=
  if inB x1 (nI 0) (nI 9) && inB x2 (nI 0) (nI 9) then
    if inB x3 (nI 1) (nI 99) && inB x4 (nI 1) (nI 300) then
      if x1 = x2 then (-3, X) else
        if X 0 0 < 16 then (nI (X 0 0), dX X x1.toNatClampNeg x2.toNatClampNeg x3.toNatClampNeg x4.toNatClampNeg) else (-4, X)
    else (-2, X)
  else (-1, X)
def wX (X : aX) (a b t k : Nat) : aX := va_up (va_up (va_up (va_up (va_up X 6 (upN (X 6) (X 5 0) a)) 7 (upN (X 7) (X 5 0) b)) 8 (upN (X 8) (X 5 0) t)) 9 (upN (X 9) (X 5 0) k)) 5 (upN (X 5) 0 (X 5 0 + 1))
def fWire (X : aX) (x1 x2 x3 x4 : Int32) : Int32 × aX :=
  if inB x1 (nI 0) (nI 9) && inB x2 (nI 0) (nI 9) then
    if inB x3 (nI 1) (nI 50) && inB x4 (nI 0) (nI 3) then
      if x1 = x2 then (-3, X) else
        if X 5 0 < 20 then (nI (X 5 0), wX X x1.toNatClampNeg x2.toNatClampNeg x3.toNatClampNeg x4.toNatClampNeg) else (-4, X)
    else (-2, X)
  else (-1, X)
def fOption (X : aX) (x1 x2 : Int32) : Int32 × aX :=
  if inB x1 (nI 0) (nI (X 5 0) - nI 1) then
    if inB x2 (nI 0) (nI 255) then (nI (X 10 x1.toNatClampNeg), va_up X 10 (upN (X 10) x1.toNatClampNeg x2.toNatClampNeg)) else (-2, X)
  else (-1, X)
def oX (X : aX) (s p : Nat) : aX := va_up (va_up (va_up X 15 (upN (X 15) (X 14 0) s)) 16 (upN (X 16) (X 14 0) p)) 14 (upN (X 14) 0 (X 14 0 + 1))
def fOrder (X : aX) (x1 x2 : Int32) : Int32 × aX :=
  if inB x1 (nI 0) (nI 255) && inB x2 (nI 1) (nI 1000) then
    if X 14 0 < 8 then (nI (X 14 0), oX X x1.toNatClampNeg x2.toNatClampNeg) else (-4, X)
  else (-2, X)
def fSetup (X : aX) (x : Int32) : Int32 × aX := if inB x (nI 0) (nI 100000) then (nI (X 17 0), va_up X 17 (upN (X 17) 0 x.toNatClampNeg)) else (-2, X)
section OPS
variable {G : aG} {μ : aMem} {X : aX}
theorem c_add (hx : xD X) (hc : cD μ X) (hn : X 0 0 < 16) {a b l r : Nat} (hl : l ≤ 99) (ha : a < 10) (hb : b < 10) : a_Spec G sX0_add [.ref 1, .int (nI a), .int (nI b), .int (nI l), .int (nI r)] μ (fun v ν => v = some (.int (nI (X 0 0))) ∧ cD ν (dX X a b l r) ∧ a_eqx [1, 7, 8, 9, 10, 11, 12] μ ν) := by
  obtain ⟨c0, c1, c2, c3, c4, c5, c6⟩ := hc
  have hsc : srt (upN (X 3) (X 0 0) l) (X 0 0) = srt (X 3) (X 0 0) := srt_cong (fun i hi => upN_n _ _ (by omega))
  refine w_X0_add_0 _ _ _ _ ?_
  rw [c0, q_in (by omega), q_cl (by omega), q_pow (by omega), q_pow (by omega), fa_or, nI_add]
  refine ⟨hn, hn, hn, hn, hn, (r_X0_sortIn (l := upN (X 3) (X 0 0) l) (f := srt (X 3) (X 0 0)) hn ?_ ?_ ?_ ?_).mono ?_⟩
  · exact rp_push c4 rfl
  · exact fun i hi => c6 i hi
  · exact fun i hi => srt_in _ _ i hi
  · intro i hi
    by_cases e : i = X 0 0
    · rw [e, upN_s]; omega
    · rw [upN_n _ _ e]; have := (hx.2 i (by omega)); omega
  · rintro v ν ⟨rfl, g, rfl, hg⟩
    refine ⟨rfl, rfl, ⟨?_, ?_, ?_, ?_, ?_, ?_, ?_⟩, ?_⟩
    · show upd (μ.1 1) 0 (nI (X 0 0 + 1)) 0 = nI (upN (X 0) 0 (X 0 0 + 1) 0)
      rw [pk_us, upN_s]
    · show rp (upd (μ.1 7) (X 0 0) (nI a)) (upN (X 1) (X 0 0) a) (upN (X 0) 0 (X 0 0 + 1) 0)
      rw [upN_s]; exact rp_push c1 rfl
    · show rp (upd (μ.1 8) (X 0 0) (nI b)) (upN (X 2) (X 0 0) b) (upN (X 0) 0 (X 0 0 + 1) 0)
      rw [upN_s]; exact rp_push c2 rfl
    · show rp (upd (μ.1 9) (X 0 0) (nI (2 ^ a ||| 2 ^ b))) (fun d => 2 ^ upN (X 1) (X 0 0) a d ||| 2 ^ upN (X 2) (X 0 0) b d) (upN (X 0) 0 (X 0 0 + 1) 0)
      rw [upN_s]
      refine rp_cong (rp_push c3 rfl) (fun i hi => ?_)
      by_cases e : i = X 0 0
      · rw [e, upN_s, upN_s, upN_s]
      · rw [upN_n _ _ e, upN_n _ _ e, upN_n _ _ e]
    · show rp (upd (μ.1 10) (X 0 0) (nI l)) (upN (X 3) (X 0 0) l) (upN (X 0) 0 (X 0 0 + 1) 0)
      rw [upN_s]; exact rp_push c4 rfl
    · show rp (upd (μ.1 11) (X 0 0) (nI r)) (upN (X 4) (X 0 0) r) (upN (X 0) 0 (X 0 0 + 1) 0)
      rw [upN_s]; exact rp_push c5 rfl
    · show rp g (srt (upN (X 3) (X 0 0) l) (upN (X 0) 0 (X 0 0 + 1) 0)) (upN (X 0) 0 (X 0 0 + 1) 0)
      rw [upN_s]
      show rp g (insS (upN (X 3) (X 0 0) l) (X 0 0) (X 0 0) (srt (upN (X 3) (X 0 0) l) (X 0 0))) (X 0 0 + 1)
      rw [hsc]; exact hg
    · intro k hk
      simp only [List.mem_cons, List.not_mem_nil, or_false, not_or] at hk
      obtain ⟨k1, k7, k8, k9, k10, k11, k12⟩ := hk
      refine ⟨?_, rfl⟩
      show va_up (va_up (va_up (va_up (va_up (va_up (va_up μ.1 7 _) 8 _) 9 _) 10 _) 11 _) 12 _) 1 _ k = _
      rw [va_up_ne _ _ k1, va_up_ne _ _ k12, va_up_ne _ _ k11, va_up_ne _ _ k10, va_up_ne _ _ k9, va_up_ne _ _ k8, va_up_ne _ _ k7]
theorem c_duct (hx : xD X) (hc : cD μ X) (x1 x2 x3 x4 : Int32) : a_Spec G sX6_duct [.ref 0, .int x1, .int x2, .int x3, .int x4] μ (fun v ν => v = some (.int (fDuct X x1 x2 x3 x4).1) ∧ cD ν (fDuct X x1 x2 x3 x4).2 ∧ a_eqx [1, 7, 8, 9, 10, 11, 12] μ ν) := by
  have hn := hx.1
  refine w_X6_duct_0 _ _ _ _ (r_X6_isPlace _ _ ⟨_, rfl, br_b (fun h1 => ?_) (fun h1 => r_X6_isPlace _ _ ⟨_, rfl, br_n (fun h2 => r_X6_isWithin _ _ _ _ ⟨_, rfl, br_b (fun h3 => ?_) (fun h3 => r_X6_isWithin _ _ _ _ ⟨_, rfl, br_n (fun h4 => br_d (fun h5 => ⟨fun h6 => ?_, fun h6 => ?_⟩) (fun h5 => ?_)) (fun h4 => ?_)⟩)⟩) (fun h2 => ?_)⟩)⟩)
  · have e : fDuct X x1 x2 x3 x4 = (-1, X) := by simp [fDuct, h1]
    rw [e]; exact ⟨rfl, hc, a_eqx.rf _ _⟩
  · have e : fDuct X x1 x2 x3 x4 = (-2, X) := by simp [fDuct, h1, h2, h3]
    rw [e]; exact ⟨rfl, hc, a_eqx.rf _ _⟩
  · rw [hc.1, q_lt (by omega) (by omega)] at h6
    have e : fDuct X x1 x2 x3 x4 = (nI (X 0 0), dX X x1.toNatClampNeg x2.toNatClampNeg x3.toNatClampNeg x4.toNatClampNeg) := by simp [fDuct, h1, h2, h3, h4, h5, h6]
    rw [e]
    obtain ⟨e1, -, b1⟩ := inB_cl (by decide) (by decide) h1
    obtain ⟨e2, -, b2⟩ := inB_cl (by decide) (by decide) h2
    obtain ⟨e3, -, b3⟩ := inB_cl (by decide) (by decide) h3
    obtain ⟨e4, -, b4⟩ := inB_cl (by decide) (by decide) h4
    have key := c_add (G := G) hx hc h6 (a := x1.toNatClampNeg) (b := x2.toNatClampNeg) (l := x3.toNatClampNeg) (r := x4.toNatClampNeg) b3 (by omega) (by omega)
    rw [← e1, ← e2, ← e3, ← e4] at key
    exact key.mono (fun v ν h => ⟨_, h.1, rfl, h.2⟩)
  · rw [hc.1, q_lt (by omega) (by omega)] at h6
    have e : fDuct X x1 x2 x3 x4 = (-4, X) := by simp [fDuct, h1, h2, h3, h4, h5, h6]
    rw [e]; exact ⟨rfl, hc, a_eqx.rf _ _⟩
  · have e : fDuct X x1 x2 x3 x4 = (-3, X) := by subst h5; simp [fDuct, h1, h3, h4]
    rw [e]; exact ⟨rfl, hc, a_eqx.rf _ _⟩
  · have e : fDuct X x1 x2 x3 x4 = (-2, X) := by simp [fDuct, h1, h2, h3, h4]
    rw [e]; exact ⟨rfl, hc, a_eqx.rf _ _⟩
  · have e : fDuct X x1 x2 x3 x4 = (-1, X) := by simp [fDuct, h1, h2]
    rw [e]; exact ⟨rfl, hc, a_eqx.rf _ _⟩
theorem m_duct (hx : xD X) (hm : mD μ X) (x1 x2 x3 x4 : Int32) : a_Spec G sX7_duct [.ref 36, .int x1, .int x2, .int x3, .int x4] μ (fun v ν => v = some (.int (fDuct X x1 x2 x3 x4).1) ∧ mD ν (fDuct X x1 x2 x3 x4).2 ∧ a_eqx [36, 37, 38, 39, 40] μ ν ∧ ∀ j, j ≠ 0 → ν.1 36 j = μ.1 36 j) := by
  have hn := hx.1
  refine w_X7_duct_0 _ _ _ _ (r_X7_isPlace _ _ ⟨_, rfl, br_b (fun h1 => ?_) (fun h1 => r_X7_isPlace _ _ ⟨_, rfl, br_n (fun h2 => r_X7_in _ _ _ _ ⟨_, rfl, br_b (fun h3 => ?_) (fun h3 => r_X7_in _ _ _ _ ⟨_, rfl, br_n (fun h4 => br_d (fun h5 => br_d (fun h6 => ?_) (fun h6 => ?_)) (fun h5 => ?_)) (fun h4 => ?_)⟩)⟩) (fun h2 => ?_)⟩)⟩)
  · have e : fDuct X x1 x2 x3 x4 = (-1, X) := by simp [fDuct, h1]
    rw [e]; exact ⟨rfl, hm, a_eqx.rf _ _, fun _ _ => rfl⟩
  · have e : fDuct X x1 x2 x3 x4 = (-2, X) := by simp [fDuct, h1, h2, h3]
    rw [e]; exact ⟨rfl, hm, a_eqx.rf _ _, fun _ _ => rfl⟩
  · obtain ⟨c0, c1, c2, c3, c4⟩ := hm
    rw [c0, q_eq (by omega) (by omega)] at h6
    have h7 : X 0 0 < 16 := by omega
    have e : fDuct X x1 x2 x3 x4 = (nI (X 0 0), dX X x1.toNatClampNeg x2.toNatClampNeg x3.toNatClampNeg x4.toNatClampNeg) := by simp [fDuct, h1, h2, h3, h4, h5, h7]
    rw [e, c0, q_in (by omega), q_cl (by omega), pk_us, nI_add, q_sub (by omega), Nat.add_sub_cancel]
    obtain ⟨e1, -, b1⟩ := inB_cl (by decide) (by decide) h1
    obtain ⟨e2, -, b2⟩ := inB_cl (by decide) (by decide) h2
    obtain ⟨e3, -, b3⟩ := inB_cl (by decide) (by decide) h3
    obtain ⟨e4, -, b4⟩ := inB_cl (by decide) (by decide) h4
    refine ⟨h7, h7, h7, h7, rfl, ⟨?_, ?_, ?_, ?_, ?_⟩, ?_, ?_⟩
    · show upd (μ.1 36) 0 (nI (X 0 0 + 1)) 0 = nI (upN (X 0) 0 (X 0 0 + 1) 0)
      rw [pk_us, upN_s]
    · show rp (upd (μ.1 37) (X 0 0) x1) (upN (X 1) (X 0 0) x1.toNatClampNeg) (upN (X 0) 0 (X 0 0 + 1) 0)
      rw [upN_s]; exact rp_push c1 e1
    · show rp (upd (μ.1 38) (X 0 0) x2) (upN (X 2) (X 0 0) x2.toNatClampNeg) (upN (X 0) 0 (X 0 0 + 1) 0)
      rw [upN_s]; exact rp_push c2 e2
    · show rp (upd (μ.1 39) (X 0 0) x3) (upN (X 3) (X 0 0) x3.toNatClampNeg) (upN (X 0) 0 (X 0 0 + 1) 0)
      rw [upN_s]; exact rp_push c3 e3
    · show rp (upd (μ.1 40) (X 0 0) x4) (upN (X 4) (X 0 0) x4.toNatClampNeg) (upN (X 0) 0 (X 0 0 + 1) 0)
      rw [upN_s]; exact rp_push c4 e4
    · intro k hk
      simp only [List.mem_cons, List.not_mem_nil, or_false, not_or] at hk
      obtain ⟨k1, k7, k8, k9, k10⟩ := hk
      refine ⟨?_, rfl⟩
      show va_up (va_up (va_up (va_up (va_up μ.1 37 _) 38 _) 39 _) 40 _) 36 _ k = _
      rw [va_up_ne _ _ k1, va_up_ne _ _ k10, va_up_ne _ _ k9, va_up_ne _ _ k8, va_up_ne _ _ k7]
    · intro j hj
      show upd (μ.1 36) 0 _ j = _
      exact pk_un hj
  · rw [hm.1, q_eq (by omega) (by omega)] at h6
    have e : fDuct X x1 x2 x3 x4 = (-4, X) := by simp [fDuct, h1, h2, h3, h4, h5, h6]
    rw [e]; exact ⟨rfl, hm, a_eqx.rf _ _, fun _ _ => rfl⟩
  · have e : fDuct X x1 x2 x3 x4 = (-3, X) := by subst h5; simp [fDuct, h1, h3, h4]
    rw [e]; exact ⟨rfl, hm, a_eqx.rf _ _, fun _ _ => rfl⟩
  · have e : fDuct X x1 x2 x3 x4 = (-2, X) := by simp [fDuct, h1, h2, h3, h4]
    rw [e]; exact ⟨rfl, hm, a_eqx.rf _ _, fun _ _ => rfl⟩
  · have e : fDuct X x1 x2 x3 x4 = (-1, X) := by simp [fDuct, h1, h2]
    rw [e]; exact ⟨rfl, hm, a_eqx.rf _ _, fun _ _ => rfl⟩
end OPS
