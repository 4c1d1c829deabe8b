/-! ===== net and splice, the class ===== -/
def mnF (c : Nat → Bool) (v : Nat → Nat) : Nat → Nat
  | 0 => 1000000
  | t + 1 => if c t then min (mnF c v t) (v t) else mnF c v t
theorem mnF_le (c : Nat → Bool) (v : Nat → Nat) : ∀ t, mnF c v t ≤ 1000000
  | 0 => Nat.le_refl _
  | t + 1 => by
    have := mnF_le c v t
    show (if c t then min (mnF c v t) (v t) else mnF c v t) ≤ _
    split <;> omega
theorem mnF_0 {c : Nat → Bool} {v : Nat → Nat} : ∀ {t : Nat}, (∀ k, k < t → c k = false) → mnF c v t = 1000000
  | 0, _ => rfl
  | t + 1, h => by
    show (if c t then min (mnF c v t) (v t) else mnF c v t) = _
    rw [h t (by omega), if_neg (by decide)]
    exact mnF_0 (fun k hk => h k (by omega))
def cS (s t : Nat) : Bool := decide (t &&& s = s)
def cP (s p t : Nat) : Bool := cS s t && !t.testBit p
def netV (X : aX) (s : Nat) : Nat := mnF (cS s) (trV X) 1024
def lwV (X : aX) (s p : Nat) : Nat := mnF (cP s p) (trV X) 1024
def splB (X : aX) (s p : Nat) : Bool := !s.testBit p && decide (netV X s < lwV X s p)
def netOK (x : Int32) : Bool := inB x (nI 0) (nI 1023) && decide (2 ≤ pop x.toNatClampNeg)
def aNet (X : aX) (x : Int32) : Int32 := if netOK x then if netV X x.toNatClampNeg = 1000000 then -9 else nI (netV X x.toNatClampNeg) else -2
def aSpl (X : aX) (x : Int32) : Int32 := if netOK x then if netV X x.toNatClampNeg = 1000000 then -9 else if fa_first (splB X x.toNatClampNeg) 10 < 10 then nI (fa_first (splB X x.toNatClampNeg) 10) else -9 else -2
theorem pop_sub {s t : Nat} (h : t &&& s = s) : pop s ≤ pop t := fb_ct_sub (fun k _ hk => by
  have := congrArg (fun n => n.testBit k) h
  simp only [Nat.testBit_and] at this
  rw [hk, Bool.and_true] at this
  exact this)
theorem a_eqx.t2 {ks : List Nat} {μ ν ξ : aMem} (h : a_eqx ks μ ν) (h2 : a_eqx ks ν ξ) : a_eqx ks μ ξ := fun k hk => ⟨(h2 k hk).1.trans (h k hk).1, (h2 k hk).2.trans (h k hk).2⟩
theorem a_eqx.u1 {ks : List Nat} (μ : aMem) (k : Nat) (f : Nat → Int32) (hk : k ∈ ks) : a_eqx ks μ (va_up μ.1 k f, μ.2) := (a_eqx.up μ k f).sub (fun j hj => by
  have : j = k := by simpa using hj
  rw [this]; exact hk)
section NET
variable {G : aG} {μ : aMem} {X : aX}
theorem r_fill27 : a_Spec G sJ7_fill_53178 [.ref 27, .int (nI 1000000)] μ (fun v ν => v = none ∧ ∃ c, ν = (va_up μ.1 27 c, μ.2) ∧ ∀ i, i < 10 → c i = nI 1000000) := by
  generalize hpo : (fun (v : Option Value) (ν : aMem) => v = none ∧ ∃ c, ν = (va_up μ.1 27 c, μ.2) ∧ ∀ i, i < 10 → c i = nI 1000000) = post
  refine w_J7_fillb_0 _ ?_
  have main := a_for (fun i (c : Nat → Int32) => a_Runs G sJ7_fill_53178 5 [(0, .ref 27), (1, .int (nI 1000000)), (2, .int (nI i)), (3, .int (Int32.ofNat 10))] [] (va_up μ.1 27 c, μ.2) post) (fun i c => ∀ j, j < i → c j = nI 1000000) 10 ?_ ?_ 0 (μ.1 27) (by omega) (fun j hj => by omega)
  · rw [a_self μ 27]; exact main
  · intro c hc
    refine w_J7_fillb_5 _ _ _ ⟨fun _ => by rw [← hpo]; exact ⟨rfl, c, rfl, hc⟩, fun h => absurd (show nI 10 ≤ nI 10 by rw [q_le] <;> omega) h⟩
  · intro i c hi hc ih
    refine w_J7_fillb_5 _ _ _ ⟨fun h => ?_, fun _ => ?_⟩
    · have h : nI 10 ≤ nI i := h
      rw [q_le (by omega) (by omega)] at h; omega
    · rw [q_in (by omega), q_cl (by omega), nI_add]
      refine ⟨by omega, ?_⟩
      show a_Runs G sJ7_fill_53178 5 _ [] (va_up (va_up μ.1 27 c) 27 (upd c i (nI 1000000)), μ.2) _
      rw [bx_uu]
      refine ih _ (fun j hj => ?_)
      by_cases ej : j = i
      · rw [ej, pk_us]
      · rw [pk_un ej]; exact hc j (by omega)
theorem r_X4_note {t L l : Nat} {M : Nat → Nat} (ht : t < 1024) (hl : l ≤ 1000000) (hL : L ≤ 1000000) (hM : ∀ p, M p ≤ 1000000) (h4 : μ.1 4 3 = nI L) (h27 : rp (μ.1 27) M 10) :
    a_Spec G sX4_note [.ref 4, .int (nI t), .int (nI l)] μ (fun v ν => v = none ∧ a_eqx [4, 26, 27] μ ν ∧ ν.1 4 3 = nI (min L l) ∧ rp (ν.1 27) (fun p => if t.testBit p then M p else min (M p) l) 10) := by
  generalize hpo : (fun (v : Option Value) (ν : aMem) => v = none ∧ a_eqx [4, 26, 27] μ ν ∧ ν.1 4 3 = nI (min L l) ∧ rp (ν.1 27) (fun p => if t.testBit p then M p else min (M p) l) 10) = post
  refine w_X4_note_0 _ _ ?_
  rw [q_eq (by omega) (by omega)]
  refine ⟨fun h => ?_, fun h => ?_⟩
  · have e4 : (if nI l < μ.1 4 3 then nI l else μ.1 4 3) = nI (min L l) := by
      rw [h4]
      by_cases hh : l < L
      · rw [if_pos (by rw [q_lt (by omega) (by omega)]; exact hh)]; congr 1; omega
      · rw [if_neg (by rw [q_lt (by omega) (by omega)]; exact hh)]; congr 1; omega
    rw [e4]
    generalize hN : ((va_up μ.1 4 (upd (μ.1 4) 3 (nI (min L l))), μ.2) : aMem) = N
    have n1 : a_eqx [4, 26, 27] μ N := by rw [← hN]; exact a_eqx.u1 μ 4 _ (by simp)
    have n2 : N.1 4 3 = nI (min L l) := by rw [← hN]; exact pk_us (f := μ.1 4) (k := 3) (x := nI (min L l))
    have n3 : N.1 27 = μ.1 27 := by rw [← hN]; rfl
    have main := a_for (fun i (c : Nat → Int32) => a_Runs G sX4_note 21 [(0, .ref 4), (1, .int (nI t)), (2, .int (nI l)), (3, .int (nI i))] [] (va_up N.1 27 c, N.2) post) (fun i c => ∀ p, p < 10 → c p = nI (if p < i ∧ t.testBit p = false then min (M p) l else M p)) 10 ?_ ?_ 0 (N.1 27) (by omega) (fun p hp => by rw [n3, if_neg (by omega)]; exact h27 p hp)
    · rw [a_self N 27]; exact main
    · intro c hc
      refine w_X4_note_21 _ _ _ ⟨fun _ => ?_, fun h => absurd (by rw [q_le] <;> omega) h⟩
      rw [← hpo]
      refine ⟨rfl, n1.t2 (a_eqx.u1 N 27 c (by simp)), n2, fun p hp => ?_⟩
      show c p = _
      rw [hc p hp]
      cases hb : t.testBit p <;> simp [hb, hp]
    · intro i c hi hc ih
      refine w_X4_note_21 _ _ _ ⟨fun h => ?_, fun _ => ?_⟩
      · rw [q_le (by omega) (by omega)] at h; omega
      have same : ∀ p, p ≠ i → (if p < i + 1 ∧ t.testBit p = false then min (M p) l else M p) = (if p < i ∧ t.testBit p = false then min (M p) l else M p) := fun p hp => by
        by_cases h : p < i ∧ t.testBit p = false
        · rw [if_pos h, if_pos ⟨by omega, h.2⟩]
        · rw [if_neg h, if_neg (fun q => h ⟨by omega, q.2⟩)]
      have ci := hc i hi
      rw [if_neg (by omega)] at ci
      have hMi := hM i
      refine r_X6_has (by omega) (by omega) _ ⟨_, rfl, br_n (fun hb => ?_) (fun hb => ?_)⟩
      · rw [nI_add]
        refine ih c (fun p hp => ?_)
        by_cases ep : p = i
        · subst ep; rw [ci, if_neg (fun q => by rw [hb] at q; cases q.2)]
        · rw [same p ep]; exact hc p hp
      · have e27 : ((va_up N.1 27 c, N.2) : aMem).1 27 = c := va_up_self N.1 27 c
        rw [q_in (by omega), q_cl (by omega), e27, ci, q_le (by omega) (by omega), nI_add]
        refine ⟨hi, fun h => ?_, fun h => ⟨hi, ?_⟩⟩
        · refine ih c (fun p hp => ?_)
          by_cases ep : p = i
          · subst ep; rw [ci, if_pos ⟨by omega, hb⟩]; congr 1; omega
          · rw [same p ep]; exact hc p hp
        · show a_Runs G sX4_note 21 _ [] (va_up (va_up N.1 27 c) 27 _, N.2) post
          rw [bx_uu]
          refine ih _ (fun p hp => ?_)
          by_cases ep : p = i
          · subst ep; rw [pk_us, if_pos ⟨by omega, hb⟩]; congr 1; omega
          · rw [pk_un ep, same p ep]; exact hc p hp
  · subst h
    rw [← hpo]
    refine ⟨rfl, a_eqx.rf _ _, by rw [h4]; congr 1; omega, fun p hp => ?_⟩
    rw [h27 p hp]
    have := hM p
    show nI (M p) = nI (if t.testBit p then M p else min (M p) 1000000)
    congr 1
    split <;> omega
theorem r_X4_compare (hd : xD X) (hcd : cD μ X) {s : Nat} (hs : s < 1024) (hp : 2 ≤ pop s) : a_Spec G sX4_compare [.ref 4, .int (nI s)] μ (fun v ν => v = none ∧ a_eqx [4, 26, 27] μ ν ∧ ν.1 4 3 = nI (netV X s) ∧ rp (ν.1 27) (lwV X s) 10) := by
  generalize hpo : (fun (v : Option Value) (ν : aMem) => v = none ∧ a_eqx [4, 26, 27] μ ν ∧ ν.1 4 3 = nI (netV X s) ∧ rp (ν.1 27) (lwV X s) 10) = post
  refine w_X4_compare_0 _ (r_fill27.mono ?_)
  rintro v ν ⟨rfl, c, rfl, hc⟩
  refine ⟨rfl, ?_⟩
  refine a_for (fun t (N : aMem) => a_Runs G sX4_compare 17 [(0, .ref 4), (1, .int (nI s)), (2, .int (nI t))] [] N post) (fun t N => a_eqx [4, 26, 27] μ N ∧ N.1 4 3 = nI (mnF (cS s) (trV X) t) ∧ rp (N.1 27) (fun p => mnF (cP s p) (trV X) t) 10) 1024 ?_ ?_ 0 _ (by omega) ⟨(a_eqx.u1 μ 4 _ (by simp)).t2 (a_eqx.u1 _ 27 c (by simp)), ?_, ?_⟩
  · rintro N ⟨h1, h2, h3⟩
    refine w_X4_compare_17 _ _ ⟨fun _ => ?_, fun h => absurd (by rw [q_le] <;> omega) h⟩
    rw [← hpo]; exact ⟨rfl, h1, h2, h3⟩
  · rintro t N ht ⟨h1, h2, h3⟩ ih
    have hcdN : cD N X := hcd.kept (fun k hk => (h1 k (by simp; omega)).1)
    refine w_X4_compare_17 _ _ ⟨fun h => ?_, fun _ => ?_⟩
    · rw [q_le (by omega) (by omega)] at h; omega
    have hand : t &&& s ≤ t := Nat.and_le_left
    rw [fa_and, q_eq (by omega) (by omega), nI_add]
    refine ⟨fun h => ih N ⟨h1, ?_, ?_⟩, fun h => ?_⟩
    · have ec : cS s t = false := by unfold cS; exact decide_eq_false h
      rw [h2]; congr 1
      show _ = if cS s t then min (mnF (cS s) (trV X) t) (trV X t) else mnF (cS s) (trV X) t
      rw [ec]; rfl
    · have ec : ∀ p, cP s p t = false := fun p => by unfold cP cS; rw [decide_eq_false h]; rfl
      intro p hp
      rw [h3 p hp]; congr 1
      show _ = if cP s p t then min (mnF (cP s p) (trV X) t) (trV X t) else mnF (cP s p) (trV X) t
      rw [ec]; rfl
    · have hpt := pop_sub h
      have htv := trV_le hd t
      have ec : cS s t = true := decide_eq_true h
      refine (r_X4_treeLength hd hcdN ht (by omega)).mono ?_
      rintro v ν ⟨rfl, c, rfl⟩
      refine ⟨_, rfl, (r_X4_note (μ := (va_up N.1 26 c, N.2)) (t := t) (L := mnF (cS s) (trV X) t) (l := trV X t) (M := fun p => mnF (cP s p) (trV X) t) ht htv.1 (mnF_le _ _ _) (fun p => mnF_le _ _ _) h2 h3).mono ?_⟩
      rintro v ν ⟨rfl, g1, g2, g3⟩
      refine ⟨rfl, ih ν ⟨(h1.t2 (a_eqx.u1 N 26 c (by simp))).t2 g1, ?_, ?_⟩⟩
      · rw [g2]; congr 1
        show _ = if cS s t then min (mnF (cS s) (trV X) t) (trV X t) else mnF (cS s) (trV X) t
        rw [ec]; rfl
      · intro p hp
        rw [g3 p hp]; congr 1
        show _ = if cP s p t then min (mnF (cP s p) (trV X) t) (trV X t) else mnF (cP s p) (trV X) t
        unfold cP; rw [ec]
        cases hb : t.testBit p <;> simp [hb]
  · exact pk_us (f := μ.1 4) (k := 3) (x := nI 1000000)
  · intro p hp
    exact hc p hp
theorem r_X6_isNetP (x : Int32) : a_Ret G sX6_isNetOfPlaces [.int x] μ (some (.int (bI (netOK x)))) μ := by
  intro post hp
  unfold netOK at hp
  refine w_X6_isNetOfPlaces_0 _ (r_X6_isWithin _ _ _ _ ⟨_, rfl, br_b (fun h1 => ⟨nI_00, ?_⟩) (fun h1 => ?_)⟩)
  · rw [h1] at hp; exact hp
  · obtain ⟨e1, -, b1⟩ := inB_cl (by decide) (by decide) h1
    rw [h1, Bool.true_and] at hp
    generalize x.toNatClampNeg = s at *
    subst e1
    have h20 := pop_le s
    refine r_J6_bitCount (by omega) _ ⟨_, rfl, ?_⟩
    rw [q_lt (by omega) (by omega)]
    refine ⟨fun h => ⟨nI_00, ?_⟩, fun h => ⟨nI_11, ?_⟩⟩
    · rw [decide_eq_false (by omega)] at hp; exact hp
    · rw [decide_eq_true (by omega)] at hp; exact hp
theorem netOK_i {x : Int32} (h : netOK x = true) : x = nI x.toNatClampNeg ∧ x.toNatClampNeg < 1024 ∧ 2 ≤ pop x.toNatClampNeg := by
  unfold netOK at h
  rw [Bool.and_eq_true] at h
  obtain ⟨e1, -, b1⟩ := inB_cl (by decide) (by decide) h.1
  exact ⟨e1, by omega, of_decide_eq_true h.2⟩
theorem c_net (hd : xD X) (hcd : cD μ X) (x : Int32) : a_Spec G sX6_net [.ref 0, .int x] μ (fun v ν => v = some (.int (aNet X x)) ∧ a_eqx [4, 26, 27] μ ν) := by
  refine w_X6_net_0 _ (r_X6_isNetP _ _ ⟨_, rfl, br_n (fun h => ?_) (fun h => ?_)⟩)
  · obtain ⟨e1, b1, b2⟩ := netOK_i h
    have e : aNet X x = if netV X x.toNatClampNeg = 1000000 then -9 else nI (netV X x.toNatClampNeg) := by unfold aNet; rw [if_pos h]
    rw [e]
    generalize x.toNatClampNeg = s at *
    subst e1
    have hle := mnF_le (cS s) (trV X) 1024
    refine (r_X4_compare hd hcd b1 b2).mono ?_
    rintro v ν ⟨rfl, g1, g2, g3⟩
    have hle : netV X s ≤ 1000000 := hle
    rw [g2, q_eq (by omega) (by omega)]
    exact ⟨rfl, fun h => ⟨by rw [if_neg h], g1⟩, fun h => ⟨by rw [if_pos h], g1⟩⟩
  · have e : aNet X x = -2 := by unfold aNet; rw [h]; rfl
    rw [e]; exact ⟨rfl, a_eqx.rf _ _⟩
theorem c_splice (hd : xD X) (hcd : cD μ X) (x : Int32) : a_Spec G sX6_splice [.ref 0, .int x] μ (fun v ν => v = some (.int (aSpl X x)) ∧ a_eqx [4, 26, 27] μ ν) := by
  refine w_X6_splice_0 _ (r_X6_isNetP _ _ ⟨_, rfl, br_n (fun h => ?_) (fun h => ?_)⟩)
  · obtain ⟨e1, b1, b2⟩ := netOK_i h
    have e : aSpl X x = if netV X x.toNatClampNeg = 1000000 then -9 else if fa_first (splB X x.toNatClampNeg) 10 < 10 then nI (fa_first (splB X x.toNatClampNeg) 10) else -9 := by unfold aSpl; rw [if_pos h]
    rw [e]
    generalize x.toNatClampNeg = s at *
    subst e1
    have hle : netV X s ≤ 1000000 := mnF_le (cS s) (trV X) 1024
    refine (r_X4_compare hd hcd b1 b2).mono ?_
    rintro v ν ⟨rfl, g1, g2, g3⟩
    refine ⟨rfl, w_X4_firstNeeded_0 _ ?_⟩
    rw [g2, q_eq (by omega) (by omega)]
    refine ⟨fun h => ?_, fun h => ⟨_, rfl, by rw [if_pos h], g1⟩⟩
    rw [if_neg h]
    have hno := fa_first_no (splB X s) 10
    have hyes := fa_first_yes (splB X s) 10
    have hf10 := fa_first_le (splB X s) 10
    generalize fa_first (splB X s) 10 = F at *
    refine a_for (fun i (_ : Unit) => a_Runs G sX4_firstNeeded 14 [(0, .ref 4), (1, .int (nI s)), (2, .int (nI i))] [] ν _) (fun _ _ => True) F ?_ ?_ 0 () (by omega) trivial
    · intro _ _
      refine w_X4_firstNeeded_14 _ _ ⟨fun hc => ?_, fun hc => ?_⟩
      · rw [q_le (by omega) (by omega)] at hc
        exact ⟨_, rfl, by rw [if_neg (by omega)], g1⟩
      · rw [q_le (by omega) (by omega)] at hc
        have hF : F < 10 := by omega
        have hy := hyes hF
        unfold splB at hy
        rw [Bool.and_eq_true, Bool.not_eq_true'] at hy
        have hlw : lwV X s F ≤ 1000000 := mnF_le _ _ _
        have hdc := of_decide_eq_true hy.2
        refine r_X6_has (by omega) (by omega) _ ⟨_, rfl, br_n (fun hb => by rw [hy.1] at hb; cases hb) (fun hb => ?_)⟩
        rw [q_in (by omega), q_cl (by omega), g3 F hF, g2, q_le (by omega) (by omega)]
        exact ⟨hF, fun hc => absurd hc (by omega), fun _ => ⟨_, rfl, by rw [if_pos hF], g1⟩⟩
    · intro i _ hi _ ih
      have hn := hno i hi
      have hlw : lwV X s i ≤ 1000000 := mnF_le _ _ _
      refine w_X4_firstNeeded_14 _ _ ⟨fun hc => ?_, fun _ => ?_⟩
      · rw [q_le (by omega) (by omega)] at hc; omega
      · refine r_X6_has (by omega) (by omega) _ ⟨_, rfl, br_n (fun hb => by rw [nI_add]; exact ih () trivial) (fun hb => ?_)⟩
        unfold splB at hn
        rw [hb, Bool.not_false, Bool.true_and] at hn
        have hn := of_decide_eq_false hn
        rw [q_in (by omega), q_cl (by omega), g3 i (by omega), g2, q_le (by omega) (by omega), nI_add]
        exact ⟨by omega, fun _ => ih () trivial, fun hc => absurd (by omega) hc⟩
  · have e : aSpl X x = -2 := by unfold aSpl; rw [h]; rfl
    rw [e]; exact ⟨rfl, a_eqx.rf _ _⟩
end NET
