/-! ===== best and loom, the class ===== -/
def pcs (X : aX) (A : Nat) : Nat := fb_sm (fun o => if A.testBit o then X 16 o else 0) (X 14 0)
def kX (X : aX) (A : Nat) : Nat := X 17 0 + pcs X A * wgt X A
def plX (X : aX) : Nat := plP (kX X) (2 ^ X 14 0 - 1)
def aBest (X : aX) : Int64 := lN (plX X / 2 ^ 28)
def aLoom (X : aX) (x : Int32) : Int32 := if inB x (nI 0) (nI (X 14 0) - nI 1) then nI (plX X / 8 ^ (7 - x.toNatClampNeg) % 8) else -1
/-- the plan as it is kept -/
def cQ (μ : aMem) (X : aX) : Prop := μ.1 30 0 = nI 0 ∧ μ.1 31 0 = nI 0 ∧ μ.1 33 0 = nI 0 ∧ (μ.1 5 2 = 0 → μ.2 34 (2 ^ X 14 0 - 1) = lN (plX X))
theorem s64 : ∀ k, k < 64 → (((nI k).toInt64 &&& 63).toBitVec.smod 64).toNat = k := by decide +kernel
theorem pk_shr64 (a s : Int64) (k : Nat) (hs : (s.toBitVec.smod 64).toNat = k) : (a >>> s).toInt = a.toInt >>> k := by
  show (a.toBitVec.sshiftRight (s.toBitVec.smod 64).toNat).toInt = _
  rw [hs, BitVec.toInt_sshiftRight]
  rfl
theorem q_shr64 {n k : Nat} (hn : n < 2 ^ 63) (hk : k < 64) : lN n >>> ((nI k).toInt64 &&& 63) = lN (n / 2 ^ k) := by
  apply Int64.toInt_inj.mp
  have h2 : n / 2 ^ k ≤ n := Nat.div_le_self _ _
  rw [pk_shr64 _ _ k (s64 k hk), pk_lT hn, pk_lT (by omega), Int.shiftRight_eq_div_pow]
  rfl
theorem pcs_le {X : aX} (ho : xO X) (A : Nat) : pcs X A ≤ 8000 := by
  have h := fb_sm_bound (f := fun o => if A.testBit o then X 16 o else 0) (c := 1000) (n := X 14 0) (fun i hi => by
    show (if A.testBit i then X 16 i else 0) ≤ 1000
    have := ho.2.1 i hi; split <;> omega)
  have := ho.1
  unfold pcs; omega
theorem kX_le {X : aX} (hx : xW X) (ho : xO X) (A : Nat) : kX X A ≤ 8200000 ∧ pcs X A * wgt X A ≤ 8000000 := by
  have h1 := pcs_le ho A
  have h2 := wgt_le hx A
  have h3 := ho.2.2
  have h4 : pcs X A * wgt X A ≤ 8000 * 1000 := Nat.mul_le_mul h1 h2
  unfold kX; omega
theorem orF_add {g : Nat → Nat} {t i m : Nat} (hi : i < m) : orF (fun o => if (t ||| 2 ^ i).testBit o then g o else 0) m = orF (fun o => if t.testBit o then g o else 0) m ||| g i := by
  refine Nat.eq_of_testBit_eq (fun b => ?_)
  rw [Nat.testBit_or, Bool.eq_iff_iff, Bool.or_eq_true, orF_bit, orF_bit]
  constructor
  · rintro ⟨j, h1, h2⟩
    by_cases e : i = j
    · subst e
      right
      rw [Nat.testBit_or, Nat.testBit_two_pow] at h2; simpa using h2
    · left
      refine ⟨j, h1, ?_⟩
      rw [Nat.testBit_or, Nat.testBit_two_pow] at h2; simpa [e] using h2
  · rintro (⟨j, h1, h2⟩ | h)
    · refine ⟨j, h1, ?_⟩
      rw [Nat.testBit_or]
      cases hb : t.testBit j
      · rw [hb] at h2; simp at h2
      · rw [hb] at h2; simpa using h2
    · exact ⟨i, hi, by rw [Nat.testBit_or, Nat.testBit_two_pow]; simpa using h⟩
theorem sm_add {a : Nat → Nat} {t i m : Nat} (hi : i < m) (hb : t.testBit i = false) : fb_sm (fun o => if (t ||| 2 ^ i).testBit o then a o else 0) m = fb_sm (fun o => if t.testBit o then a o else 0) m + a i := by
  have h := fb_sm_upd (fun o => if t.testBit o then a o else 0) (a i) (i := i) (n := m) hi
  rw [hb] at h
  have e : fb_sm (fun o => if (t ||| 2 ^ i).testBit o then a o else 0) m = fb_sm (fun k => if k = i then a i else (if t.testBit k then a k else 0)) m := fb_sm_cong (fun o _ => by
    show (if (t ||| 2 ^ i).testBit o then a o else 0) = if o = i then a i else (if t.testBit o then a o else 0)
    rw [Nat.testBit_or, Nat.testBit_two_pow]
    by_cases q : o = i
    · subst q; simp
    · have q2 : ¬ i = o := fun h => q h.symm
      simp [q, q2])
  rw [e]
  have h : fb_sm (fun k => if k = i then a i else if t.testBit k then a k else 0) m + 0 = fb_sm (fun o => if t.testBit o then a o else 0) m + a i := h
  omega
theorem low_nb {t i : Nat} (h : t < 2 ^ i) : t.testBit i = false := Nat.testBit_lt_two_pow h
theorem or_plus {t i : Nat} (h : t < 2 ^ i) : t ||| 2 ^ i = 2 ^ i + t := by
  have := Nat.two_pow_add_eq_or_of_lt h 1
  rw [Nat.mul_one] at this
  rw [Nat.or_comm]; exact this.symm
theorem p38 (a : Nat) : 2 ^ (a * 3) = 8 ^ a := by rw [Nat.mul_comm, Nat.pow_mul]
theorem p24 : (2 : Nat) ^ 24 = 16777216 := by decide
theorem q_minL {V M : Nat} (hV : V < 2 ^ 63) (hM : M < 2 ^ 63) : (if lN V < lN M then lN V else lN M) = lN (min V M) := by
  by_cases hc : V < M
  · rw [if_pos ((pk_lLT hV hM).mpr hc), Nat.min_eq_left (by omega)]
  · rw [if_neg (fun h => hc ((pk_lLT hV hM).mp h)), Nat.min_eq_right (by omega)]
section CPLAN
variable {G : aG} {μ : aMem} {X : aX}
def gsI (X : aX) (N : aMem) (s : Nat) : Prop := N.1 30 s = nI (wfM X s) ∧ N.1 31 s = nI (pcs X s) ∧ N.1 33 s = nI (uS s)
theorem r_X1_gatherSums (hx : xW X) (ho : xO X) (hcw : cW μ X) (hco : cO μ X) (h30 : μ.1 30 0 = nI 0) (h31 : μ.1 31 0 = nI 0) (h33 : μ.1 33 0 = nI 0) : a_Spec G sX1_gatherSums [.ref 5] μ (fun v ν => v = none ∧ a_eqx [30, 31, 33] μ ν ∧ ∀ s, s < 2 ^ X 14 0 → gsI X ν s) := by
  have hm := ho.1
  generalize hpo : (fun (v : Option Value) (ν : aMem) => v = none ∧ a_eqx [30, 31, 33] μ ν ∧ ∀ s, s < 2 ^ X 14 0 → gsI X ν s) = post
  refine w_X1_gatherSums_0 ?_
  refine a_for (fun i (N : aMem) => a_Runs G sX1_gatherSums 2 [(0, .ref 5), (1, .int (nI i))] [] N post) (fun i N => a_eqx [30, 31, 33] μ N ∧ ∀ s, s < 2 ^ i → gsI X N s) (X 14 0) ?_ ?_ 0 μ (by omega) ⟨a_eqx.rf _ _, ?_⟩
  · rintro N ⟨h1, h2⟩
    have e5 : N.1 5 = μ.1 5 := (h1 5 (by simp)).1
    refine w_X1_gatherSums_2 _ ⟨fun _ => by rw [← hpo]; exact ⟨rfl, h1, h2⟩, fun h => absurd (by rw [e5, hco.1, q_le] <;> omega) h⟩
  · rintro i N hi ⟨h1, h2⟩ ih
    have e5 : N.1 5 = μ.1 5 := (h1 5 (by simp)).1
    have e28 : N.1 28 i = nI (X 15 i) := by rw [(h1 28 (by simp)).1]; exact hco.2.2.1 i hi
    have hcwN : cW N X := hcw.kept (fun k hk => (h1 k (by simp; omega)).1)
    have hp8 : 2 ^ i < 256 := pow8 (by omega)
    have hp9 : 2 ^ (i + 1) ≤ 2 ^ 8 := Nat.pow_le_pow_right (by decide) (by omega)
    rw [Nat.pow_succ] at hp9
    refine w_X1_gatherSums_2 _ ⟨fun h => ?_, fun _ => ?_⟩
    · rw [e5, hco.1, q_le (by omega) (by omega)] at h; omega
    rw [q_in (by omega), q_cl (by omega), e28]
    refine ⟨by omega, r_X5_neededWith hx hcwN _ _ ⟨_, rfl, ?_⟩⟩
    rw [q_pow (by omega)]
    refine a_for (fun t (N : aMem) => a_Runs G sX1_gatherSums 31 [(0, .ref 5), (1, .int (nI i)), (2, .int (nI (2 ^ i))), (3, .int (nI (ndM X (X 15 i)))), (4, .int (nI t))] [] N post) (fun t N => a_eqx [30, 31, 33] μ N ∧ ∀ s, s < 2 ^ i + t → gsI X N s) (2 ^ i) ?_ ?_ 0 N (Nat.zero_le _) ⟨h1, fun s hs => h2 s (by omega)⟩
    · rintro N ⟨g1, g2⟩
      refine w_X1_gatherSums_31 _ _ _ _ ⟨fun _ => ?_, fun h => absurd (by rw [q_le] <;> omega) h⟩
      rw [nI_add]
      exact ih N ⟨g1, fun s hs => g2 s (by rw [Nat.pow_succ] at hs; omega)⟩
    · rintro t N ht ⟨g1, g2⟩ ih2
      have hu := or_plus ht
      obtain ⟨k1, k2, k3⟩ := g2 t (by omega)
      have e29 : N.1 29 i = nI (X 16 i) := by rw [(g1 29 (by simp)).1]; exact hco.2.2.2 i hi
      have hbit := low_nb ht
      refine w_X1_gatherSums_31 _ _ _ _ ⟨fun h => ?_, fun _ => ?_⟩
      · rw [q_le (by omega) (by omega)] at h; omega
      rw [fa_or, hu, q_in (by omega), q_cl (by omega), q_in (by omega), q_cl (by omega), q_in (by omega), q_cl (by omega), k1, k2, k3, e29, fa_or, nI_add]
      refine ⟨by omega, by omega, by omega, by omega, by omega, by omega, w_X1_loomShift_0 _ ⟨_, rfl, by omega, ?_⟩⟩
      rw [q_sub (by omega), pk_mul, q_pow (by omega), nI_add, nI_add]
      refine ih2 _ ⟨((g1.t2 (a_eqx.u1 N 30 _ (by simp))).t2 (a_eqx.u1 _ 31 _ (by simp))).t2 (a_eqx.u1 _ 33 _ (by simp)), fun s hs => ?_⟩
      have hw : wfM X (2 ^ i + t) = wfM X t ||| ndM X (X 15 i) := by rw [← hu]; exact orF_add hi
      have hpc : pcs X (2 ^ i + t) = pcs X t + X 16 i := by rw [← hu]; exact sm_add hi hbit
      have hus : uS (2 ^ i + t) = uS t + 8 ^ (7 - i) := by rw [← hu]; exact sm_add (a := fun o => 8 ^ (7 - o)) (by omega) hbit
      by_cases es : s = 2 ^ i + t
      · subst es
        refine ⟨?_, ?_, ?_⟩
        · show upd (N.1 30) (2 ^ i + t) _ (2 ^ i + t) = _
          rw [pk_us, hw]
        · show upd (N.1 31) (2 ^ i + t) _ (2 ^ i + t) = _
          rw [pk_us, hpc]
        · show upd (N.1 33) (2 ^ i + t) _ (2 ^ i + t) = _
          rw [pk_us, hus, p38]
      · obtain ⟨j1, j2, j3⟩ := g2 s (by omega)
        refine ⟨?_, ?_, ?_⟩
        · show upd (N.1 30) (2 ^ i + t) _ s = _
          rw [pk_un es]; exact j1
        · show upd (N.1 31) (2 ^ i + t) _ s = _
          rw [pk_un es]; exact j2
        · show upd (N.1 33) (2 ^ i + t) _ s = _
          rw [pk_un es]; exact j3
  · intro s hs
    have : s = 0 := by omega
    subst this
    have w0 : wfM X 0 = 0 := by
      refine Nat.eq_of_testBit_eq (fun b => ?_)
      rw [Nat.zero_testBit]
      refine Bool.eq_false_iff.mpr (fun h => ?_)
      obtain ⟨j, _, h2⟩ := orF_bit.mp h
      simp at h2
    have p0 : pcs X 0 = 0 := by
      unfold pcs
      rw [fb_sm_cong (g := fun _ => 0) (fun k _ => by simp), fb_sm_const]; omega
    exact ⟨by rw [w0]; exact h30, by rw [p0]; exact h31, by rw [uS_0]; exact h33⟩
theorem vp_updL_s (f : Nat → Int64) (k : Nat) (v : Int64) : vp_updL f k v k = v := by simp [vp_updL]
theorem vp_updL_n (f : Nat → Int64) {k i : Nat} (v : Int64) (h : i ≠ k) : vp_updL f k v i = f i := by simp [vp_updL, h]
theorem r_X1_leastPlan (hx : xW X) (ho : xO X) {S : Nat} (hS : S < 2 ^ X 14 0) (h0 : S ≠ 0) (h32 : ∀ A, A ≠ 0 → A < 2 ^ X 14 0 → μ.1 32 A = nI (kX X A)) (h33 : ∀ A, A < 2 ^ X 14 0 → μ.1 33 A = nI (uS A)) (h34 : ∀ A, A < S → μ.2 34 A = lN (plP (kX X) A)) : a_Ret G sX1_leastPlan [.ref 5, .int (nI S)] μ (some (.long (lN (plP (kX X) S)))) μ := by
  intro post hp
  have hm := ho.1
  have hm8 : 2 ^ X 14 0 ≤ 2 ^ 8 := Nat.pow_le_pow_right (by decide) hm
  have hS8 : S < 256 := by omega
  obtain ⟨l1, l2, l3, l4⟩ := lw_fo S hS8 h0
  have hK : ∀ A, A < 256 → kX X A ≤ 8200000 := fun A _ => (kX_le hx ho A).1
  have hlw8 : lw S < 256 := by rw [l2]; exact pow8 l1
  have hlwn : lw S ≠ 0 := by rw [l2]; exact Nat.ne_of_gt (Nat.two_pow_pos _)
  have hpo := pop_le (oth S)
  have hpo8 : pop (oth S) ≤ 10 := pop10 _ (by omega)
  have hpp : 2 ^ pop (oth S) ≤ 2 ^ 10 := Nat.pow_le_pow_right (by decide) hpo8
  rw [plP_e (kX X) hS8 h0] at hp
  refine w_X1_leastPlan_0 _ ?_
  rw [lw_i S hS8, nx_xor]
  refine r_J6_bitCount (by show oth S < 65536; omega) _ ⟨_, rfl, ?_⟩
  rw [q_pow (by show pop (oth S) < 31; omega)]
  show a_Runs G sX1_leastPlan 28 [(0, .ref 5), (2, .int (nI (lw S))), (3, .int (nI (oth S))), (4, .int (nI (2 ^ pop (oth S)))), (5, .int (nI (bsq (oth S) 0))), (6, .long (lN (mnL (fun i => vlP (kX X) (plP (kX X)) S (bsq (oth S) i)) 0))), (8, .int (nI 0))] [] μ post
  refine a_for (fun i (_ : Unit) => a_Runs G sX1_leastPlan 28 [(0, .ref 5), (2, .int (nI (lw S))), (3, .int (nI (oth S))), (4, .int (nI (2 ^ pop (oth S)))), (5, .int (nI (bsq (oth S) i))), (6, .long (lN (mnL (fun i => vlP (kX X) (plP (kX X)) S (bsq (oth S) i)) i))), (8, .int (nI i))] [] μ post) (fun _ _ => True) (2 ^ pop (oth S)) ?_ ?_ 0 () (Nat.zero_le _) trivial
  · intro _ _
    exact w_X1_leastPlan_28 _ _ _ _ _ _ ⟨fun _ => hp, fun h => absurd (by rw [q_le] <;> omega) h⟩
  · intro i _ hi _ ih
    have hb := bsq_sub (oth S) i
    have hble := sub_le hb
    have hrs := xor_sub hb
    have hrle := sub_le hrs
    have ihn := ih () trivial
    have hbs : bsq (oth S) (i + 1) = if bsq (oth S) i = 0 then oth S else (bsq (oth S) i - 1) &&& oth S := rfl
    have hmn : mnL (fun i => vlP (kX X) (plP (kX X)) S (bsq (oth S) i)) (i + 1) = min (vlP (kX X) (plP (kX X)) S (bsq (oth S) i)) (mnL (fun i => vlP (kX X) (plP (kX X)) S (bsq (oth S) i)) i) := rfl
    have hml : ∀ n, mnL (fun i => vlP (kX X) (plP (kX X)) S (bsq (oth S) i)) n ≤ 9223372036854775807 := fun n => by
      induction n with
      | zero => exact Nat.le_refl _
      | succ n ih => exact Nat.le_trans (Nat.min_le_right _ _) ih
    have hml := hml i
    rw [hbs, hmn] at ihn
    generalize hbb : bsq (oth S) i = b at *
    have hor : lw S ||| b < 2 ^ X 14 0 := by
      have hle : lw S ||| b ≤ S := by
        refine sub_le (Nat.eq_of_testBit_eq (fun k => ?_))
        rw [Nat.testBit_and, Nat.testBit_or]
        have hf : S.testBit (fo S) = true := fa_first_yes (fun i => S.testBit i) 8 l1
        cases hl : (lw S).testBit k
        · cases hbk : b.testBit k
          · rfl
          · have := sub_bit hb hbk
            unfold oth at this
            rw [Nat.testBit_xor, hl] at this
            simpa using this
        · have : fo S = k := by rw [l2, Nat.testBit_two_pow] at hl; simpa using hl
          rw [← this, hf]; rfl
      omega
    have hor0 : lw S ||| b ≠ 0 := fun h => by
      have : lw S ≤ lw S ||| b := Nat.left_le_or
      omega
    have hkk := (kX_le hx ho (lw S ||| b)).1
    have hpl := plP_bd hK (S := oth S ^^^ b) (by omega)
    have hu := uS_le (oth S ^^^ b)
    refine w_X1_leastPlan_28 _ _ _ _ _ _ ⟨fun h => ?_, fun _ => ?_⟩
    · rw [q_le (by omega) (by omega)] at h; omega
    rw [fa_or, nx_xor, q_in (by omega), q_in (by omega), q_cl (by omega), q_cl (by omega), h32 _ hor0 hor, h33 _ (by omega), h34 _ (by omega), nI_l (n := kX X (lw S ||| b)) (by omega), nI_l (n := uS (oth S ^^^ b)) (by omega), wb_shl _ (k := 28) (by decide), nI_add]
    have ev : lN (kX X (lw S ||| b) * 2 ^ 28) + (16777216 : Int64) + lN (plP (kX X) (oth S ^^^ b)) + lN (uS (oth S ^^^ b)) = lN (vlP (kX X) (plP (kX X)) S b) := by
      rw [fa_litL 16777216, lN_add, lN_add, lN_add]
      unfold vlP
      rw [p24]
    rw [ev]
    have hvl : vlP (kX X) (plP (kX X)) S b < 2 ^ 62 := by unfold vlP; omega
    generalize vlP (kX X) (plP (kX X)) S b = V at *
    generalize mnL (fun i => vlP (kX X) (plP (kX X)) S (bsq (oth S) i)) i = M at *
    rw [q_minL (by omega) (by omega)]
    have e5 : (nI b - nI 1) &&& nI (oth S) = nI (if b = 0 then oth S else (b - 1) &&& oth S) := by
      by_cases hb0 : b = 0
      · rw [if_pos hb0, hb0]
        have : (nI 0 - nI 1) = nI (2 ^ 32 - 1) := by decide
        rw [this, fa_and, Nat.and_comm, Nat.and_two_pow_sub_one_eq_mod, Nat.mod_eq_of_lt (by omega)]
      · rw [if_neg hb0, q_sub (by omega), fa_and]
    rw [e5]
    exact ⟨by omega, by omega, by omega, ihn⟩
end CPLAN
