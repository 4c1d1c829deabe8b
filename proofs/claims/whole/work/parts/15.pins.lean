/-! ===== pins: nets used, tests, pairs; ones of a set ===== -/
def rp (c : Nat → Int32) (f : Nat → Nat) (N : Nat) : Prop := ∀ i, i < N → c i = nI (f i)
theorem rp.upd {c : Nat → Int32} {f : Nat → Nat} {N : Nat} (h : rp c f N) (k v : Nat) : rp (upd c k (nI v)) (fun i => if i = k then v else f i) N := by
  intro i hi
  by_cases e : i = k
  · subst e; rw [pk_us]; show nI v = nI (if i = i then v else f i); rw [if_pos rfl]
  · rw [pk_un e]; show c i = nI (if i = k then v else f i); rw [if_neg e]; exact h i hi
theorem br_b {b : Bool} {A B : Prop} (h0 : b = false → A) (h1 : b = true → B) : (bI b = 0 → A) ∧ (¬ bI b = 0 → B) := ⟨fun h => h0 ((bI_0 b).mp h), fun h => h1 ((bI_n0 b).mp h)⟩
theorem br_n {b : Bool} {A B : Prop} (h1 : b = true → B) (h0 : b = false → A) : (¬ bI b = 0 → B) ∧ (bI b = 0 → A) := ⟨fun h => h1 ((bI_n0 b).mp h), fun h => h0 ((bI_0 b).mp h)⟩
theorem br_d {c : Prop} {A B : Prop} (h1 : ¬ c → A) (h0 : c → B) : (¬ c → A) ∧ (c → B) := ⟨h1, h0⟩
/-- 'or' over a row -/
def orF (f : Nat → Nat) : Nat → Nat
  | 0 => 0
  | k + 1 => orF f k ||| f k
theorem orF_lt {f : Nat → Nat} {b : Nat} : ∀ {k : Nat}, (∀ i, i < k → f i < 2 ^ b) → orF f k < 2 ^ b
  | 0, _ => Nat.two_pow_pos b
  | k + 1, h => Nat.or_lt_two_pow (orF_lt (fun i hi => h i (by omega))) (h k (by omega))
theorem orF_bit {f : Nat → Nat} {i : Nat} : ∀ {k : Nat}, (orF f k).testBit i = true ↔ ∃ j, j < k ∧ (f j).testBit i = true
  | 0 => by simp [orF]
  | k + 1 => by
    rw [orF, Nat.testBit_or, Bool.or_eq_true, orF_bit]
    constructor
    · rintro (⟨j, h1, h2⟩ | h)
      · exact ⟨j, by omega, h2⟩
      · exact ⟨k, by omega, h⟩
    · rintro ⟨j, h1, h2⟩
      by_cases e : j = k
      · subst e; exact Or.inr h2
      · exact Or.inl ⟨j, by omega, h2⟩
theorem orF_cong {f g : Nat → Nat} : ∀ {k : Nat}, (∀ i, i < k → f i = g i) → orF f k = orF g k
  | 0, _ => rfl
  | k + 1, h => by rw [orF, orF, orF_cong (fun i hi => h i (by omega)), h k (by omega)]
/-- how many ones a set has -/
def pop (s : Nat) : Nat := fb_ct (fun k => s.testBit k) 20
theorem pop_le (s : Nat) : pop s ≤ 20 := fb_ct_le _ _
section PINS
variable {G : aG} {μ : aMem}
theorem r_X7_ones {s : Nat} (hs : s < 2 ^ 31) : a_Ret G sX7_ones [.int (nI s)] μ (some (.int (nI (pop s)))) μ := by
  intro post hp
  refine w_X7_ones_0 _ ?_
  refine a_for (fun i (x : Int32) => a_Runs G sX7_ones 4 [(0, .int (nI s)), (1, .int x), (2, .int (nI i))] [] μ post) (fun i x => x = nI (fb_ct (fun k => s.testBit k) i)) 20 ?_ ?_ 0 (nI 0) (by omega) rfl
  · rintro x rfl
    exact w_X7_ones_4 _ _ _ ⟨fun _ => hp, fun h => absurd (by rw [q_le] <;> omega) h⟩
  · rintro i x hi rfl ih
    refine w_X7_ones_4 _ _ _ ⟨fun h => ?_, fun h => ?_⟩
    · rw [q_le (by omega) (by omega)] at h; omega
    · rw [q_bit hs (by omega), nI_add]
      refine ih _ ?_
      rw [bI, nI_add, fb_ct_succ]
      cases s.testBit i <;> rfl
/-- the JDK's bitCount, on numbers -/
def swA (n : Nat) : Nat := n - ((n / 2 ^ 1) &&& 1431655765)
def swB (x : Nat) : Nat := (x &&& 858993459) + ((x / 2 ^ 2) &&& 858993459)
def swC (x : Nat) : Nat := (x + x / 2 ^ 4) &&& 252645135
def swD (x : Nat) : Nat := x + x / 2 ^ 8
def swE (x : Nat) : Nat := (x + x / 2 ^ 16) &&& 63
theorem and16 (a b c d : Nat) (hb : b < 16) (hd : d < 16) : (16 * a + b) &&& (16 * c + d) = 16 * (a &&& c) + (b &&& d) := by
  have hbd : b &&& d < 2 ^ 4 := Nat.and_lt_two_pow b hd
  apply Nat.eq_of_testBit_eq
  intro i
  have e : (16 : Nat) = 2 ^ 4 := rfl
  rw [e, Nat.testBit_and, Nat.testBit_two_pow_mul_add a hb, Nat.testBit_two_pow_mul_add c hd, Nat.testBit_two_pow_mul_add (a &&& c) hbd]
  split
  · rw [Nat.testBit_and]
  · rw [Nat.testBit_and]
theorem nibA : ∀ k, k < 2 → ∀ r, r < 16 → (8 * k + r / 2) &&& 5 = (r / 2) &&& 5 := by decide
theorem nibB : ∀ k, k < 4 → ∀ r, r < 16 → (4 * k + r / 4) &&& 3 = (r / 4) &&& 3 := by decide
theorem stA (m r M : Nat) (hr : r < 16) : ((16 * m + r) / 2) &&& (16 * M + 5) = 16 * ((m / 2) &&& M) + ((r / 2) &&& 5) := by
  have e : (16 * m + r) / 2 = 16 * (m / 2) + (8 * (m % 2) + r / 2) := by omega
  rw [e, and16 _ _ _ _ (by omega) (by decide), nibA _ (by omega) _ hr]
theorem stB (m r M : Nat) (hr : r < 16) : ((16 * m + r) / 4) &&& (16 * M + 3) = 16 * ((m / 4) &&& M) + ((r / 4) &&& 3) := by
  have e : (16 * m + r) / 4 = 16 * (m / 4) + (4 * (m % 4) + r / 4) := by omega
  rw [e, and16 _ _ _ _ (by omega) (by decide), nibB _ (by omega) _ hr]
theorem nib_lastA : ∀ r, r < 16 → (r / 2) &&& 349525 = (r / 2) &&& 5 := by decide +kernel
theorem nib_lastB : ∀ r, r < 16 → (r / 4) &&& 209715 = (r / 4) &&& 3 := by decide +kernel
theorem nib_lastM : ∀ r, r < 16 → r &&& 209715 = r &&& 3 := by decide +kernel
def nal (r : Nat) : Nat := r - ((r / 2) &&& 5)
def nbe (a : Nat) : Nat := (a &&& 3) + ((a / 4) &&& 3)
theorem nal_ok : ∀ r, r < 16 → (r / 2) &&& 5 ≤ r ∧ nal r < 16 ∧ nbe (nal r) ≤ 4 ∧ nbe (nal r) = fb_ct (fun k => r.testBit k) 4 := by decide +kernel
theorem swA_n {a b c d : Nat} (ha : a < 16) (hb : b < 16) (hc : c < 16) (hd : d < 16) : swA (16 * (16 * (16 * a + b) + c) + d) = 16 * (16 * (16 * nal a + nal b) + nal c) + nal d := by
  unfold swA
  have e1 : (1431655765 : Nat) = 16 * 89478485 + 5 := rfl
  have e2 : (89478485 : Nat) = 16 * 5592405 + 5 := rfl
  have e3 : (5592405 : Nat) = 16 * 349525 + 5 := rfl
  rw [Nat.pow_one, e1, stA _ _ _ hd, e2, stA _ _ _ hc, e3, stA _ _ _ hb, nib_lastA a ha]
  have h1 := (nal_ok a ha).1
  have h2 := (nal_ok b hb).1
  have h3 := (nal_ok c hc).1
  have h4 := (nal_ok d hd).1
  unfold nal
  omega
theorem swB_n {a b c d : Nat} (ha : a < 16) (hb : b < 16) (hc : c < 16) (hd : d < 16) : swB (16 * (16 * (16 * a + b) + c) + d) = 16 * (16 * (16 * nbe a + nbe b) + nbe c) + nbe d := by
  unfold swB
  have e1 : (858993459 : Nat) = 16 * 53687091 + 3 := rfl
  have e2 : (53687091 : Nat) = 16 * 3355443 + 3 := rfl
  have e3 : (3355443 : Nat) = 16 * 209715 + 3 := rfl
  have e4 : (2 ^ 2 : Nat) = 4 := rfl
  rw [e4, e1, stB _ _ _ hd, and16 _ _ _ _ hd (by decide), e2, stB _ _ _ hc, and16 _ _ _ _ hc (by decide), e3, stB _ _ _ hb, and16 _ _ _ _ hb (by decide), nib_lastB a ha, nib_lastM a ha]
  unfold nbe
  omega
theorem nib15 : ∀ r, r < 16 → r &&& 15 = r ∧ r &&& 0 = 0 := by decide
theorem swC_n {a b c d : Nat} (ha : a ≤ 4) (hb : b ≤ 4) (hc : c ≤ 4) (hd : d ≤ 4) : swC (16 * (16 * (16 * a + b) + c) + d) = 16 * (16 * (b + a)) + (d + c) := by
  unfold swC
  have e : 16 * (16 * (16 * a + b) + c) + d + (16 * (16 * (16 * a + b) + c) + d) / 2 ^ 4 = 16 * (16 * (16 * a + (b + a)) + (c + b)) + (d + c) := by
    have : (2 ^ 4 : Nat) = 16 := rfl
    rw [this]; omega
  have e1 : (252645135 : Nat) = 16 * (16 * (16 * (16 * 3855) + 15) + 0) + 15 := rfl
  rw [e, e1, and16 _ _ _ _ (by omega) (by decide), and16 _ _ _ _ (by omega) (by decide), and16 _ _ _ _ (by omega) (by decide), (nib15 (d + c) (by omega)).1, (nib15 (c + b) (by omega)).2, (nib15 (b + a) (by omega)).1]
  have e5 : a &&& 16 * 3855 = 0 := by
    have h5 := and16 0 a 3855 0 (by omega) (by decide)
    rw [(nib15 a (by omega)).2, Nat.zero_and] at h5
    simpa using h5
  rw [e5]
  omega
theorem fb_nib (m r k : Nat) (hr : r < 16) : fb_ct (fun i => (16 * m + r).testBit i) (4 + k) = fb_ct (fun i => r.testBit i) 4 + fb_ct (fun i => m.testBit i) k := by
  have key : ∀ i, (16 * m + r).testBit i = if i < 4 then r.testBit i else m.testBit (i - 4) := fun i => Nat.testBit_two_pow_mul_add (i := 4) m hr i
  rw [fb_ct_split]
  congr 1
  · exact fb_ct_cong (fun k hk => by rw [key, if_pos hk])
  · exact fb_ct_cong (fun k _ => by rw [key, if_neg (by omega), Nat.add_sub_cancel_left])
theorem fb_nib4 : ∀ r, r < 16 → fb_ct (fun i => r.testBit i) 8 = fb_ct (fun i => r.testBit i) 4 := by decide +kernel
theorem pop_n {a b c d : Nat} (ha : a < 16) (hb : b < 16) (hc : c < 16) (hd : d < 16) : pop (16 * (16 * (16 * a + b) + c) + d) = nbe (nal d) + (nbe (nal c) + (nbe (nal b) + nbe (nal a))) := by
  unfold pop
  rw [show (20 : Nat) = 4 + 16 from rfl, fb_nib _ _ _ hd, show (16 : Nat) = 4 + 12 from rfl]
  rw [show (4 + 12 : Nat) = 16 from rfl]
  have h1 := fb_nib (16 * a + b) c 12 hc
  have h2 := fb_nib a b 8 hb
  rw [show (4 + 12 : Nat) = 16 from rfl] at h1
  rw [show (4 + 8 : Nat) = 12 from rfl] at h2
  rw [h1, h2, fb_nib4 a ha, (nal_ok a ha).2.2.2, (nal_ok b hb).2.2.2, (nal_ok c hc).2.2.2, (nal_ok d hd).2.2.2]
theorem sw_all {n : Nat} (h : n < 65536) : ((n / 2 ^ 1) &&& 1431655765) ≤ n ∧ swA n < 65536 ∧ swB (swA n) < 65536 ∧ swC (swB (swA n)) < 65536 ∧ swD (swC (swB (swA n))) < 65536 ∧ swE (swD (swC (swB (swA n)))) = pop n := by
  have hle : ((n / 2 ^ 1) &&& 1431655765) ≤ n := Nat.le_trans Nat.and_le_left (Nat.div_le_self _ _)
  obtain ⟨a, b, c, d, ha, hb, hc, hd, rfl⟩ : ∃ a b c d, a < 16 ∧ b < 16 ∧ c < 16 ∧ d < 16 ∧ n = 16 * (16 * (16 * a + b) + c) + d := ⟨n / 4096, n / 256 % 16, n / 16 % 16, n % 16, by omega, by omega, by omega, by omega, by omega⟩
  obtain ⟨-, a1, a2, -⟩ := nal_ok a ha
  obtain ⟨-, b1, b2, -⟩ := nal_ok b hb
  obtain ⟨-, c1, c2, -⟩ := nal_ok c hc
  obtain ⟨-, d1, d2, -⟩ := nal_ok d hd
  refine ⟨hle, ?_⟩
  rw [swA_n ha hb hc hd, swB_n a1 b1 c1 d1, swC_n a2 b2 c2 d2, pop_n ha hb hc hd]
  have eD : swD (16 * (16 * (nbe (nal b) + nbe (nal a))) + (nbe (nal d) + nbe (nal c))) = 256 * (nbe (nal b) + nbe (nal a)) + (nbe (nal d) + nbe (nal c) + (nbe (nal b) + nbe (nal a))) := by
    unfold swD
    have : (2 ^ 8 : Nat) = 256 := rfl
    rw [this]; omega
  rw [eD]
  have eE : swE (256 * (nbe (nal b) + nbe (nal a)) + (nbe (nal d) + nbe (nal c) + (nbe (nal b) + nbe (nal a)))) = nbe (nal d) + (nbe (nal c) + (nbe (nal b) + nbe (nal a))) := by
    unfold swE
    have e1 : (63 : Nat) = 2 ^ 6 - 1 := rfl
    have e2 : (2 ^ 16 : Nat) = 65536 := rfl
    have e3 : (2 ^ 6 : Nat) = 64 := rfl
    rw [e1, Nat.and_two_pow_sub_one_eq_mod, e2, e3]
    clear eD hle
    generalize nbe (nal a) = A at *
    generalize nbe (nal b) = B at *
    generalize nbe (nal c) = C at *
    generalize nbe (nal d) = D at *
    have h0 : (256 * (B + A) + (D + C + (B + A))) / 65536 = 0 := Nat.div_eq_of_lt (by omega)
    rw [h0]
    omega
  rw [eE]
  exact ⟨by omega, by omega, by omega, by omega, rfl⟩
theorem q_ush {n k : Nat} (hn : n < 2 ^ 32) (hk : k < 32) : ((nI n).toUInt32 >>> ((nI k).toUInt32 &&& Int32.toUInt32 31)).toInt32 = nI (n / 2 ^ k) := pk_ushrN hn _ k (s_u k hk)
theorem r_J6_bitCount {n : Nat} (hn : n < 65536) : a_Ret G sJ6_bitCount_0f7a4 [.int (nI n)] μ (some (.int (nI (pop n)))) μ := by
  intro post hp
  refine w_J6_bitCount_0 _ ?_
  obtain ⟨h0, h1, h2, h3, h4, h5⟩ := sw_all hn
  have eA : nI n - (((nI n).toUInt32 >>> ((nI 1).toUInt32 &&& Int32.toUInt32 31)).toInt32 &&& nI 1431655765) = nI (swA n) := by
    rw [q_ush (by omega) (by omega), fa_and, q_sub h0]; rfl
  rw [eA]
  have eB : (nI (swA n) &&& nI 858993459) + (((nI (swA n)).toUInt32 >>> ((nI 2).toUInt32 &&& Int32.toUInt32 31)).toInt32 &&& nI 858993459) = nI (swB (swA n)) := by
    rw [q_ush (by omega) (by omega), fa_and, fa_and, nI_add]; rfl
  rw [eB]
  have eC : (nI (swB (swA n)) + ((nI (swB (swA n))).toUInt32 >>> ((nI 4).toUInt32 &&& Int32.toUInt32 31)).toInt32) &&& nI 252645135 = nI (swC (swB (swA n))) := by
    rw [q_ush (by omega) (by omega), nI_add, fa_and]; rfl
  rw [eC]
  have eD : nI (swC (swB (swA n))) + ((nI (swC (swB (swA n)))).toUInt32 >>> ((nI 8).toUInt32 &&& Int32.toUInt32 31)).toInt32 = nI (swD (swC (swB (swA n)))) := by
    rw [q_ush (by omega) (by omega), nI_add]; rfl
  rw [eD]
  have eE : (nI (swD (swC (swB (swA n)))) + ((nI (swD (swC (swB (swA n))))).toUInt32 >>> ((nI 16).toUInt32 &&& Int32.toUInt32 31)).toInt32) &&& nI 63 = nI (pop n) := by
    rw [q_ush (by omega) (by omega), nI_add, fa_and, ← h5]; rfl
  rw [eE]
  exact hp
def usedN (n : Nat → Nat) : Nat := orF (fun p => 2 ^ n p) 16
theorem usedN_lt {n : Nat → Nat} (h8 : ∀ p, p < 16 → n p < 8) : usedN n < 2 ^ 8 := orF_lt (fun i hi => Nat.pow_lt_pow_right (by decide) (h8 i hi))
theorem r_X2_usedNets {n : Nat → Nat} (hn : rp (μ.1 35) n 16) (h8 : ∀ p, p < 16 → n p < 8) : a_Ret G sX2_usedNets [.ref 6] μ (some (.int (nI (usedN n)))) μ := by
  intro post hp
  refine w_X2_usedNets_0 ?_
  refine a_for (fun i (x : Int32) => a_Runs G sX2_usedNets 4 [(0, .ref 6), (1, .int x), (2, .int (nI i))] [] μ post) (fun i x => x = nI (orF (fun p => 2 ^ n p) i)) 16 ?_ ?_ 0 (nI 0) (by omega) rfl
  · rintro x rfl
    exact w_X2_usedNets_4 _ _ ⟨fun _ => hp, fun h => absurd (by rw [q_le] <;> omega) h⟩
  · rintro i x hi rfl ih
    refine w_X2_usedNets_4 _ _ ⟨fun h => ?_, fun h => ?_⟩
    · rw [q_le (by omega) (by omega)] at h; omega
    · have := h8 i hi
      rw [q_in (by omega), q_cl (by omega), hn i hi, q_pow (by omega), fa_or, nI_add]
      exact ⟨hi, ih _ rfl⟩
theorem r_X7_nets {n : Nat → Nat} (hn : rp (μ.1 62) n 16) (h8 : ∀ p, p < 16 → n p < 8) : a_Ret G sX7_nets [.ref 36] μ (some (.int (nI (usedN n)))) μ := by
  intro post hp
  refine w_X7_nets_0 ?_
  refine a_for (fun i (x : Int32) => a_Runs G sX7_nets 4 [(0, .ref 36), (1, .int x), (2, .int (nI i))] [] μ post) (fun i x => x = nI (orF (fun p => 2 ^ n p) i)) 16 ?_ ?_ 0 (nI 0) (by omega) rfl
  · rintro x rfl
    exact w_X7_nets_4 _ _ ⟨fun _ => hp, fun h => absurd (by rw [q_le] <;> omega) h⟩
  · rintro i x hi rfl ih
    refine w_X7_nets_4 _ _ ⟨fun h => ?_, fun h => ?_⟩
    · rw [q_le (by omega) (by omega)] at h; omega
    · have := h8 i hi
      rw [q_in (by omega), q_cl (by omega), hn i hi, q_pow (by omega), fa_or, nI_add]
      exact ⟨hi, ih _ rfl⟩
/-- tests that part all nets in use -/
def unl (n : Nat → Nat) : Nat := orF (fun p => n p ^^^ n 0) 16
def tsts (n : Nat → Nat) : Nat := if unl n ≤ 3 then if unl n ≤ 1 then unl n else 2 else 3
theorem unl_lt {n : Nat → Nat} (h8 : ∀ p, p < 16 → n p < 8) : unl n < 2 ^ 3 := orF_lt (fun i hi => Nat.xor_lt_two_pow (h8 i hi) (h8 0 (by omega)))
theorem tsts_le (n : Nat → Nat) : tsts n ≤ 3 := by unfold tsts; split <;> (try split) <;> omega
theorem r_X7_testMany {n : Nat → Nat} (hn : rp (μ.1 62) n 16) (h8 : ∀ p, p < 16 → n p < 8) : a_Ret G sX7_testMany [.ref 36] μ (some (.int (nI (tsts n)))) μ := by
  intro post hp
  refine w_X7_testMany_0 ?_
  refine a_for (fun i (x : Int32) => a_Runs G sX7_testMany 4 [(0, .ref 36), (1, .int x), (2, .int (nI i))] [] μ post) (fun i x => x = nI (orF (fun p => n p ^^^ n 0) i)) 16 ?_ ?_ 0 (nI 0) (by omega) rfl
  · rintro x rfl
    have hu := unl_lt h8
    have e : orF (fun p => n p ^^^ n 0) 16 = unl n := rfl
    rw [e]
    refine w_X7_testMany_4 _ _ ⟨fun _ => ?_, fun h => absurd (by rw [q_le] <;> omega) h⟩
    rw [q_le (by omega) (by omega), q_le (by omega) (by omega)]
    unfold tsts at hp
    refine ⟨fun h => ⟨fun h2 => ?_, fun h2 => ?_⟩, fun h => ?_⟩
    · rw [if_pos h, if_pos h2] at hp; exact hp
    · rw [if_pos h, if_neg h2] at hp; exact hp
    · rw [if_neg h] at hp; exact hp
  · rintro i x hi rfl ih
    refine w_X7_testMany_4 _ _ ⟨fun h => ?_, fun h => ?_⟩
    · rw [q_le (by omega) (by omega)] at h; omega
    · rw [q_in (by omega), q_in (by omega), q_cl (by omega), q_cl (by omega), hn i hi, hn 0 (by omega), fb_xorI, fa_or, nI_add]
      exact ⟨hi, by omega, ih _ rfl⟩
theorem tsts_of : ∀ u, u < 8 → (if u ≤ 3 then if u ≤ 1 then u else 2 else 3) = (if u.testBit 2 then 3 else if u.testBit 1 then 2 else if u.testBit 0 then 1 else 0) := by decide +kernel
theorem r_X2_testsNeeded {n : Nat → Nat} (hn : rp (μ.1 35) n 16) (h8 : ∀ p, p < 16 → n p < 8) : a_Ret G sX2_testsNeeded [.ref 6] μ (some (.int (nI (tsts n)))) μ := by
  intro post hp
  refine w_X2_testsNeeded_0 ?_
  have hu := unl_lt h8
  have e0 : orF (fun p => n p ^^^ n 0) 1 = 0 := by simp [orF]
  refine a_for (fun i (x : Int32) => a_Runs G sX2_testsNeeded 4 [(0, .ref 6), (1, .int x), (2, .int (nI i))] [] μ post) (fun i x => x = nI (orF (fun p => n p ^^^ n 0) i)) 16 ?_ ?_ 1 (nI 0) (by omega) (by rw [e0])
  · rintro x rfl
    have e : orF (fun p => n p ^^^ n 0) 16 = unl n := rfl
    rw [e]
    refine w_X2_testsNeeded_4 _ _ ⟨fun _ => ?_, fun h => absurd (by rw [q_le] <;> omega) h⟩
    have hp2 : post (some (.int (nI (if (unl n).testBit 2 then 3 else if (unl n).testBit 1 then 2 else if (unl n).testBit 0 then 1 else 0)))) μ := by
      rw [← tsts_of _ hu]; exact hp
    have step : ∀ (i : Nat) (v : Nat), i < 3 → a_Runs G sX2_testsNeeded 36 [(1, .int (nI (unl n))), (2, .int (nI (if (unl n).testBit i then i + 1 else v))), (3, .int (nI (i + 1)))] [] μ post → a_Runs G sX2_testsNeeded 36 [(1, .int (nI (unl n))), (2, .int (nI v)), (3, .int (nI i))] [] μ post := by
      intro i v hi hr
      refine w_X2_testsNeeded_36 _ _ _ ⟨fun h => ?_, fun h => ?_⟩
      · rw [q_le (by omega) (by omega)] at h; omega
      · refine r_X6_has (by omega) (by omega) _ ⟨_, rfl, br_b (fun hb => ?_) (fun hb => ?_)⟩
        · rw [hb, if_neg (by decide)] at hr; rw [nI_add]; exact hr
        · rw [hb, if_pos rfl] at hr; rw [nI_add]; exact hr
    refine step 0 0 (by omega) (step 1 _ (by omega) (step 2 _ (by omega) ?_))
    exact w_X2_testsNeeded_36 _ _ _ ⟨fun _ => hp2, fun h => absurd (by rw [q_le] <;> omega) h⟩
  · rintro i x hi rfl ih
    refine w_X2_testsNeeded_4 _ _ ⟨fun h => ?_, fun h => ?_⟩
    · rw [q_le (by omega) (by omega)] at h; omega
    · rw [q_in (by omega), q_in (by omega), q_cl (by omega), q_cl (by omega), hn i hi, hn 0 (by omega), fb_xorI, fa_or, nI_add]
      exact ⟨hi, by omega, ih _ rfl⟩
end PINS
