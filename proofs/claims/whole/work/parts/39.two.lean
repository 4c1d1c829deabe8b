/-! ===== two ways: the least cost of a flow of 2 ===== -/
section LB
variable {X : aX} {c z : Nat → Int}
theorem fC_nn (hc : ∀ d, d < X 0 0 → 0 ≤ c d) (hz : zOK X z) : 0 ≤ fC X c z := by
  have h := sZ_le (f := fun _ => 0) (g := fun d => c d * (z d * z d)) (n := X 0 0) (fun d hd => by
    have := hc d hd
    show 0 ≤ c d * (z d * z d)
    rcases hz d hd with h | h | h <;> rw [h] <;> omega)
  rw [sZ_const] at h
  unfold fC; omega
theorem fC_le (hd : xD X) {B : Int} (hB : 0 ≤ B) (hc : ∀ d, d < X 0 0 → 0 ≤ c d ∧ c d ≤ B) (hz : zOK X z) : fC X c z ≤ 16 * B := by
  have h := sZ_le (g := fun _ => B) (f := fun d => c d * (z d * z d)) (n := X 0 0) (fun d hd => by
    have := hc d hd
    show c d * (z d * z d) ≤ B
    rcases hz d hd with h | h | h <;> rw [h] <;> omega)
  rw [sZ_const] at h
  have h16 : ((X 0 0 : Nat) : Int) * B ≤ 16 * B := Int.mul_le_mul_of_nonneg_right (by have := hd.1; omega) hB
  unfold fC; omega
theorem rsd_ok (hd : xD X) (hc : ∀ d, d < X 0 0 → 0 ≤ c d ∧ c d ≤ 4000) {e : Arc} (he : rsd X c z e) : e.1 < 10 ∧ e.2.1 < 10 ∧ -4000 ≤ e.2.2.1 ∧ e.2.2.1 ≤ 4000 := by
  obtain ⟨d, hdd, ⟨h1, rfl⟩ | ⟨h1, rfl⟩⟩ := he
  · have := hd.2 d hdd
    have := hc d hdd
    show X 1 d < 10 ∧ X 2 d < 10 ∧ -4000 ≤ rf c z d ∧ rf c z d ≤ 4000
    refine ⟨by omega, by omega, ?_⟩
    unfold rf; rw [if_neg h1]; split <;> omega
  · have := hd.2 d hdd
    have := hc d hdd
    show X 2 d < 10 ∧ X 1 d < 10 ∧ -4000 ≤ rb c z d ∧ rb c z d ≤ 4000
    refine ⟨by omega, by omega, ?_⟩
    unfold rb; rw [if_neg h1]; split <;> omega
theorem arcs_rsd (hc : ∀ d, d < X 0 0 → 0 ≤ c d ∧ c d ≤ 4000) (e : Arc) : e ∈ arcsD X (rf c z) (rb c z) (X 0 0) ↔ rsd X c z e := by
  have h1 : ∀ d, d < X 0 0 → (rf c z d ≠ BIG ↔ z d ≠ 1) := fun d hdd => by
    have := hc d hdd
    unfold rf BIG
    by_cases h : z d = 1
    · rw [if_pos h]; exact ⟨fun q => absurd rfl q, fun q => absurd h q⟩
    · rw [if_neg h]; refine ⟨fun _ => h, fun _ => ?_⟩
      split <;> omega
  have h2 : ∀ d, d < X 0 0 → (rb c z d ≠ BIG ↔ z d ≠ -1) := fun d hdd => by
    have := hc d hdd
    unfold rb BIG
    by_cases h : z d = -1
    · rw [if_pos h]; exact ⟨fun q => absurd rfl q, fun q => absurd h q⟩
    · rw [if_neg h]; refine ⟨fun _ => h, fun _ => ?_⟩
      split <;> omega
  rw [arcsD_in]
  constructor
  · rintro ⟨d, hdd, h⟩
    rcases arc2_in.mp h with ⟨a, b⟩ | ⟨a, b⟩
    · exact ⟨d, hdd, Or.inl ⟨(h1 d hdd).mp a, b⟩⟩
    · exact ⟨d, hdd, Or.inr ⟨(h2 d hdd).mp a, b⟩⟩
  · rintro ⟨d, hdd, ⟨a, b⟩ | ⟨a, b⟩⟩
    · exact ⟨d, hdd, arc2_in.mpr (Or.inl ⟨(h1 d hdd).mpr a, b⟩)⟩
    · exact ⟨d, hdd, arc2_in.mpr (Or.inr ⟨(h2 d hdd).mpr a, b⟩)⟩
theorem lower2 (hd : xD X) (hc : ∀ d, d < X 0 0 → 0 ≤ c d ∧ c d ≤ 4000) {k : Int} (hk : k = 0 ∨ k = 1) {s t : Nat} (hz : flw X z k s t) {as : List Arc} (has : ∀ e, e ∈ as ↔ rsd X c z e) {π0 : Nat → Int} (hπ0 : potO X c z π0) (h0 : ∀ v, 0 ≤ π0 v) (ht : t < 10) {m : Nat} (hm : 9 ≤ m) (hm2 : m ≤ 100) {y : Nat → Int} (hy : flw X y 2 s t) :
    rnds as m (lab0 t) s ≠ BIG ∧ (k = 1 → fC X c z + rnds as m (lab0 t) s ≤ fC X c y) := by
  have hA : arcOK as := fun e he => rsd_ok hd hc ((has e).mp he)
  have hπ : ∀ e ∈ as, π0 e.1 ≤ e.2.2.1 + π0 e.2.1 := fun e he => hπ0 e ((has e).mp he)
  have hfix := bf_fix hA hπ ht hm hm2
  have hgoal := bf_goal hA hπ ht m hm2
  have hbd := bf_bound hA hπ ht m
  generalize hT : rnds as m (lab0 t) = T at *
  have hB : BIG = 1000000 := rfl
  have hpot : potO X c z (fun v => if T v = BIG then π0 v + 100000 else T v) := by
    intro e he
    have q := rsd_ok hd hc he
    have he' := (has e).mpr he
    have f := hfix e he'
    have g := hπ0 e he
    have b1 := hbd e.1
    have b2 := hbd e.2.1
    have n1 := h0 e.2.1
    show (if T e.1 = BIG then π0 e.1 + 100000 else T e.1) ≤ e.2.2.1 + (if T e.2.1 = BIG then π0 e.2.1 + 100000 else T e.2.1)
    by_cases u : T e.2.1 = BIG
    · rw [if_pos u]
      by_cases v : T e.1 = BIG
      · rw [if_pos v]; omega
      · rw [if_neg v]; omega
    · rw [if_neg u, if_neg (by have := f u; omega)]
      exact f u
  have w := weak hz.1 hy.1 (fun d hdd => (hc d hdd).1) hpot
  rw [hz.2, hy.2] at w
  have l1 := fC_nn (fun d hdd => (hc d hdd).1) hz.1
  have l2 := fC_le hd (B := 4000) (by decide) hc hy.1
  have gt : (if T t = BIG then π0 t + 100000 else T t) = 0 := by rw [hgoal]; exact if_neg (by rw [hB]; decide)
  have w : 2 * ((if T s = BIG then π0 s + 100000 else T s) - (if T t = BIG then π0 t + 100000 else T t)) + fC X c z ≤ k * ((if T s = BIG then π0 s + 100000 else T s) - (if T t = BIG then π0 t + 100000 else T t)) + fC X c y := w
  rw [gt] at w
  have n2 := h0 s
  refine ⟨fun hs => ?_, fun k1 => ?_⟩
  · rw [if_pos hs] at w
    rcases hk with rfl | rfl <;> omega
  · by_cases hs : T s = BIG
    · rw [if_pos hs] at w
      rcases hk with rfl | rfl <;> omega
    · rw [if_neg hs, k1] at w; omega
end LB
def lenZ (X : aX) (d : Nat) : Int := (X 3 d : Int)
def c32 (X : aX) (d : Nat) : Int := 32 * (X 3 d : Int) + 1
def is2 (X : aX) (a b : Nat) (r : Int32) : Prop := (r = -9 ∧ ∀ y, ¬ flw X y 2 a b) ∨ ∃ y, flw X y 2 a b ∧ r = nI (fC X (lenZ X) y).toNat ∧ ∀ y', flw X y' 2 a b → fC X (lenZ X) y ≤ fC X (lenZ X) y'
theorem is2_u {X : aX} {a b : Nat} {r r' : Int32} (h : is2 X a b r) (h' : is2 X a b r') : r = r' := by
  rcases h with ⟨h1, h2⟩ | ⟨y, h1, h2, h3⟩ <;> rcases h' with ⟨g1, g2⟩ | ⟨y', g1, g2, g3⟩
  · rw [h1, g1]
  · exact absurd g1 (h2 _)
  · exact absurd h1 (g2 _)
  · have := h3 y' g1
    have := g3 y h1
    rw [h2, g2]; congr 2; omega
/-- the same flow, gone the other way -/
theorem flw_neg {X : aX} {z : Nat → Int} {k : Int} {s t : Nat} (h : flw X z k s t) : flw X (fun d => - z d) k t s := by
  refine ⟨fun d hd => by have := h.1 d hd; show - z d = -1 ∨ - z d = 0 ∨ - z d = 1; omega, fun π => ?_⟩
  have h1 := h.2 (fun v => - π v)
  have e : fS X (fun d => - z d) π = fS X z (fun v => - π v) := sZ_cong (fun d _ => by
    show - z d * (π (X 1 d) - π (X 2 d)) = z d * (- π (X 1 d) - - π (X 2 d))
    rw [Int.neg_mul, ← Int.mul_neg]; congr 1; omega)
  rw [e, h1]; congr 1; show - π s - - π t = π t - π s; omega
theorem fC_neg {X : aX} {c z : Nat → Int} : fC X c (fun d => - z d) = fC X c z := sZ_cong (fun d _ => by
  show c d * (- z d * - z d) = _
  rw [Int.neg_mul_neg])
theorem is2_neg {X : aX} {a b : Nat} {r : Int32} (h : is2 X a b r) : is2 X b a r := by
  rcases h with ⟨h1, h2⟩ | ⟨y, h1, h2, h3⟩
  · exact Or.inl ⟨h1, fun y hy => h2 _ (flw_neg hy)⟩
  · refine Or.inr ⟨_, flw_neg h1, by rw [fC_neg]; exact h2, fun y' hy' => ?_⟩
    have := h3 _ (flw_neg hy')
    rw [fC_neg] at this ⊢; exact this
/-- prices 32 l + 1: the length is the price by 32 -/
theorem fC_32 {X : aX} (hd : xD X) {z : Nat → Int} (hz : zOK X z) : ∃ n : Int, 0 ≤ n ∧ n ≤ 16 ∧ fC X (c32 X) z = 32 * fC X (lenZ X) z + n := by
  refine ⟨fC X (fun _ => 1) z, fC_nn (fun _ _ => by decide) hz, by have := fC_le hd (c := fun _ => 1) (B := 1) (by decide) (fun _ _ => by decide) hz; omega, ?_⟩
  unfold fC
  rw [← sZ_mul, ← sZ_add]
  refine sZ_cong (fun d _ => ?_)
  show c32 X d * (z d * z d) = 32 * (lenZ X d * (z d * z d)) + 1 * (z d * z d)
  unfold c32 lenZ
  rw [Int.add_mul, Int.mul_assoc]
-- the class's two ways
def tT (X : aX) (b : Nat) : Nat → Int := labO X (fun _ => true) b
def tV (X : aX) (a b i : Nat) : Nat := vtx X (prO X (fun _ => true)) (prO X (fun _ => true)) (tT X b) a i
def tS (X : aX) (a b i : Nat) : Nat := stp X (prO X (fun _ => true)) (prO X (fun _ => true)) (tT X b) a i
def tN (X : aX) (a b : Nat) : Nat := (tT X b a % 32).toNat
def tZ (X : aX) (a b : Nat) : Nat → (Nat → Int)
  | 0 => fun _ => 0
  | i + 1 => upZ (tZ X a b i) (tS X a b i) (if X 1 (tS X a b i) = tV X a b i then 1 else -1)
def tU (X : aX) (a b : Nat) : Nat → Int := rnds (arcsD X (rf (c32 X) (tZ X a b (tN X a b))) (rb (c32 X) (tZ X a b (tN X a b))) (X 0 0)) 9 (lab0 b)
def twoV (X : aX) (a b : Nat) : Int32 := if tT X b a = BIG then -9 else if tU X a b a = BIG then -9 else nI ((tT X b a + tU X a b a) / 32).toNat
def aTwo (X : aX) (x1 x2 : Int32) : Int32 := if inB x1 (nI 0) (nI 9) && inB x2 (nI 0) (nI 9) then if x1 = x2 then -3 else twoV X x1.toNatClampNeg x2.toNatClampNeg else -1
section TWO
variable {X : aX}
theorem c32_bd (hd : xD X) : ∀ d, d < X 0 0 → 0 ≤ c32 X d ∧ c32 X d ≤ 4000 := fun d hdd => by have := hd.2 d hdd; unfold c32; omega
theorem lenZ_bd (hd : xD X) : ∀ d, d < X 0 0 → 0 ≤ lenZ X d ∧ lenZ X d ≤ 4000 := fun d hdd => by have := hd.2 d hdd; unfold lenZ; omega
theorem flw_0 (s t : Nat) : flw X (fun _ => 0) 0 s t := ⟨fun _ _ => Or.inr (Or.inl rfl), fun π => by
  have e : fS X (fun _ => 0) π = sZ (fun _ => 0) (X 0 0) := sZ_cong (fun d _ => Int.zero_mul _)
  rw [e, sZ_const]; omega⟩
theorem fC_0 (c : Nat → Int) : fC X c (fun _ => 0) = 0 := by
  have e : fC X c (fun _ => 0) = sZ (fun _ => 0) (X 0 0) := sZ_cong (fun d _ => by show c d * (0 * 0) = 0; omega)
  rw [e, sZ_const]; omega
theorem tT_form (hd : xD X) {b : Nat} (hb : b < 10) : ∀ u, tT X b u = BIG ∨ (0 ≤ tT X b u ∧ tT X b u ≤ 36000 ∧ tT X b u % 32 ≤ 9) := bf_form hd (bfI_rnds (π := fun _ => 0) (asO_ok hd _) (asO_pot hd _) hb 9)
theorem tT_pot (hd : xD X) {b : Nat} (hb : b < 10) : potO X (c32 X) (fun _ => 0) (tT X b) := by
  intro e he
  have hin : e ∈ asO X (fun _ => true) := by
    obtain ⟨d, hdd, ⟨_, rfl⟩ | ⟨_, rfl⟩⟩ := he
    · exact (asO_in hd).mpr ⟨d, hdd, rfl, Or.inl rfl⟩
    · exact (asO_in hd).mpr ⟨d, hdd, rfl, Or.inr rfl⟩
  have hp := asO_pos hd e hin
  have f := bf_fix (π := fun _ => 0) (asO_ok hd _) (asO_pot hd _) hb (Nat.le_refl 9) (by decide) e hin
  have f : tT X b e.2.1 ≠ BIG → tT X b e.1 ≤ e.2.2.1 + tT X b e.2.1 := f
  have b1 := tT_form hd hb e.1
  have hB : BIG = 1000000 := rfl
  by_cases h : tT X b e.2.1 = BIG
  · omega
  · exact f h
theorem tT_goal (hd : xD X) {b : Nat} (hb : b < 10) : tT X b b = 0 := bf_goal (π := fun _ => 0) (asO_ok hd _) (asO_pot hd _) hb 9 (by decide)
theorem two_path (hd : xD X) {a b : Nat} (hb : b < 10) (hne : tT X b a ≠ BIG) : tN X a b ≤ 9 ∧ tV X a b (tN X a b) = b ∧ (∀ i, i < tN X a b → tV X a b i ≠ b ∧ tT X b (tV X a b i) ≠ BIG) :=
  ⟨(path_all hd hb (tN X a b) a hne rfl).1, (path_all hd hb (tN X a b) a hne rfl).2.1, (path_all hd hb (tN X a b) a hne rfl).2.2.1⟩
theorem two_dist (hd : xD X) {a b : Nat} (hb : b < 10) (hne : tT X b a ≠ BIG) : (∀ i, i < tN X a b → tS X a b i < X 0 0) ∧ ∀ i j, i < j → j < tN X a b → tS X a b i ≠ tS X a b j := path_dist hd hb (two_path hd hb hne).2.2
theorem tZ_all (hd : xD X) {a b : Nat} (hb : b < 10) (hne : tT X b a ≠ BIG) : ∀ i, i ≤ tN X a b → zOK X (tZ X a b i) ∧ (∀ π, fS X (tZ X a b i) π = π a - π (tV X a b i)) ∧ fC X (c32 X) (tZ X a b i) = tT X b a - tT X b (tV X a b i) ∧ potO X (c32 X) (tZ X a b i) (tT X b) ∧ ∀ j, i ≤ j → j < tN X a b → tZ X a b i (tS X a b j) = 0 := by
  obtain ⟨p1, p2, p3⟩ := two_path hd hb hne
  obtain ⟨l1, l2⟩ := two_dist hd hb hne
  intro i
  induction i with
  | zero =>
    intro _
    refine ⟨(flw_0 (X := X) 0 0).1, fun π => ?_, ?_, tT_pot hd hb, fun _ _ _ => rfl⟩
    · show fS X (fun _ => 0) π = π a - π a
      rw [(flw_0 (X := X) a a).2]; omega
    · show fC X _ (fun _ => 0) = tT X b a - tT X b a
      rw [fC_0]; omega
  | succ i ih =>
    intro hi
    obtain ⟨h1, h2, h3, h4, h5⟩ := ih (by omega)
    obtain ⟨q1, q2⟩ := p3 i (by omega)
    obtain ⟨s1, s2, s3, s4⟩ := path_step hd (op := fun _ => true) hb q1 q2
    have z0 := h5 i (Nat.le_refl i) (by omega)
    have hv : tV X a b (i + 1) = acr X (tS X a b i) (tV X a b i) := rfl
    have s1 : tS X a b i < X 0 0 := s1
    have s2 : X 1 (tS X a b i) = tV X a b i ∨ X 2 (tS X a b i) = tV X a b i := s2
    have s4 : tT X b (tV X a b i) = c32 X (tS X a b i) + tT X b (acr X (tS X a b i) (tV X a b i)) := s4
    have hr : rsd X (c32 X) (tZ X a b i) (tV X a b i, tV X a b (i + 1), c32 X (tS X a b i), tS X a b i) := by
      refine ⟨tS X a b i, s1, ?_⟩
      by_cases h : X 1 (tS X a b i) = tV X a b i
      · refine Or.inl ⟨by rw [z0]; decide, ?_⟩
        have e1 : tV X a b (i + 1) = X 2 (tS X a b i) := by rw [hv]; unfold acr; rw [if_pos h]
        have e2 : rf (c32 X) (tZ X a b i) (tS X a b i) = c32 X (tS X a b i) := by unfold rf; rw [z0]; simp
        rw [e1, e2, h]
      · refine Or.inr ⟨by rw [z0]; decide, ?_⟩
        have e1 : tV X a b (i + 1) = X 1 (tS X a b i) := by rw [hv]; unfold acr; rw [if_neg h]
        have e2 : rb (c32 X) (tZ X a b i) (tS X a b i) = c32 X (tS X a b i) := by unfold rb; rw [z0]; simp
        rw [e1, e2, s2.resolve_left h]
    have ez : tZ X a b (i + 1) = aug1 X (tZ X a b i) (tV X a b i, tV X a b (i + 1), c32 X (tS X a b i), tS X a b i) := by
      show upZ _ _ _ = upZ _ _ _
      show upZ (tZ X a b i) (tS X a b i) _ = upZ (tZ X a b i) (tS X a b i) (tZ X a b i (tS X a b i) + (if X 1 (tS X a b i) = tV X a b i then 1 else -1))
      rw [z0]; congr 1; omega
    obtain ⟨u1, u2, u3⟩ := push hd h1 hr
    have u4 := pot_aug1 hd h1 (fun d hdd => (c32_bd hd d hdd).1) h4 hr (by show tT X b (tV X a b i) = c32 X (tS X a b i) + tT X b (tV X a b (i + 1)); rw [hv]; exact s4)
    rw [← ez] at u1 u2 u3 u4
    refine ⟨u1, fun π => ?_, ?_, u4, fun j hj hjn => ?_⟩
    · rw [u2, h2]; show π a - π (tV X a b i) + (π (tV X a b i) - π (tV X a b (i + 1))) = _; omega
    · rw [u3, h3]; show tT X b a - tT X b (tV X a b i) + c32 X (tS X a b i) = _; rw [hv]; omega
    · show upZ _ _ _ (tS X a b j) = 0
      rw [upZ_n _ _ (l2 i j (by omega) hjn).symm]
      exact h5 j (by omega) hjn
theorem tZ_flw (hd : xD X) {a b : Nat} (hb : b < 10) (hne : tT X b a ≠ BIG) : flw X (tZ X a b (tN X a b)) 1 a b ∧ fC X (c32 X) (tZ X a b (tN X a b)) = tT X b a ∧ potO X (c32 X) (tZ X a b (tN X a b)) (tT X b) := by
  obtain ⟨h1, h2, h3, h4, -⟩ := tZ_all hd hb hne _ (Nat.le_refl _)
  have p2 := (two_path hd hb hne).2.1
  rw [p2] at h2 h3
  rw [tT_goal hd hb] at h3
  exact ⟨⟨h1, fun π => by rw [h2]; omega⟩, by omega, h4⟩
theorem tT_nn (hd : xD X) {b : Nat} (hb : b < 10) (v : Nat) : 0 ≤ tT X b v := by
  rcases tT_form hd hb v with h | h
  · rw [h]; decide
  · exact h.1
theorem two_C (hd : xD X) {a b : Nat} (ha : a < 10) (hb : b < 10) : is2 X a b (twoV X a b) ∧ (tT X b a ≠ BIG → tU X a b a ≠ BIG → 0 ≤ tT X b a + tU X a b a) := by
  have hc := c32_bd hd
  unfold twoV
  by_cases h1 : tT X b a = BIG
  · rw [if_pos h1]
    refine ⟨Or.inl ⟨rfl, fun y hy => ?_⟩, fun h => absurd h1 h⟩
    have has : ∀ e, e ∈ asO X (fun _ => true) ↔ rsd X (c32 X) (fun _ => 0) e := fun e => by
      rw [asO_in hd]
      constructor
      · rintro ⟨d, hdd, -, rfl | rfl⟩
        · exact ⟨d, hdd, Or.inl ⟨by show (0 : Int) ≠ 1; decide, rfl⟩⟩
        · exact ⟨d, hdd, Or.inr ⟨by show (0 : Int) ≠ -1; decide, rfl⟩⟩
      · rintro ⟨d, hdd, ⟨_, rfl⟩ | ⟨_, rfl⟩⟩
        · exact ⟨d, hdd, rfl, Or.inl rfl⟩
        · exact ⟨d, hdd, rfl, Or.inr rfl⟩
    exact (lower2 hd hc (Or.inl rfl) (flw_0 a b) has (tT_pot hd hb) (tT_nn hd hb) hb (Nat.le_refl 9) (by decide) hy).1 h1
  · rw [if_neg h1]
    obtain ⟨z1, z2, z3⟩ := tZ_flw hd hb h1
    have has := arcs_rsd (X := X) (c := c32 X) (z := tZ X a b (tN X a b)) hc
    have hA : arcOK (arcsD X (rf (c32 X) (tZ X a b (tN X a b))) (rb (c32 X) (tZ X a b (tN X a b))) (X 0 0)) := fun e he => rsd_ok hd hc ((has e).mp he)
    have hπ : ∀ e ∈ arcsD X (rf (c32 X) (tZ X a b (tN X a b))) (rb (c32 X) (tZ X a b (tN X a b))) (X 0 0), tT X b e.1 ≤ e.2.2.1 + tT X b e.2.1 := fun e he => z3 e ((has e).mp he)
    by_cases h2 : tU X a b a = BIG
    · rw [if_pos h2]
      exact ⟨Or.inl ⟨rfl, fun y hy => (lower2 hd hc (Or.inr rfl) z1 has z3 (tT_nn hd hb) hb (Nat.le_refl 9) (by decide) hy).1 h2⟩, fun _ h => absurd h2 h⟩
    · rw [if_neg h2]
      obtain ⟨-, es, w1, w2, w3, -⟩ := ((bfI_rnds hA hπ hb 9) a).2 h2
      have w2 : cst es = tU X a b a := w2
      have hin : ∀ e ∈ es, rsd X (c32 X) (tZ X a b (tN X a b)) e := fun e he => (has e).mp (wk_vs w1 e he).2.2
      obtain ⟨y1, y2, y3⟩ := aug_ok hd z1.1 hin (simple_ducts hd (fun e he => (has e).mp he) w1 w3) w1
      have hy : flw X (aug X (tZ X a b (tN X a b)) es) 2 a b := ⟨y1, fun π => by rw [y2, z1.2]; omega⟩
      obtain ⟨n, n1, n2, n3⟩ := fC_32 hd y1
      have l0 := fC_nn (fun d hdd => (lenZ_bd hd d hdd).1) y1
      rw [z2, w2] at y3
      refine ⟨Or.inr ⟨_, hy, by congr 2; omega, fun y' hy' => ?_⟩, fun _ _ => by omega⟩
      obtain ⟨n', m1, m2, m3⟩ := fC_32 hd hy'.1
      have lo := (lower2 hd hc (Or.inr rfl) z1 has z3 (tT_nn hd hb) hb (Nat.le_refl 9) (by decide) hy').2 rfl
      have lo : fC X (c32 X) (tZ X a b (tN X a b)) + tU X a b a ≤ fC X (c32 X) y' := lo
      omega
end TWO
