/-! ===== the reference's labels: lengths, and ducts beside them ===== -/
def farZ (T : Nat → Int) (v : Nat) : Int := if T v = BIG then BIG else T v / 32
def byZ (T : Nat → Int) (v : Nat) : Int := if T v = BIG then BIG else T v % 32
def aFar (X : aX) (x1 x2 : Int32) : Int32 := if inB x1 (nI 0) (nI 9) && inB x2 (nI 0) (nI 9) then if x1 = x2 then -3 else if labO X (fun _ => true) x2.toNatClampNeg x1.toNatClampNeg = BIG then -9 else nI (labO X (fun _ => true) x2.toNatClampNeg x1.toNatClampNeg / 32).toNat else -1
section MEASURE
variable {G : aG} {μ : aMem} {X : aX}
theorem r_X7_better {T : Nat → Int} (hf : rZ (μ.1 50) (farZ T) 10) (hb : rZ (μ.1 51) (byZ T) 10) (hbd : ∀ v, T v = BIG ∨ (0 ≤ T v ∧ T v ≤ 36000 ∧ T v % 32 ≤ 9)) {p q l : Nat} (hp : p < 10) (hq : q < 10) (hl : 1 ≤ l ∧ l ≤ 99) (d : Nat) :
    a_Spec G sX7_better [.ref 36, .int (nI p), .int (nI q), .int (nI l)] μ (fun v ν => v = none ∧ ∃ c c', ν = (va_up (va_up μ.1 50 c) 51 c', μ.2) ∧ rZ c (farZ (relax T (p, q, 32 * (l : Int) + 1, d))) 10 ∧ rZ c' (byZ (relax T (p, q, 32 * (l : Int) + 1, d))) 10) := by
  have e0 : μ = (va_up (va_up μ.1 50 (μ.1 50)) 51 (μ.1 51), μ.2) := by rw [a_self1 μ.1 50, a_self1 μ.1 51]
  have fp := hf p hp
  have fq := hf q hq
  have bp := hb p hp
  have bq := hb q hq
  have dp := hbd p
  have dq := hbd q
  have hfq : farZ T q = BIG ∨ (0 ≤ farZ T q ∧ farZ T q ≤ 1125) := by
    unfold farZ; rcases dq with h | h
    · rw [if_pos h]; left; rfl
    · rw [if_neg (by unfold BIG; omega)]; right; omega
  have hbq : byZ T q = BIG ∨ (0 ≤ byZ T q ∧ byZ T q ≤ 9) := by
    unfold byZ; rcases dq with h | h
    · rw [if_pos h]; left; rfl
    · rw [if_neg (by unfold BIG; omega)]; right; omega
  have s1 : (μ.1 50 q + nI l).toInt = farZ T q + l := by rw [fb_addI] <;> rw [fq, z_nI (by omega)] <;> unfold BIG at * <;> omega
  have s2 : (μ.1 51 q + nI 1).toInt = byZ T q + 1 := by rw [fb_addI] <;> rw [bq, z_nI (by omega)] <;> unfold BIG at * <;> omega
  have fb_rel : relax T (p, q, 32 * (l : Int) + 1, d) = if farZ T q + l < farZ T p ∨ (farZ T q + l = farZ T p ∧ byZ T q + 1 < byZ T p) then upZ T p (32 * (l : Int) + 1 + T q) else T := by
    unfold relax
    show (if T q = BIG then T else if 32 * (l : Int) + 1 + T q < T p then upZ T p (32 * (l : Int) + 1 + T q) else T) = _
    unfold farZ byZ
    by_cases h1 : T q = BIG
    · rw [if_pos h1, if_pos h1, if_pos h1, if_neg]
      rcases dp with h | h
      · rw [if_pos h, if_pos h]; omega
      · rw [if_neg (by unfold BIG; omega), if_neg (by unfold BIG; omega)]; unfold BIG; omega
    · rw [if_neg h1, if_neg h1, if_neg h1]
      have dq : 0 ≤ T q ∧ T q ≤ 36000 ∧ T q % 32 ≤ 9 := dq.resolve_left h1
      rcases dp with h | h
      · rw [if_pos h, if_pos h, h, if_pos (by unfold BIG; omega), if_pos (by left; unfold BIG; omega)]
      · have hpn : T p ≠ BIG := by unfold BIG; omega
        rw [if_neg hpn, if_neg hpn]
        by_cases h2 : 32 * (l : Int) + 1 + T q < T p
        · rw [if_pos h2, if_pos (by omega)]
        · rw [if_neg h2, if_neg (by omega)]
  have upd_ok : (farZ T q + l < farZ T p ∨ (farZ T q + l = farZ T p ∧ byZ T q + 1 < byZ T p)) → rZ (upd (μ.1 50) p (μ.1 50 q + nI l)) (farZ (relax T (p, q, 32 * (l : Int) + 1, d))) 10 ∧ rZ (upd (μ.1 51) p (μ.1 51 q + nI 1)) (byZ (relax T (p, q, 32 * (l : Int) + 1, d))) 10 := by
    intro hc
    rw [fb_rel, if_pos hc]
    have hqn : T q ≠ BIG := by
      intro h1
      have e1 : farZ T q = BIG := by unfold farZ; rw [if_pos h1]
      have e2 : farZ T p ≤ BIG := by unfold farZ; rcases dp with h | h; rw [if_pos h]; exact Int.le_refl _; rw [if_neg (by unfold BIG; omega)]; unfold BIG; omega
      omega
    have dq : 0 ≤ T q ∧ T q ≤ 36000 ∧ T q % 32 ≤ 9 := dq.resolve_left hqn
    have hnew : 32 * (l : Int) + 1 + T q ≠ BIG := by unfold BIG; omega
    have e1 : farZ T q = T q / 32 := by unfold farZ; rw [if_neg hqn]
    have e2 : byZ T q = T q % 32 := by unfold byZ; rw [if_neg hqn]
    constructor
    · intro i hi
      by_cases ei : i = p
      · rw [ei, pk_us, s1]; unfold farZ; rw [upZ_s, if_neg hnew, if_neg hqn]; omega
      · rw [pk_un ei]; unfold farZ; rw [upZ_n _ _ ei]; exact hf i hi
    · intro i hi
      by_cases ei : i = p
      · rw [ei, pk_us, s2]; unfold byZ; rw [upZ_s, if_neg hnew, if_neg hqn]; omega
      · rw [pk_un ei]; unfold byZ; rw [upZ_n _ _ ei]; exact hb i hi
  refine w_X7_better_0 _ _ _ ?_
  rw [q_in (by omega), q_in (by omega), q_cl (by omega), q_cl (by omega), z_ltI (μ.1 50 q + nI l) (μ.1 50 p), z_eqI (μ.1 50 q + nI l) (μ.1 50 p), z_leI (μ.1 51 p) (μ.1 51 q + nI 1), s1, s2, fp, bp]
  have keep : ¬ (farZ T q + l < farZ T p ∨ (farZ T q + l = farZ T p ∧ byZ T q + 1 < byZ T p)) → ((none : Option Value) = none ∧ ∃ c c', μ = (va_up (va_up μ.1 50 c) 51 c', μ.2) ∧ rZ c (farZ (relax T (p, q, 32 * (l : Int) + 1, d))) 10 ∧ rZ c' (byZ (relax T (p, q, 32 * (l : Int) + 1, d))) 10) := fun hc => by
    rw [fb_rel, if_neg hc]; exact ⟨rfl, _, _, e0, hf, hb⟩
  refine ⟨hq, hp, fun h => ⟨hp, hq, hp, rfl, _, _, rfl, upd_ok (Or.inl h)⟩, fun h => ⟨hp, fun h2 => keep (by omega), fun h2 => ⟨hq, hp, fun h3 => keep (by omega), fun h3 => ⟨hp, hq, hp, rfl, _, _, rfl, upd_ok (Or.inr ⟨h2, by omega⟩)⟩⟩⟩⟩
end MEASURE
