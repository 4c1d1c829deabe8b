section PUT
variable {G : aG} {μ : aMem}
theorem r_X5_putThrough {w n : Nat} (hw : w < 20) (hn9 : n ≤ 9) {s : Nat → Nat} (hs : ∀ k, k < n → μ.1 25 k = nI (s k) ∧ s k < 16) (x4 : Int32) :
    a_Spec G sX5_putThrough [.ref 2, .int (nI w), .ref 25, .int (nI n), .int x4] μ (fun v ν => v = none ∧ ∃ c, ν = (va_up (va_up (va_up μ.1 20 c) 18 (upd (μ.1 18) w (nI (orF (fun k => 2 ^ s k) n)))) 19 (upd (μ.1 19) w x4), μ.2) ∧ (∀ k, k < n → c (9 * w + k) = nI (s k)) ∧ ∀ j, (j < 9 * w ∨ 9 * w + n ≤ j) → c j = μ.1 20 j) := by
  generalize hpo : (fun (v : Option Value) (ν : aMem) => v = none ∧ ∃ c, ν = (va_up (va_up (va_up μ.1 20 c) 18 (upd (μ.1 18) w (nI (orF (fun k => 2 ^ s k) n)))) 19 (upd (μ.1 19) w x4), μ.2) ∧ (∀ k, k < n → c (9 * w + k) = nI (s k)) ∧ ∀ j, (j < 9 * w ∨ 9 * w + n ≤ j) → c j = μ.1 20 j) = post
  have hpost : ∀ c : Nat → Int32, (∀ k, k < n → c (9 * w + k) = nI (s k)) → (∀ j, (j < 9 * w ∨ 9 * w + n ≤ j) → c j = μ.1 20 j) → post none (va_up (va_up (va_up μ.1 20 c) 18 (upd (μ.1 18) w (nI (orF (fun k => 2 ^ s k) n)))) 19 (upd (μ.1 19) w x4), μ.2) := fun c h h' => by rw [← hpo]; exact ⟨rfl, c, rfl, h, h'⟩
  refine w_X5_putThrough_0 _ _ _ ?_
  have main := a_for (fun i (c : Nat → Int32) => a_Runs G sX5_putThrough 6 [(0, .ref 2), (1, .int (nI w)), (2, .ref 25), (3, .int (nI n)), (4, .int x4), (5, .int (nI (orF (fun k => 2 ^ s k) i))), (6, .int (nI i))] [] (va_up μ.1 20 c, μ.2) post) (fun i c => (∀ k, k < i → c (9 * w + k) = nI (s k)) ∧ ∀ j, (j < 9 * w ∨ 9 * w + i ≤ j) → c j = μ.1 20 j) n ?_ ?_ 0 (μ.1 20) (by omega) ⟨fun k hk => by omega, fun _ _ => rfl⟩
  · rw [a_self μ 20]; exact main
  · rintro c ⟨h1, h2⟩
    refine w_X5_putThrough_6 _ _ _ _ _ ⟨fun _ => ?_, fun h => absurd (by rw [q_le] <;> omega) h⟩
    rw [q_in (by omega), q_cl (by omega)]
    exact ⟨hw, hw, hpost c h1 h2⟩
  · rintro i c hi ⟨h1, h2⟩ ih
    obtain ⟨hsi, hsl⟩ := hs i hi
    refine w_X5_putThrough_6 _ _ _ _ _ ⟨fun h => ?_, fun _ => ⟨fun h => ?_, fun _ => ?_⟩⟩
    · rw [q_le (by omega) (by omega)] at h; omega
    · rw [q_le (by omega) (by omega)] at h; omega
    rw [q_in (by omega), pk_mul, nI_add, nI_add, q_in (by omega), q_cl (by omega), q_cl (by omega)]
    have e25 : ((va_up μ.1 20 c, μ.2) : aMem).1 25 i = nI (s i) := hsi
    have e20 : ((va_up μ.1 20 c, μ.2) : aMem).1 20 = c := va_up_self μ.1 20 c
    rw [e25, e20, q_pow (by omega), fa_or, Nat.mul_comm w 9]
    refine ⟨by omega, by omega, by omega, ?_⟩
    show a_Runs G sX5_putThrough 6 _ [] (va_up (va_up μ.1 20 c) 20 (upd c (9 * w + i) (nI (s i))), μ.2) post
    rw [bx_uu]
    refine ih _ ⟨fun k hk => ?_, fun j hj => ?_⟩
    · by_cases ek : k = i
      · rw [ek, pk_us]
      · rw [pk_un (by omega)]; exact h1 k (by omega)
    · rw [pk_un (by omega)]; exact h2 j (by omega)
end PUT
