/-! ===== numbers: the forms that the propositions have ===== -/
def bI (b : Bool) : Int32 := nI b.toNat
theorem bI_0 (b : Bool) : bI b = 0 ↔ b = false := by cases b <;> decide
theorem bI_n0 (b : Bool) : (¬ bI b = 0) ↔ b = true := by cases b <;> decide
theorem bI_01 (b : Bool) : bI b = 0 ∨ bI b = 1 := by cases b <;> decide
theorem nI_00 : nI 0 = 0 ∨ nI 0 = 1 := by decide
theorem nI_11 : nI 1 = 0 ∨ nI 1 = 1 := by decide
theorem q_le {a b : Nat} (ha : a < 2 ^ 31) (hb : b < 2 ^ 31) : (nI a ≤ nI b) = (a ≤ b) := propext (nI_leI ha hb)
theorem q_lt {a b : Nat} (ha : a < 2 ^ 31) (hb : b < 2 ^ 31) : (nI a < nI b) = (a < b) := propext (nI_ltI ha hb)
theorem q_eq {a b : Nat} (ha : a < 2 ^ 31) (hb : b < 2 ^ 31) : (nI a = nI b) = (a = b) := propext (nI_eq ha hb)
theorem q_e0 {a : Nat} (ha : a < 2 ^ 31) : (nI a = 0) = (a = 0) := by rw [← nI_0]; exact q_eq ha (by decide)
theorem q_le0 {a : Nat} (ha : a < 2 ^ 31) : (nI a ≤ 0) = (a = 0) := by
  rw [← nI_0, q_le ha (by decide)]; exact propext ⟨Nat.le_zero.mp, fun h => by omega⟩
theorem q_lt0 {a : Nat} (ha : a < 2 ^ 31) : (0 < nI a) = (0 < a) := by rw [← nI_0]; exact q_lt (by decide) ha
theorem q_n0 {a : Nat} (ha : a < 2 ^ 31) : (nI a < 0) = False := by rw [← nI_0, q_lt ha (by decide)]; exact propext ⟨fun h => by omega, False.elim⟩
theorem q_in {a n : Nat} (ha : a < 2 ^ 31) : vp_in (nI a) n = (a < n) := propext (by rw [vp_in_iff, nI_toInt ha]; omega)
theorem q_cl {a : Nat} (ha : a < 2 ^ 31) : (nI a).toNatClampNeg = a := nI_clamp ha
theorem q_sub {a b : Nat} (h : b ≤ a) : nI a - nI b = nI (a - b) := pk_sub h
theorem q_m1 {a : Nat} (h : 0 < a) : nI a + (-1) = nI (a - 1) := by obtain ⟨k, rfl⟩ : ∃ k, a = k + 1 := ⟨a - 1, by omega⟩; exact pk_m1 k
theorem q_shl {k : Nat} (a : Nat) (hk : k < 31) (h : a * 2 ^ k < 2 ^ 32) : nI a <<< (nI k &&& 31) = nI (a * 2 ^ k) := pk_shlN _ k (s_l k (by omega)) h
theorem q_pow {k : Nat} (hk : k < 31) : nI 1 <<< (nI k &&& 31) = nI (2 ^ k) := by
  rw [q_shl 1 hk (by rw [Nat.one_mul]; exact Nat.pow_lt_pow_right (by decide) (by omega)), Nat.one_mul]
theorem q_shr {a k : Nat} (ha : a < 2 ^ 31) (hk : k < 32) : nI a >>> (nI k &&& 31) = nI (a >>> k) := by
  rw [pk_shrN ha _ k (s_l k hk), Nat.shiftRight_eq_div_pow]
theorem q_bit {a k : Nat} (ha : a < 2 ^ 31) (hk : k < 32) : (nI a >>> (nI k &&& 31)) &&& nI 1 = bI (a.testBit k) := by
  rw [q_shr ha hk, fa_and]
  unfold bI
  congr 1
  rw [Nat.testBit_eq_decide_div_mod_eq, Nat.shiftRight_eq_div_pow, Nat.and_one_is_mod]
  rcases Nat.mod_two_eq_zero_or_one (a / 2 ^ k) with h | h <;> simp [h]
theorem bI_1 (b : Bool) : (bI b = nI 1) = (b = true) := by cases b <;> simp [bI] <;> decide
theorem bI_t : bI true = nI 1 := rfl
theorem bI_f : bI false = nI 0 := rfl
/-- a loop that counts up -/
theorem a_for {σ : Type} (W : Nat → σ → Prop) (I : Nat → σ → Prop) (e : Nat) (hx : ∀ s, I e s → W e s) (hs : ∀ i s, i < e → I i s → (∀ s', I (i + 1) s' → W (i + 1) s') → W i s) : ∀ i s, i ≤ e → I i s → W i s := by
  have key : ∀ n i s, i + n = e → I i s → W i s := by
    intro n
    induction n with
    | zero => intro i s h hI; have : i = e := by omega
              subst this; exact hx s hI
    | succ n ih => intro i s h hI; exact hs i s (by omega) hI (fun s' h' => ih (i + 1) s' (by omega) h')
  exact fun i s h hI => key (e - i) i s (by omega) hI
/-- what is the same but for some cells -/
def a_eqx (ks : List Nat) (μ ν : aMem) : Prop := ∀ k, k ∉ ks → ν.1 k = μ.1 k ∧ ν.2 k = μ.2 k
theorem a_eqx.rf (ks : List Nat) (μ : aMem) : a_eqx ks μ μ := fun _ _ => ⟨rfl, rfl⟩
theorem a_eqx.tr {ks js : List Nat} {μ ν ξ : aMem} (h : a_eqx ks μ ν) (h2 : a_eqx js ν ξ) : a_eqx (ks ++ js) μ ξ := fun k hk => by
  have h1 := h k (fun q => hk (List.mem_append_left _ q))
  have h3 := h2 k (fun q => hk (List.mem_append_right _ q))
  exact ⟨h3.1.trans h1.1, h3.2.trans h1.2⟩
theorem a_eqx.sub {ks js : List Nat} {μ ν : aMem} (h : a_eqx ks μ ν) (hs : ∀ k ∈ ks, k ∈ js) : a_eqx js μ ν := fun k hk => h k (fun q => hk (hs k q))
theorem a_eqx.up (μ : aMem) (k : Nat) (f : Nat → Int32) : a_eqx [k] μ (va_up μ.1 k f, μ.2) := fun j hj => ⟨va_up_ne _ _ (fun e => hj (by simp [e])), rfl⟩
theorem a_eqx.upl (μ : aMem) (k : Nat) (f : Nat → Int64) : a_eqx [k] μ (μ.1, va_up μ.2 k f) := fun j hj => ⟨rfl, va_up_ne _ _ (fun e => hj (by simp [e]))⟩
theorem a_Ret.sp {G : aG} {S : aMS} {as : List Value} {μ : aMem} {v : Option Value} {ν : aMem} (h : a_Ret G S as μ v ν) {post : aPost} (hp : post v ν) : a_Spec G S as μ post := h post hp
