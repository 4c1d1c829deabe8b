/-! ===== plans: sets of orders, the best plan of a set by its first loom; pure ===== -/
def lw (S : Nat) : Nat := S &&& (256 - S)
def fo (S : Nat) : Nat := fa_first (fun i => S.testBit i) 8
def oth (S : Nat) : Nat := S ^^^ lw S
theorem lw_fo : ∀ S, S < 256 → S ≠ 0 → fo S < 8 ∧ lw S = 2 ^ fo S ∧ oth S < S ∧ oth S < 256 := by decide +kernel
theorem lw_i : ∀ S, S < 256 → nI S &&& -(nI S) = nI (lw S) := by decide +kernel
def bsq (o : Nat) : Nat → Nat
  | 0 => o
  | i + 1 => if bsq o i = 0 then o else (bsq o i - 1) &&& o
def blst (o : Nat) : Nat → Nat → List Nat
  | 0, _ => []
  | n + 1, b => b :: blst o n (if b = 0 then o else (b - 1) &&& o)
def covB (o : Nat) : Bool := (List.range 256).all (fun B => !(Nat.beq (B &&& o) B) || (blst o (2 ^ pop o) o).any (Nat.beq B))
theorem cov_all : ∀ o, o < 256 → covB o = true := by decide +kernel
theorem blst_in {o x : Nat} : ∀ {n k : Nat}, x ∈ blst o n (bsq o k) → ∃ i, i < n ∧ x = bsq o (k + i)
  | 0, k, h => by cases h
  | n + 1, k, h => by
    have h : x ∈ bsq o k :: blst o n (bsq o (k + 1)) := h
    rcases List.mem_cons.mp h with h | h
    · exact ⟨0, by omega, h⟩
    · obtain ⟨i, h1, h2⟩ := blst_in h
      exact ⟨i + 1, by omega, by rw [h2]; congr 1; omega⟩
theorem bs_cov {o B : Nat} (ho : o < 256) (hB : B &&& o = B) : ∃ i, i < 2 ^ pop o ∧ bsq o i = B := by
  have h := cov_all o ho
  unfold covB at h
  rw [List.all_eq_true] at h
  have hl : B < 256 := by have : B &&& o ≤ o := Nat.and_le_right
                          omega
  have q := h B (List.mem_range.mpr hl)
  rw [Bool.or_eq_true] at q
  rcases q with q | q
  · rw [hB] at q; simp at q
  · rw [List.any_eq_true] at q
    obtain ⟨x, x1, x2⟩ := q
    obtain ⟨i, i1, i2⟩ := blst_in (k := 0) x1
    rw [Nat.zero_add] at i2
    exact ⟨i, i1, by rw [← i2]; exact (Nat.eq_of_beq_eq_true x2).symm⟩
theorem bsq_sub (o : Nat) : ∀ i, bsq o i &&& o = bsq o i
  | 0 => Nat.and_self o
  | i + 1 => by
    show (if bsq o i = 0 then o else (bsq o i - 1) &&& o) &&& o = if bsq o i = 0 then o else (bsq o i - 1) &&& o
    split
    · exact Nat.and_self o
    · rw [Nat.and_assoc, Nat.and_self]
theorem pow8 {k : Nat} (h : k < 8) : 2 ^ k < 256 := Nat.lt_of_lt_of_le (Nat.pow_lt_pow_right (by decide) h) (by decide)
theorem xor8 {a b : Nat} (ha : a < 256) (hb : b < 256) : a ^^^ b < 256 := by
  have h := Nat.xor_lt_two_pow (n := 8) (x := a) (y := b) (by omega) (by omega)
  omega
theorem or8 {a b : Nat} (ha : a < 256) (hb : b < 256) : a ||| b < 256 := by
  have h := Nat.or_lt_two_pow (n := 8) (x := a) (y := b) (by omega) (by omega)
  omega
