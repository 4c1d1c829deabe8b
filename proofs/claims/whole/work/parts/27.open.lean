/-! ===== prices of open ducts; the class's open and leastLength ===== -/
def prO (X : aX) (op : Nat → Bool) (d : Nat) : Int := if op d then 32 * (X 3 d : Int) + 1 else BIG
def asO (X : aX) (op : Nat → Bool) : List Arc := arcsD X (prO X op) (prO X op) (X 0 0)
def labO (X : aX) (op : Nat → Bool) (g : Nat) : Nat → Int := rnds (asO X op) 9 (lab0 g)
theorem prO_bd {X : aX} (hd : xD X) (op : Nat → Bool) {d : Nat} (h : d < X 0 0) : prO X op d = BIG ∨ (33 ≤ prO X op d ∧ prO X op d ≤ 3169) := by
  have := hd.2 d h
  unfold prO
  split
  · right; omega
  · left; rfl
theorem prO_n {X : aX} (hd : xD X) {op : Nat → Bool} {d : Nat} (h : d < X 0 0) : prO X op d ≠ BIG ↔ op d = true := by
  have := hd.2 d h
  unfold prO
  cases op d with
  | true => simp; unfold BIG; omega
  | false => simp
theorem asO_in {X : aX} (hd : xD X) {op : Nat → Bool} {e : Arc} : e ∈ asO X op ↔ ∃ d, d < X 0 0 ∧ op d = true ∧ (e = (X 1 d, X 2 d, 32 * (X 3 d : Int) + 1, d) ∨ e = (X 2 d, X 1 d, 32 * (X 3 d : Int) + 1, d)) := by
  unfold asO
  rw [arcsD_in]
  constructor
  · rintro ⟨k, hk, h⟩
    rcases arc2_in.mp h with ⟨h1, h2⟩ | ⟨h1, h2⟩
    · have ho := (prO_n hd hk).mp h1
      have e1 : prO X op k = 32 * (X 3 k : Int) + 1 := by unfold prO; rw [ho, if_pos rfl]
      rw [e1] at h2
      exact ⟨k, hk, ho, Or.inl h2⟩
    · have ho := (prO_n hd hk).mp h1
      have e1 : prO X op k = 32 * (X 3 k : Int) + 1 := by unfold prO; rw [ho, if_pos rfl]
      rw [e1] at h2
      exact ⟨k, hk, ho, Or.inr h2⟩
  · rintro ⟨k, hk, ho, h⟩
    have e1 : prO X op k = 32 * (X 3 k : Int) + 1 := by unfold prO; rw [ho, if_pos rfl]
    refine ⟨k, hk, arc2_in.mpr ?_⟩
    rw [e1]
    have hne : 32 * (X 3 k : Int) + 1 ≠ BIG := by rw [← e1]; exact (prO_n hd hk).mpr ho
    rcases h with h | h
    · exact Or.inl ⟨hne, h⟩
    · exact Or.inr ⟨hne, h⟩
theorem asO_ok {X : aX} (hd : xD X) (op : Nat → Bool) : arcOK (asO X op) := by
  intro e he
  obtain ⟨d, h1, h2, h3⟩ := (asO_in hd).mp he
  have := hd.2 d h1
  rcases h3 with rfl | rfl
  · exact ⟨this.1, this.2.1, by show (-4000 : Int) ≤ 32 * (X 3 d : Int) + 1; omega, by show 32 * (X 3 d : Int) + 1 ≤ 4000; omega⟩
  · exact ⟨this.2.1, this.1, by show (-4000 : Int) ≤ 32 * (X 3 d : Int) + 1; omega, by show 32 * (X 3 d : Int) + 1 ≤ 4000; omega⟩
theorem asO_pos {X : aX} (hd : xD X) {op : Nat → Bool} : ∀ e ∈ asO X op, (33 : Int) ≤ e.2.2.1 := by
  intro e he
  obtain ⟨d, h1, h2, h3⟩ := (asO_in hd).mp he
  have := hd.2 d h1
  rcases h3 with rfl | rfl <;> (show (33 : Int) ≤ 32 * (X 3 d : Int) + 1; omega)
theorem asO_pot {X : aX} (hd : xD X) (op : Nat → Bool) : ∀ e ∈ asO X op, (fun _ => (0 : Int)) e.1 ≤ e.2.2.1 + (fun _ => (0 : Int)) e.2.1 := by
  intro e he
  have := asO_pos hd e he
  show (0 : Int) ≤ e.2.2.1 + 0
  omega
/-- a price tells lengths first and then ducts -/
theorem cst_form {X : aX} (hd : xD X) {op : Nat → Bool} : ∀ {es : List Arc} {p g : Nat}, wk (asO X op) p es g → cst es = 32 * ((es.map fun e => (X 3 e.2.2.2 : Int)).sum) + es.length ∧ 0 ≤ (es.map fun e => (X 3 e.2.2.2 : Int)).sum
  | [], p, g, h => by simp [cst]
  | e :: es, p, g, h => by
    have h1 := cst_form hd h.2.2
    obtain ⟨d, q1, q2, q3⟩ := (asO_in hd).mp h.1
    have hc : e.2.2.1 = 32 * (X 3 e.2.2.2 : Int) + 1 := by rcases q3 with rfl | rfl <;> rfl
    have e1 : cst (e :: es) = e.2.2.1 + cst es := rfl
    rw [e1, hc, List.map_cons, List.sum_cons, List.length_cons]
    omega
theorem bf_form {X : aX} (hd : xD X) {op : Nat → Bool} {g : Nat} {T : Nat → Int} (h : bfI (asO X op) g T) (v : Nat) : T v = BIG ∨ (0 ≤ T v ∧ T v ≤ 36000 ∧ T v % 32 ≤ 9) := by
  by_cases hne : T v = BIG
  · exact Or.inl hne
  · obtain ⟨hq, es, h1, h2, h3, h4⟩ := (h v).2 hne
    have hlen := simple_len (asO_ok hd op) hq h1 h3
    have hb := cst_le (asO_ok hd op) h1
    have hf := cst_form hd h1
    right; omega
theorem va_up4 {α : Type} (f : Nat → α) {a b : Nat} (x y x' y' : α) : va_up (va_up (va_up (va_up f a x) b y) a x') b y' = va_up (va_up f a x') b y' := by
  funext j
  unfold va_up
  by_cases h1 : j = b <;> by_cases h2 : j = a <;> simp [h1, h2]
section OPEN
variable {G : aG} {μ : aMem} {X : aX}
theorem r_X3_open (hd : xD X) (hcd : cD μ X) {s : Nat} (hs : s < 2 ^ 31) : a_Spec G sX3_open [.ref 3, .int (nI s)] μ (fun v ν => v = none ∧ ∃ c c', ν = (va_up (va_up μ.1 22 c) 23 c', μ.2) ∧ rZ c (prO X (fun d => s.testBit d)) (X 0 0) ∧ rZ c' (prO X (fun d => s.testBit d)) (X 0 0)) := by
  have hn := hd.1
  obtain ⟨c0, -, -, -, c4, -, -⟩ := hcd
  refine w_X3_open_0 _ ?_
  have e0 : μ = (va_up (va_up μ.1 22 (μ.1 22)) 23 (μ.1 23), μ.2) := by rw [a_self1 μ.1 22, a_self1 μ.1 23]
  generalize hpo : (fun (v : Option Value) (ν : aMem) => v = none ∧ ∃ c c', ν = (va_up (va_up μ.1 22 c) 23 c', μ.2) ∧ rZ c (prO X (fun d => s.testBit d)) (X 0 0) ∧ rZ c' (prO X (fun d => s.testBit d)) (X 0 0)) = post
  have hpost : ∀ c c', rZ c (prO X (fun d => s.testBit d)) (X 0 0) → rZ c' (prO X (fun d => s.testBit d)) (X 0 0) → post none (va_up (va_up μ.1 22 c) 23 c', μ.2) := fun c c' h h' => by rw [← hpo]; exact ⟨rfl, c, c', rfl, h, h'⟩
  have main := a_for (fun i (z : (Nat → Int32) × (Nat → Int32)) => a_Runs G sX3_open 2 [(0, .ref 3), (1, .int (nI s)), (2, .int (nI i))] [] (va_up (va_up μ.1 22 z.1) 23 z.2, μ.2) post) (fun i z => rZ z.1 (prO X (fun d => s.testBit d)) i ∧ rZ z.2 (prO X (fun d => s.testBit d)) i) (X 0 0) ?_ ?_ 0 (μ.1 22, μ.1 23) (by omega) ⟨fun i hi => by omega, fun i hi => by omega⟩
  · rw [e0]; exact main
  · rintro ⟨c, c'⟩ ⟨h1, h2⟩
    exact w_X3_open_2 _ _ ⟨fun _ => hpost c c' h1 h2, fun h => absurd (show μ.1 1 0 ≤ nI (X 0 0) by rw [c0, q_le] <;> omega) h⟩
  · rintro i ⟨c, c'⟩ hi ⟨h1, h2⟩ ih
    have h1 : rZ c (prO X (fun d => s.testBit d)) i := h1
    have h2 : rZ c' (prO X (fun d => s.testBit d)) i := h2
    have hdi := hd.2 i hi
    refine w_X3_open_2 _ _ ⟨fun h => ?_, fun _ => ?_⟩
    · have h : μ.1 1 0 ≤ nI i := h
      rw [c0, q_le (by omega) (by omega)] at h; omega
    have fin : ∀ z : Int32, z.toInt = prO X (fun d => s.testBit d) i → a_Runs G sX3_open 2 [(0, .ref 3), (1, .int (nI s)), (2, .int (nI (i + 1)))] [] (va_up (va_up (va_up (va_up μ.1 22 c) 23 c') 22 (upd c i z)) 23 (upd c' i z), μ.2) post := by
      intro z hz
      rw [va_up4]
      refine ih (upd c i z, upd c' i z) ⟨?_, ?_⟩ <;>
      · intro j hj
        show (upd _ i z j).toInt = _
        by_cases ej : j = i
        · rw [ej, pk_us, hz]
        · rw [pk_un ej]; first | exact h1 j (by omega) | exact h2 j (by omega)
    refine r_X6_has hs (by omega) _ ⟨_, rfl, ?_⟩
    rw [q_in (by omega), q_cl (by omega), nI_add]
    refine br_b (fun hb => ⟨by omega, by omega, fin _ ?_⟩) (fun hb => ⟨by omega, by omega, by omega, ?_⟩)
    · show (nI 1000000).toInt = if s.testBit i then 32 * (X 3 i : Int) + 1 else BIG
      rw [hb, if_neg (by decide)]; decide
    · have e10 : ((va_up (va_up μ.1 22 c) 23 c', μ.2) : aMem).1 10 = μ.1 10 := rfl
      rw [e10, c4 i hi, pk_mul, nI_add]
      refine fin _ ?_
      show _ = if s.testBit i then 32 * (X 3 i : Int) + 1 else BIG
      rw [hb, if_pos rfl, z_nI (by omega)]
      omega
theorem r_X3_leastLength (hd : xD X) (hcd : cD μ X) {op : Nat → Bool} (hpf : rZ (μ.1 22) (prO X op) (X 0 0)) (hpb : rZ (μ.1 23) (prO X op) (X 0 0)) {a g : Nat} (ha : a < 10) (hg : g < 10) :
    a_Spec G sX3_leastLength [.ref 3, .int (nI a), .int (nI g)] μ (fun v ν => v = some (.int (if labO X op g a = BIG then -9 else nI (labO X op g a / 32).toNat)) ∧ ∃ c, ν = (va_up μ.1 24 c, μ.2) ∧ rZ c (labO X op g) 10) := by
  have hA := asO_ok hd op
  have hπ := asO_pot hd op
  refine w_X3_leastLength_0 _ _ ((r_X3_spread (π := fun _ => 0) hd hcd hpf hpb (fun k hk => by rcases prO_bd hd op hk with h | h; exact Or.inl h; right; omega) (fun k hk => by rcases prO_bd hd op hk with h | h; exact Or.inl h; right; omega) hA hπ hg).mono ?_)
  rintro v ν ⟨rfl, c, rfl, hc⟩
  have hc : rZ c (labO X op g) 10 := hc
  have hform := bf_form hd (bfI_rnds (π := fun _ => 0) hA hπ hg 9) a
  have hform : labO X op g a = BIG ∨ (0 ≤ labO X op g a ∧ labO X op g a ≤ 36000 ∧ labO X op g a % 32 ≤ 9) := hform
  have hca := hc a ha
  rw [q_in (by omega), q_cl (by omega)]
  refine ⟨rfl, ha, ?_⟩
  show (¬ (va_up μ.1 24 c) 24 a = nI 1000000 → _ ∧ _ ∧ _ ∧ _) ∧ ((va_up μ.1 24 c) 24 a = nI 1000000 → _)
  rw [va_up_self, z_eqI (c a) (nI 1000000), hca, show (nI 1000000).toInt = BIG by decide]
  refine ⟨fun h => ⟨ha, by decide, ?_, c, rfl, hc⟩, fun h => ⟨by rw [if_pos h], c, rfl, hc⟩⟩
  rw [if_neg h]
  show some (Value.int ((va_up μ.1 24 c) 24 a / nI 32)) = _
  rw [va_up_self]
  obtain ⟨n, hn⟩ : ∃ n : Nat, labO X op g a = n := ⟨(labO X op g a).toNat, by omega⟩
  have e1 : c a = nI n := by rw [← Int32.toInt_inj, hca, z_nI (by omega)]; exact hn
  rw [e1, pk_div (by omega) (by decide) (by decide), hn]
  rfl
end OPEN
