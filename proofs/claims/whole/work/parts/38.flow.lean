/-! ===== flows of 0, 1, -1 in each duct; what is left over; weak duality ===== -/
def sZ (f : Nat → Int) : Nat → Int
  | 0 => 0
  | n + 1 => sZ f n + f n
theorem sZ_cong {f g : Nat → Int} : ∀ {n : Nat}, (∀ i, i < n → f i = g i) → sZ f n = sZ g n
  | 0, _ => rfl
  | n + 1, h => by show sZ f n + f n = sZ g n + g n; rw [sZ_cong (fun i hi => h i (by omega)), h n (by omega)]
theorem sZ_add (f g : Nat → Int) : ∀ n, sZ (fun i => f i + g i) n = sZ f n + sZ g n
  | 0 => rfl
  | n + 1 => by show sZ (fun i => f i + g i) n + (f n + g n) = sZ f n + f n + (sZ g n + g n); rw [sZ_add f g n]; omega
theorem sZ_le {f g : Nat → Int} : ∀ {n : Nat}, (∀ i, i < n → f i ≤ g i) → sZ f n ≤ sZ g n
  | 0, _ => Int.le_refl _
  | n + 1, h => by
    show sZ f n + f n ≤ sZ g n + g n
    have := sZ_le (n := n) (fun i hi => h i (by omega))
    have := h n (by omega)
    omega
theorem sZ_up {f g : Nat → Int} {k : Nat} : ∀ {n : Nat}, k < n → (∀ i, i < n → i ≠ k → g i = f i) → sZ g n = sZ f n + (g k - f k)
  | 0, h, _ => by omega
  | n + 1, h, hg => by
    show sZ g n + g n = sZ f n + f n + (g k - f k)
    by_cases e : k = n
    · subst e
      rw [sZ_cong (f := g) (g := f) (fun i hi => hg i (by omega) (by omega))]; omega
    · rw [sZ_up (n := n) (by omega) (fun i hi hk => hg i (by omega) hk), hg n (by omega) (by omega)]; omega
theorem sZ_mul (c : Int) (f : Nat → Int) : ∀ n, sZ (fun i => c * f i) n = c * sZ f n
  | 0 => by simp [sZ]
  | n + 1 => by show sZ (fun i => c * f i) n + c * f n = c * (sZ f n + f n); rw [sZ_mul c f n, Int.mul_add]
theorem sZ_const (c : Int) : ∀ n : Nat, sZ (fun _ => c) n = n * c
  | 0 => by simp [sZ]
  | n + 1 => by show sZ (fun _ => c) n + c = _; rw [sZ_const c n, Int.natCast_add, Int.add_mul]; simp
def zOK (X : aX) (z : Nat → Int) : Prop := ∀ d, d < X 0 0 → z d = -1 ∨ z d = 0 ∨ z d = 1
def fS (X : aX) (z π : Nat → Int) : Int := sZ (fun d => z d * (π (X 1 d) - π (X 2 d))) (X 0 0)
def flw (X : aX) (z : Nat → Int) (k : Int) (s t : Nat) : Prop := zOK X z ∧ ∀ π, fS X z π = k * (π s - π t)
def fC (X : aX) (c z : Nat → Int) : Int := sZ (fun d => c d * (z d * z d)) (X 0 0)
def rf (c z : Nat → Int) (d : Nat) : Int := if z d = 1 then BIG else if z d = -1 then - c d else c d
def rb (c z : Nat → Int) (d : Nat) : Int := if z d = -1 then BIG else if z d = 1 then - c d else c d
def rsd (X : aX) (c z : Nat → Int) (e : Arc) : Prop := ∃ d, d < X 0 0 ∧ ((z d ≠ 1 ∧ e = (X 1 d, X 2 d, rf c z d, d)) ∨ (z d ≠ -1 ∧ e = (X 2 d, X 1 d, rb c z d, d)))
def dlt (X : aX) (e : Arc) : Int := if X 1 e.2.2.2 = e.1 then 1 else -1
def aug1 (X : aX) (z : Nat → Int) (e : Arc) : Nat → Int := upZ z e.2.2.2 (z e.2.2.2 + dlt X e)
def aug (X : aX) : (Nat → Int) → List Arc → (Nat → Int)
  | z, [] => z
  | z, e :: es => aug X (aug1 X z e) es
def potO (X : aX) (c z π : Nat → Int) : Prop := ∀ e, rsd X c z e → π e.1 ≤ e.2.2.1 + π e.2.1
section FLOW
variable {X : aX} {c z y π : Nat → Int}
theorem weak (hz : zOK X z) (hy : zOK X y) (hc : ∀ d, d < X 0 0 → 0 ≤ c d) (hπ : potO X c z π) : fS X y π + fC X c z ≤ fS X z π + fC X c y := by
  unfold fS fC
  rw [← sZ_add, ← sZ_add]
  refine sZ_le (fun d hd => ?_)
  have hcd := hc d hd
  have hF : z d ≠ 1 → π (X 1 d) ≤ rf c z d + π (X 2 d) := fun h => hπ _ ⟨d, hd, Or.inl ⟨h, rfl⟩⟩
  have hB : z d ≠ -1 → π (X 2 d) ≤ rb c z d + π (X 1 d) := fun h => hπ _ ⟨d, hd, Or.inr ⟨h, rfl⟩⟩
  unfold rf at hF
  unfold rb at hB
  show y d * (π (X 1 d) - π (X 2 d)) + c d * (z d * z d) ≤ z d * (π (X 1 d) - π (X 2 d)) + c d * (y d * y d)
  rcases hz d hd with h | h | h <;> rcases hy d hd with h' | h' | h' <;> rw [h, h'] <;> rw [h] at hF hB <;> simp at hF hB <;> omega
theorem aug1_s {e : Arc} : aug1 X z e e.2.2.2 = z e.2.2.2 + dlt X e := upZ_s _ _ _
theorem aug1_n {e : Arc} {d : Nat} (h : d ≠ e.2.2.2) : aug1 X z e d = z d := upZ_n _ _ h
/-- what an arc does to its duct -/
theorem rsd_v (hd : xD X) {e : Arc} (he : rsd X c z e) : e.2.2.2 < X 0 0 ∧ ((z e.2.2.2 ≠ 1 ∧ dlt X e = 1 ∧ e.1 = X 1 e.2.2.2 ∧ e.2.1 = X 2 e.2.2.2 ∧ e.2.2.1 = rf c z e.2.2.2) ∨ (z e.2.2.2 ≠ -1 ∧ dlt X e = -1 ∧ e.1 = X 2 e.2.2.2 ∧ e.2.1 = X 1 e.2.2.2 ∧ e.2.2.1 = rb c z e.2.2.2)) := by
  obtain ⟨d, hdd, ⟨h1, rfl⟩ | ⟨h1, rfl⟩⟩ := he
  · exact ⟨hdd, Or.inl ⟨h1, if_pos rfl, rfl, rfl, rfl⟩⟩
  · exact ⟨hdd, Or.inr ⟨h1, if_neg (hd.2 d hdd).2.2.1, rfl, rfl, rfl⟩⟩
theorem push (hd : xD X) (hz : zOK X z) {e : Arc} (he : rsd X c z e) : zOK X (aug1 X z e) ∧ (∀ π, fS X (aug1 X z e) π = fS X z π + (π e.1 - π e.2.1)) ∧ fC X c (aug1 X z e) = fC X c z + e.2.2.1 := by
  obtain ⟨h0, h1⟩ := rsd_v hd he
  refine ⟨fun d hdd => ?_, fun π => ?_, ?_⟩
  · by_cases ed : d = e.2.2.2
    · rw [ed, aug1_s]
      have := hz _ h0
      omega
    · rw [aug1_n ed]; exact hz d hdd
  · unfold fS
    rw [sZ_up (f := fun d => z d * (π (X 1 d) - π (X 2 d))) (g := fun d => aug1 X z e d * (π (X 1 d) - π (X 2 d))) h0 (fun i hi hk => by show aug1 X z e i * _ = _; rw [aug1_n hk])]
    show _ + (aug1 X z e e.2.2.2 * _ - _) = _
    rw [aug1_s]
    rcases h1 with ⟨_, a, b, b', _⟩ | ⟨_, a, b, b', _⟩ <;> rw [a, b, b']
    · rw [Int.add_mul]; omega
    · rw [Int.add_mul]; omega
  · unfold fC
    rw [sZ_up (f := fun d => c d * (z d * z d)) (g := fun d => c d * (aug1 X z e d * aug1 X z e d)) h0 (fun i hi hk => by show c i * (aug1 X z e i * aug1 X z e i) = _; rw [aug1_n hk])]
    show _ + (c e.2.2.2 * (aug1 X z e e.2.2.2 * aug1 X z e e.2.2.2) - _) = _
    rw [aug1_s]
    have hv := hz _ h0
    unfold rf rb at h1
    rcases h1 with ⟨n, a, _, _, p⟩ | ⟨n, a, _, _, p⟩ <;> rw [a, p] <;> rcases hv with h | h | h <;> rw [h] at n ⊢ <;> simp at n ⊢ <;> omega
theorem rsd_cg {z' : Nat → Int} {e : Arc} (h : z' e.2.2.2 = z e.2.2.2) (he : rsd X c z e) : rsd X c z' e := by
  obtain ⟨d, hdd, ⟨h1, rfl⟩ | ⟨h1, rfl⟩⟩ := he
  · have h : z' d = z d := h
    exact ⟨d, hdd, Or.inl ⟨by rw [h]; exact h1, by unfold rf; rw [h]⟩⟩
  · have h : z' d = z d := h
    exact ⟨d, hdd, Or.inr ⟨by rw [h]; exact h1, by unfold rb; rw [h]⟩⟩
theorem pot_aug1 (hd : xD X) (hz : zOK X z) (hc : ∀ d, d < X 0 0 → 0 ≤ c d) (hπ : potO X c z π) {e : Arc} (he : rsd X c z e) (ht : π e.1 = e.2.2.1 + π e.2.1) : potO X c (aug1 X z e) π := by
  intro e' he'
  obtain ⟨h0, h1⟩ := rsd_v hd he
  obtain ⟨h0', h1'⟩ := rsd_v hd he'
  by_cases ed : e'.2.2.2 = e.2.2.2
  · have hv := hz _ h0
    have hcd := hc _ h0
    unfold rf rb at h1 h1'
    rw [ed] at h1'
    rw [aug1_s] at h1'
    rcases h1 with ⟨n, a, b, b', p⟩ | ⟨n, a, b, b', p⟩ <;> rcases h1' with ⟨q1, q2, q3, q4, q5⟩ | ⟨q1, q2, q3, q4, q5⟩ <;> rw [b, b', p] at ht <;> rw [q3, q4] <;> rcases hv with h | h | h <;> rw [h] at n ht <;> rw [h, a] at q1 q5 <;> simp at n ht q1 q5 <;> omega
  · exact hπ e' (rsd_cg (aug1_n ed).symm he')
/-- a row of arcs that uses no duct twice -/
theorem aug_ok (hd : xD X) {as : List Arc} : ∀ {es : List Arc} {z : Nat → Int} {p g : Nat}, zOK X z → (∀ e ∈ es, rsd X c z e) → es.Pairwise (fun a b => b.2.2.2 ≠ a.2.2.2) → wk as p es g →
    zOK X (aug X z es) ∧ (∀ π, fS X (aug X z es) π = fS X z π + (π p - π g)) ∧ fC X c (aug X z es) = fC X c z + cst es := by
  intro es
  induction es with
  | nil =>
    intro z p g hz _ _ hw
    have : p = g := hw
    subst this
    exact ⟨hz, fun π => by show fS X z π = _; omega, by show fC X c z = fC X c z + 0; omega⟩
  | cons e es ih =>
    intro z p g hz hr hp hw
    obtain ⟨p1, p2⟩ := List.pairwise_cons.mp hp
    obtain ⟨w1, w2, w3⟩ := hw
    obtain ⟨a1, a2, a3⟩ := push hd hz (hr e List.mem_cons_self)
    obtain ⟨b1, b2, b3⟩ := ih (z := aug1 X z e) a1 (fun e' he' => rsd_cg (aug1_n (p1 e' he')) (hr e' (List.mem_cons_of_mem _ he'))) p2 w3
    refine ⟨b1, fun π => ?_, ?_⟩
    · show fS X (aug X (aug1 X z e) es) π = _
      rw [b2, a2, w2]; omega
    · show fC X c (aug X (aug1 X z e) es) = _ + (e.2.2.1 + cst es)
      rw [b3, a3]; omega
theorem pot_aug (hd : xD X) (hc : ∀ d, d < X 0 0 → 0 ≤ c d) : ∀ {es : List Arc} {z : Nat → Int}, zOK X z → potO X c z π → (∀ e ∈ es, rsd X c z e) → es.Pairwise (fun a b => b.2.2.2 ≠ a.2.2.2) → (∀ e ∈ es, π e.1 = e.2.2.1 + π e.2.1) → potO X c (aug X z es) π := by
  intro es
  induction es with
  | nil => intro z _ h _ _ _; exact h
  | cons e es ih =>
    intro z hz hπ hr hp ht
    obtain ⟨p1, p2⟩ := List.pairwise_cons.mp hp
    exact ih (push hd hz (hr e List.mem_cons_self)).1 (pot_aug1 hd hz hc hπ (hr e List.mem_cons_self) (ht e List.mem_cons_self)) (fun e' he' => rsd_cg (aug1_n (p1 e' he')) (hr e' (List.mem_cons_of_mem _ he'))) p2 (fun e' he' => ht e' (List.mem_cons_of_mem _ he'))
theorem wk_vs {as : List Arc} : ∀ {es : List Arc} {p g : Nat}, wk as p es g → ∀ e ∈ es, e.1 ∈ vs p es ∧ e.2.1 ∈ vs p es ∧ e ∈ as := by
  intro es
  induction es with
  | nil => intro p g _ e he; cases he
  | cons a es ih =>
    intro p g hw e he
    obtain ⟨w1, w2, w3⟩ := hw
    rcases List.mem_cons.mp he with rfl | he
    · refine ⟨?_, ?_, w1⟩
      · rw [w2]; exact vs_head _ _
      · exact List.mem_cons_of_mem _ (vs_head _ _)
    · obtain ⟨q1, q2, q3⟩ := ih w3 e he
      exact ⟨List.mem_cons_of_mem _ q1, List.mem_cons_of_mem _ q2, q3⟩
theorem simple_ducts (hd : xD X) {as : List Arc} (ha : ∀ e ∈ as, rsd X c z e) : ∀ {es : List Arc} {p g : Nat}, wk as p es g → (vs p es).Nodup → es.Pairwise (fun a b => b.2.2.2 ≠ a.2.2.2) := by
  intro es
  induction es with
  | nil => intro p g _ _; exact List.Pairwise.nil
  | cons e es ih =>
    intro p g hw hn
    obtain ⟨w1, w2, w3⟩ := hw
    have hn : (p :: vs e.2.1 es).Nodup := hn
    obtain ⟨n1, n2⟩ := List.nodup_cons.mp hn
    refine List.pairwise_cons.mpr ⟨fun e' he' hc => ?_, ih w3 n2⟩
    obtain ⟨q1, q2, q3⟩ := wk_vs w3 e' he'
    obtain ⟨_, r1⟩ := rsd_v hd (ha e w1)
    obtain ⟨_, r2⟩ := rsd_v hd (ha e' q3)
    rw [hc] at r2
    have : e'.1 = p ∨ e'.2.1 = p := by omega
    rcases this with h | h
    · rw [h] at q1; exact n1 q1
    · rw [h] at q2; exact n1 q2
end FLOW
