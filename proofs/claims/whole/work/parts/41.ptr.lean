/-! ===== labels with a pointer at each place: the pointers lead to the goal; pure ===== -/
def pInv (as : List Arc) (g : Nat) (T : Nat → Int) (c : Nat → Int32) : Prop := ∀ v, T v ≠ BIG → ∃ es, wk as v es g ∧ ∀ e ∈ es, c e.1 = nI e.2.2.2 ∧ e.2.2.1 + T e.2.1 ≤ T e.1 ∧ T e.2.1 ≠ BIG
section PTR
variable {as : List Arc} {g : Nat} {π : Nat → Int}
theorem ptr_mono (hπ : ∀ e ∈ as, π e.1 ≤ e.2.2.1 + π e.2.1) {T : Nat → Int} : ∀ {es : List Arc} {p : Nat}, wk as p es g → (∀ e ∈ es, e.2.2.1 + T e.2.1 ≤ T e.1) → ∀ y ∈ vs p es, T y - π y ≤ T p - π p := by
  intro es
  induction es with
  | nil =>
    intro p _ _ y hy
    have : y = p := by simpa [vs] using hy
    subst this; exact Int.le_refl _
  | cons e es ih =>
    intro p hw hp y hy
    obtain ⟨w1, w2, w3⟩ := hw
    have hy : y ∈ p :: vs e.2.1 es := hy
    rcases List.mem_cons.mp hy with rfl | hy
    · exact Int.le_refl _
    · have h1 := ih w3 (fun e' he' => hp e' (List.mem_cons_of_mem _ he')) y hy
      have h2 := hp e List.mem_cons_self
      have h3 := hπ e w1
      rw [w2] at h2 h3
      omega
theorem pInv_0 {c : Nat → Int32} : pInv as g (lab0 g) c := by
  intro v hv
  unfold lab0 at hv
  by_cases h : v = g
  · exact ⟨[], h, fun e he => by cases he⟩
  · rw [if_neg h] at hv; exact absurd rfl hv
theorem pInv_relax (hπ : ∀ e ∈ as, π e.1 ≤ e.2.2.1 + π e.2.1) {T : Nat → Int} {c : Nat → Int32} (hle : ∀ v, T v ≤ BIG) (h : pInv as g T c) {e : Arc} (he : e ∈ as) (h1 : T e.2.1 ≠ BIG) (h2 : e.2.2.1 + T e.2.1 < T e.1) : pInv as g (upZ T e.1 (e.2.2.1 + T e.2.1)) (upd c e.1 (nI e.2.2.2)) := by
  obtain ⟨eu, w1, w2⟩ := h e.2.1 h1
  have hno : ∀ y ∈ vs e.2.1 eu, y ≠ e.1 := fun y hy hc => by
    have q := ptr_mono hπ w1 (fun e he => (w2 e he).2.1) y hy
    have := hπ e he
    rw [hc] at q
    omega
  have hle' : ∀ v, upZ T e.1 (e.2.2.1 + T e.2.1) v ≤ T v := fun v => by
    unfold upZ; split
    · rename_i q; rw [q]; omega
    · exact Int.le_refl _
  have new : wk as e.1 (e :: eu) g ∧ ∀ a ∈ e :: eu, upd c e.1 (nI e.2.2.2) a.1 = nI a.2.2.2 ∧ a.2.2.1 + upZ T e.1 (e.2.2.1 + T e.2.1) a.2.1 ≤ upZ T e.1 (e.2.2.1 + T e.2.1) a.1 ∧ upZ T e.1 (e.2.2.1 + T e.2.1) a.2.1 ≠ BIG := by
    refine ⟨⟨he, rfl, w1⟩, fun a ha => ?_⟩
    rcases List.mem_cons.mp ha with rfl | ha
    · rw [pk_us, upZ_s, upZ_n _ _ (hno _ (vs_head _ _))]
      exact ⟨rfl, Int.le_refl _, h1⟩
    · obtain ⟨v1, v2, _⟩ := wk_vs w1 a ha
      rw [pk_un (hno _ v1), upZ_n _ _ (hno _ v1), upZ_n _ _ (hno _ v2)]
      exact w2 a ha
  have move : ∀ (es : List Arc) (x : Nat), wk as x es g → (∀ a ∈ es, c a.1 = nI a.2.2.2 ∧ a.2.2.1 + T a.2.1 ≤ T a.1 ∧ T a.2.1 ≠ BIG) → ∃ es', wk as x es' g ∧ ∀ a ∈ es', upd c e.1 (nI e.2.2.2) a.1 = nI a.2.2.2 ∧ a.2.2.1 + upZ T e.1 (e.2.2.1 + T e.2.1) a.2.1 ≤ upZ T e.1 (e.2.2.1 + T e.2.1) a.1 ∧ upZ T e.1 (e.2.2.1 + T e.2.1) a.2.1 ≠ BIG := by
    intro es
    induction es with
    | nil => intro x hw _; exact ⟨[], hw, fun a ha => by cases ha⟩
    | cons a es ih =>
      intro x hw hp
      obtain ⟨a1, a2, a3⟩ := hw
      by_cases hx : x = e.1
      · rw [hx]; exact ⟨_, new⟩
      · obtain ⟨es', b1, b2⟩ := ih _ a3 (fun q hq => hp q (List.mem_cons_of_mem _ hq))
        refine ⟨a :: es', ⟨a1, a2, b1⟩, fun q hq => ?_⟩
        rcases List.mem_cons.mp hq with rfl | hq
        · obtain ⟨c1, c2, c3⟩ := hp q List.mem_cons_self
          have hx : q.1 ≠ e.1 := by rw [a2]; exact hx
          rw [pk_un hx, upZ_n T (k := e.1) (i := q.1) _ hx]
          have l1 := hle' q.2.1
          have l2 := hle q.2.1
          exact ⟨c1, by omega, by omega⟩
        · exact b2 q hq
  intro v hv
  by_cases hx : v = e.1
  · rw [hx]; exact ⟨_, new⟩
  · rw [upZ_n _ _ hx] at hv
    obtain ⟨es, b1, b2⟩ := h v hv
    exact move es v b1 b2
theorem wk_end : ∀ {es : List Arc} {p : Nat}, wk as p es g → g ∈ vs p es
  | [], p, h => by have h : p = g := h
                   subst h; exact vs_head _ _
  | e :: es, p, h => List.mem_cons_of_mem _ (wk_end h.2.2)
theorem wk_suf : ∀ {es : List Arc} {q p : Nat}, p ∈ vs q es → wk as q es g → (vs q es).Nodup → ∃ suf, wk as p suf g ∧ (∀ e ∈ suf, e ∈ es) ∧ (vs p suf).Nodup
  | [], q, p, hp, hw, hn => by
    have : p = q := by simpa [vs] using hp
    subst this
    exact ⟨[], hw, fun e he => he, hn⟩
  | a :: es, q, p, hp, hw, hn => by
    by_cases e : p = q
    · subst e; exact ⟨a :: es, hw, fun e he => he, hn⟩
    · have hp : p ∈ q :: vs a.2.1 es := hp
      have hn : (q :: vs a.2.1 es).Nodup := hn
      rcases List.mem_cons.mp hp with h | h
      · exact absurd h e
      · obtain ⟨suf, s1, s2, s3⟩ := wk_suf h hw.2.2 (List.nodup_cons.mp hn).2
        exact ⟨suf, s1, fun e he => List.mem_cons_of_mem _ (s2 e he), s3⟩
theorem wk_erase : ∀ {es : List Arc} {p : Nat}, wk as p es g → ∃ es', wk as p es' g ∧ (∀ e ∈ es', e ∈ es) ∧ (vs p es').Nodup
  | [], p, h => ⟨[], h, fun e he => he, by show [p].Nodup; simp⟩
  | a :: es, p, h => by
    obtain ⟨es', h1, h2, h3⟩ := wk_erase h.2.2
    by_cases hp : p ∈ vs a.2.1 es'
    · obtain ⟨suf, s1, s2, s3⟩ := wk_suf hp h1 h3
      exact ⟨suf, s1, fun e he => List.mem_cons_of_mem _ (h2 e (s2 e he)), s3⟩
    · refine ⟨a :: es', ⟨h.1, h.2.1, h1⟩, fun e he => ?_, List.nodup_cons.mpr ⟨hp, h3⟩⟩
      rcases List.mem_cons.mp he with rfl | he
      · exact List.mem_cons_self
      · exact List.mem_cons_of_mem _ (h2 e he)
theorem wk_tight {T : Nat → Int} : ∀ {es : List Arc} {p : Nat}, wk as p es g → (∀ e ∈ es, T e.1 = e.2.2.1 + T e.2.1) → T p = cst es + T g
  | [], p, h, _ => by have h : p = g := h
                      subst h; show T p = 0 + T p; omega
  | e :: es, p, h, ht => by
    have h1 := wk_tight h.2.2 (fun q hq => ht q (List.mem_cons_of_mem _ hq))
    have h2 := ht e List.mem_cons_self
    rw [h.2.1] at h2
    show T p = e.2.2.1 + cst es + T g
    omega
end PTR
/-- the reference's arcs: (to, from), the step from one to other first -/
def arcR (X : aX) (c z : Nat → Int) (k : Nat) : List Arc := (if z k = -1 then [] else [(X 2 k, X 1 k, rb c z k, k)]) ++ (if z k = 1 then [] else [(X 1 k, X 2 k, rf c z k, k)])
def arcsR (X : aX) (c z : Nat → Int) : Nat → List Arc
  | 0 => []
  | n + 1 => arcsR X c z n ++ arcR X c z n
theorem arcsR_in {X : aX} {c z : Nat → Int} {e : Arc} : ∀ {n : Nat}, e ∈ arcsR X c z n ↔ ∃ k, k < n ∧ ((z k ≠ 1 ∧ e = (X 1 k, X 2 k, rf c z k, k)) ∨ (z k ≠ -1 ∧ e = (X 2 k, X 1 k, rb c z k, k)))
  | 0 => by
    constructor
    · intro h; cases h
    · rintro ⟨k, h, _⟩; omega
  | n + 1 => by
    have key : e ∈ arcR X c z n ↔ ((z n ≠ 1 ∧ e = (X 1 n, X 2 n, rf c z n, n)) ∨ (z n ≠ -1 ∧ e = (X 2 n, X 1 n, rb c z n, n))) := by
      unfold arcR
      rw [List.mem_append]
      by_cases h1 : z n = -1 <;> by_cases h2 : z n = 1 <;> simp [h1, h2]
      exact Or.comm
    show e ∈ arcsR X c z n ++ arcR X c z n ↔ _
    rw [List.mem_append, arcsR_in, key]
    constructor
    · rintro (⟨k, h1, h2⟩ | h)
      · exact ⟨k, by omega, h2⟩
      · exact ⟨n, by omega, h⟩
    · rintro ⟨k, h1, h2⟩
      by_cases ek : k = n
      · subst ek; exact Or.inr h2
      · exact Or.inl ⟨k, by omega, h2⟩
theorem arcsR_rsd {X : aX} {c z : Nat → Int} (e : Arc) : e ∈ arcsR X c z (X 0 0) ↔ rsd X c z e := arcsR_in
