/-! ===== shortest ways by rounds of lowering, over arcs (from, to, price, duct); pure ===== -/
abbrev Arc : Type := Nat × Nat × Int × Nat
def BIG : Int := 1000000
def upZ (T : Nat → Int) (k : Nat) (v : Int) : Nat → Int := fun i => if i = k then v else T i
theorem upZ_s (T : Nat → Int) (k : Nat) (v : Int) : upZ T k v k = v := by simp [upZ]
theorem upZ_n (T : Nat → Int) {k i : Nat} (v : Int) (h : i ≠ k) : upZ T k v i = T i := by simp [upZ, h]
def relax (T : Nat → Int) (e : Arc) : Nat → Int := if T e.2.1 = BIG then T else if e.2.2.1 + T e.2.1 < T e.1 then upZ T e.1 (e.2.2.1 + T e.2.1) else T
def rnd (as : List Arc) (T : Nat → Int) : Nat → Int := as.foldl relax T
def rnds (as : List Arc) : Nat → (Nat → Int) → (Nat → Int)
  | 0, T => T
  | k + 1, T => rnd as (rnds as k T)
def lab0 (g : Nat) : Nat → Int := fun v => if v = g then 0 else BIG
def wk (as : List Arc) : Nat → List Arc → Nat → Prop
  | p, [], g => p = g
  | p, e :: es, g => e ∈ as ∧ e.1 = p ∧ wk as e.2.1 es g
def cst : List Arc → Int
  | [] => 0
  | e :: es => e.2.2.1 + cst es
def vs : Nat → List Arc → List Nat
  | p, [] => [p]
  | p, e :: es => p :: vs e.2.1 es
def sufOK (T : Nat → Int) : Nat → List Arc → Prop
  | p, [] => T p ≤ 0
  | p, e :: es => T p ≤ e.2.2.1 + cst es ∧ sufOK T e.2.1 es
theorem cst_app : ∀ (a b : List Arc), cst (a ++ b) = cst a + cst b
  | [], b => by simp [cst]
  | e :: a, b => by show e.2.2.1 + cst (a ++ b) = _; rw [cst_app a b]; show _ = e.2.2.1 + cst a + cst b; omega
theorem wk_app {as : List Arc} : ∀ {a b : List Arc} {p q g : Nat}, wk as p a q → wk as q b g → wk as p (a ++ b) g
  | [], b, p, q, g, h1, h2 => by have h1 : p = q := h1
                                 subst h1; exact h2
  | e :: a, b, p, q, g, h1, h2 => ⟨h1.1, h1.2.1, wk_app h1.2.2 h2⟩
theorem vs_len : ∀ (p : Nat) (es : List Arc), (vs p es).length = es.length + 1
  | p, [] => rfl
  | p, e :: es => by show (vs e.2.1 es).length + 1 = _; rw [vs_len]; rfl
theorem vs_head (p : Nat) (es : List Arc) : p ∈ vs p es := by cases es <;> simp [vs]
theorem wk_pot {as : List Arc} {π : Nat → Int} (hπ : ∀ e ∈ as, π e.1 ≤ e.2.2.1 + π e.2.1) : ∀ {es : List Arc} {p g : Nat}, wk as p es g → π p ≤ cst es + π g
  | [], p, g, h => by have h : p = g := h
                      subst h; show π p ≤ 0 + π p; omega
  | e :: es, p, g, h => by
    have h1 := wk_pot hπ h.2.2
    have h2 := hπ e h.1
    rw [h.2.1] at h2
    show π p ≤ e.2.2.1 + cst es + π g
    omega
theorem vs_in {as : List Arc} {T : Nat → Int} : ∀ {es : List Arc} {p g u : Nat}, wk as p es g → sufOK T p es → u ∈ vs p es → ∃ pre suf, es = pre ++ suf ∧ wk as p pre u ∧ wk as u suf g ∧ T u ≤ cst suf
  | [], p, g, u, h, hs, hu => by
    have e : u = p := by simpa [vs] using hu
    subst e
    exact ⟨[], [], rfl, rfl, h, hs⟩
  | e :: es, p, g, u, h, hs, hu => by
    by_cases q : u = p
    · subst q; exact ⟨[], e :: es, rfl, rfl, h, hs.1⟩
    · have hu : u ∈ vs e.2.1 es := by
        have : u ∈ p :: vs e.2.1 es := hu
        rcases List.mem_cons.mp this with h | h
        · exact absurd h q
        · exact h
      obtain ⟨pre, suf, h1, h2, h3, h4⟩ := vs_in h.2.2 hs.2 hu
      exact ⟨e :: pre, suf, by rw [h1]; rfl, ⟨h.1, h.2.1, h2⟩, h3, h4⟩
theorem sufOK.mono {T T' : Nat → Int} (h : ∀ v, T' v ≤ T v) : ∀ {es : List Arc} {p : Nat}, sufOK T p es → sufOK T' p es
  | [], p, hs => Int.le_trans (h p) hs
  | e :: es, p, hs => ⟨Int.le_trans (h p) hs.1, sufOK.mono h hs.2⟩
theorem nodup_len {n : Nat} : ∀ {l : List Nat}, l.Nodup → (∀ x ∈ l, x < n) → l.length ≤ n := by
  intro l hn hl
  refine fb_holes n l.length (fun i => l.getD i 0) (fun i hi => ?_) (fun i j hij hj e => ?_)
  · have : l.getD i 0 = l[i] := by simp [List.getD, hi]
    show l.getD i 0 < n
    rw [this]; exact hl _ (List.getElem_mem hi)
  · have hi : i < l.length := by omega
    have e1 : l.getD i 0 = l[i] := by simp [List.getD, hi]
    have e2 : l.getD j 0 = l[j] := by simp [List.getD, hj]
    have e : l.getD i 0 = l.getD j 0 := e
    rw [e1, e2] at e
    exact (List.pairwise_iff_getElem.mp hn) i j hi hj hij e
/-- what is asked of the arcs -/
def arcOK (as : List Arc) : Prop := ∀ e ∈ as, e.1 < 10 ∧ e.2.1 < 10 ∧ -4000 ≤ e.2.2.1 ∧ e.2.2.1 ≤ 4000
theorem vs_lt {as : List Arc} (hA : arcOK as) : ∀ {es : List Arc} {p g : Nat}, p < 10 → wk as p es g → ∀ x ∈ vs p es, x < 10
  | [], p, g, hp, h, x, hx => by have : x = p := by simpa [vs] using hx
                                 rw [this]; exact hp
  | e :: es, p, g, hp, h, x, hx => by
    have hx : x ∈ p :: vs e.2.1 es := hx
    rcases List.mem_cons.mp hx with q | q
    · rw [q]; exact hp
    · exact vs_lt hA (hA e h.1).2.1 h.2.2 x q
theorem simple_len {as : List Arc} (hA : arcOK as) {es : List Arc} {p g : Nat} (hp : p < 10) (h : wk as p es g) (hn : (vs p es).Nodup) : es.length ≤ 9 := by
  have := nodup_len hn (vs_lt hA hp h)
  rw [vs_len] at this
  omega
theorem cst_le {as : List Arc} (hA : arcOK as) : ∀ {es : List Arc} {p g : Nat}, wk as p es g → -(4000 * (es.length : Int)) ≤ cst es ∧ cst es ≤ 4000 * (es.length : Int)
  | [], p, g, h => by simp [cst]
  | e :: es, p, g, h => by
    have h1 := cst_le hA h.2.2
    have h2 := hA e h.1
    have h3 : ((e :: es).length : Int) = (es.length : Int) + 1 := by simp
    show _ ≤ e.2.2.1 + cst es ∧ e.2.2.1 + cst es ≤ _
    omega
section BF
variable {as : List Arc} {g : Nat}
def bfI (as : List Arc) (g : Nat) (T : Nat → Int) : Prop := ∀ v, T v ≤ BIG ∧ (T v ≠ BIG → v < 10 ∧ ∃ es, wk as v es g ∧ cst es = T v ∧ (vs v es).Nodup ∧ sufOK T v es)
theorem bfI_0 (hg : g < 10) : bfI as g (lab0 g) := by
  intro v
  unfold lab0
  by_cases h : v = g
  · rw [if_pos h]
    refine ⟨by unfold BIG; omega, fun _ => ⟨by omega, [], h, rfl, by simp [vs], ?_⟩⟩
    show (if v = g then (0 : Int) else BIG) ≤ 0
    rw [if_pos h]; omega
  · rw [if_neg h]; exact ⟨Int.le_refl _, fun q => absurd rfl q⟩
theorem relax_le (T : Nat → Int) (e : Arc) (v : Nat) : relax T e v ≤ T v := by
  unfold relax
  split
  · exact Int.le_refl _
  · split
    · by_cases h : v = e.1
      · subst h; rw [upZ_s]; omega
      · rw [upZ_n _ _ h]; exact Int.le_refl _
    · exact Int.le_refl _
/-- a lower label has a way that doesn't come back -/
theorem bf_new {π : Nat → Int} (hπ : ∀ e ∈ as, π e.1 ≤ e.2.2.1 + π e.2.1) {T : Nat → Int} {e : Arc} (he : e ∈ as) {es : List Arc} (h1 : wk as e.2.1 es g) (h2 : cst es = T e.2.1) (h3 : (vs e.2.1 es).Nodup) (h4 : sufOK T e.2.1 es) (hlt : e.2.2.1 + T e.2.1 < T e.1) : wk as e.1 (e :: es) g ∧ (vs e.1 (e :: es)).Nodup := by
  refine ⟨⟨he, rfl, h1⟩, ?_⟩
  show (e.1 :: vs e.2.1 es).Nodup
  refine List.nodup_cons.mpr ⟨fun hin => ?_, h3⟩
  obtain ⟨pre, suf, q1, q2, q3, q4⟩ := vs_in h1 h4 hin
  have hc : wk as e.1 (e :: pre) e.1 := ⟨he, rfl, q2⟩
  have h5 := wk_pot hπ hc
  have h6 : cst (e :: pre) = e.2.2.1 + cst pre := rfl
  rw [q1, cst_app] at h2
  omega
theorem bfI_relax {π : Nat → Int} (hA : arcOK as) (hπ : ∀ e ∈ as, π e.1 ≤ e.2.2.1 + π e.2.1) {T : Nat → Int} (h : bfI as g T) {e : Arc} (he : e ∈ as) : bfI as g (relax T e) := by
  have hmono := relax_le T e
  by_cases h0 : T e.2.1 = BIG
  · have : relax T e = T := by unfold relax; rw [if_pos h0]
    rw [this]; exact h
  by_cases hlt : e.2.2.1 + T e.2.1 < T e.1
  · have hr : relax T e = upZ T e.1 (e.2.2.1 + T e.2.1) := by unfold relax; rw [if_neg h0, if_pos hlt]
    intro v
    by_cases hv : v = e.1
    · subst hv
      have hval : relax T e e.1 = e.2.2.1 + T e.2.1 := by rw [hr, upZ_s]
      rw [hval]
      refine ⟨by have := (h e.1).1; omega, fun _ => ⟨(hA e he).1, ?_⟩⟩
      obtain ⟨hq, es, h1, h2, h3, h4⟩ := (h e.2.1).2 h0
      obtain ⟨q1, q2⟩ := bf_new hπ he h1 h2 h3 h4 hlt
      refine ⟨e :: es, q1, ?_, q2, ?_, h4.mono hmono⟩
      · show e.2.2.1 + cst es = _; rw [h2]
      · rw [hval, h2]; exact Int.le_refl _
    · have hval : relax T e v = T v := by rw [hr, upZ_n _ _ hv]
      rw [hval]
      refine ⟨(h v).1, fun hne => ?_⟩
      obtain ⟨hq, es, h1, h2, h3, h4⟩ := (h v).2 hne
      exact ⟨hq, es, h1, h2, h3, h4.mono hmono⟩
  · have : relax T e = T := by unfold relax; rw [if_neg h0, if_neg hlt]
    rw [this]; exact h
theorem foldl_le : ∀ (l : List Arc) (T : Nat → Int) (v : Nat), l.foldl relax T v ≤ T v
  | [], T, v => Int.le_refl _
  | e :: l, T, v => Int.le_trans (foldl_le l (relax T e) v) (relax_le T e v)
theorem bfI_fold {π : Nat → Int} (hA : arcOK as) (hπ : ∀ e ∈ as, π e.1 ≤ e.2.2.1 + π e.2.1) : ∀ (l : List Arc) {T : Nat → Int}, (∀ e ∈ l, e ∈ as) → bfI as g T → bfI as g (l.foldl relax T)
  | [], T, _, h => h
  | e :: l, T, hl, h => bfI_fold hA hπ l (fun x hx => hl x (List.mem_cons_of_mem _ hx)) (bfI_relax hA hπ h (hl e List.mem_cons_self))
theorem bfI_rnds {π : Nat → Int} (hA : arcOK as) (hπ : ∀ e ∈ as, π e.1 ≤ e.2.2.1 + π e.2.1) (hg : g < 10) : ∀ k, bfI as g (rnds as k (lab0 g))
  | 0 => bfI_0 hg
  | k + 1 => bfI_fold hA hπ as (fun _ h => h) (bfI_rnds hA hπ hg k)
theorem fold_arc : ∀ (l : List Arc) (T : Nat → Int) (e : Arc) (B : Int), e ∈ l → T e.2.1 ≤ B → B < BIG → l.foldl relax T e.1 ≤ e.2.2.1 + B
  | [], T, e, B, h, _, _ => absurd h List.not_mem_nil
  | x :: l, T, e, B, h, hB, hb => by
    by_cases q : e = x
    · subst q
      refine Int.le_trans (foldl_le l _ _) ?_
      unfold relax
      rw [if_neg (by omega)]
      split
      · rw [upZ_s]; omega
      · omega
    · have h : e ∈ l := by
        rcases List.mem_cons.mp h with h | h
        · exact absurd h q
        · exact h
      exact fold_arc l (relax T x) e B h (Int.le_trans (relax_le T x _) hB) hb
theorem rnds_walk (hA : arcOK as) : ∀ (k : Nat) (es : List Arc) (v : Nat), wk as v es g → es.length ≤ k → k ≤ 100 → rnds as k (lab0 g) v ≤ cst es
  | 0, es, v, h, hl, _ => by
    have : es = [] := by cases es with
      | nil => rfl
      | cons a b => simp at hl
    subst this
    have h : v = g := h
    show (if v = g then (0 : Int) else BIG) ≤ 0
    rw [if_pos h]; omega
  | k + 1, [], v, h, hl, hk => by
    refine Int.le_trans (foldl_le as _ v) ?_
    exact rnds_walk hA k [] v h (by simp) (by omega)
  | k + 1, e :: es, v, h, hl, hk => by
    have hl : es.length ≤ k := by simpa using hl
    have h1 := rnds_walk hA k es e.2.1 h.2.2 hl (by omega)
    have h2 := cst_le hA h.2.2
    rw [← h.2.1]
    exact fold_arc as _ e _ h.1 h1 (by unfold BIG; omega)
/-- AFTER NINE ROUNDS: nothing can be lowered -/
theorem bf_fix {π : Nat → Int} (hA : arcOK as) (hπ : ∀ e ∈ as, π e.1 ≤ e.2.2.1 + π e.2.1) (hg : g < 10) {k : Nat} (hk : 9 ≤ k) (hk2 : k ≤ 100) : ∀ e ∈ as, rnds as k (lab0 g) e.2.1 ≠ BIG → rnds as k (lab0 g) e.1 ≤ e.2.2.1 + rnds as k (lab0 g) e.2.1 := by
  intro e he hne
  by_cases hlt : e.2.2.1 + rnds as k (lab0 g) e.2.1 < rnds as k (lab0 g) e.1
  · exfalso
    obtain ⟨hq, es, h1, h2, h3, h4⟩ := (bfI_rnds hA hπ hg k e.2.1).2 hne
    obtain ⟨q1, q2⟩ := bf_new hπ he h1 h2 h3 h4 hlt
    have hlen := simple_len hA (hA e he).1 q1 q2
    have := rnds_walk hA k (e :: es) e.1 q1 (by omega) hk2
    have hc : cst (e :: es) = e.2.2.1 + cst es := rfl
    omega
  · omega
theorem relax_fix {T : Nat → Int} {e : Arc} (h : T e.2.1 ≠ BIG → T e.1 ≤ e.2.2.1 + T e.2.1) : relax T e = T := by
  unfold relax
  split
  · rfl
  · rename_i h0; rw [if_neg]; have := h h0; omega
theorem fold_fix : ∀ (l : List Arc) {T : Nat → Int}, (∀ e ∈ l, T e.2.1 ≠ BIG → T e.1 ≤ e.2.2.1 + T e.2.1) → l.foldl relax T = T
  | [], T, _ => rfl
  | e :: l, T, h => by
    show l.foldl relax (relax T e) = T
    rw [relax_fix (h e List.mem_cons_self)]
    exact fold_fix l (fun x hx => h x (List.mem_cons_of_mem _ hx))
theorem rnds_fix {π : Nat → Int} (hA : arcOK as) (hπ : ∀ e ∈ as, π e.1 ≤ e.2.2.1 + π e.2.1) (hg : g < 10) : rnds as 10 (lab0 g) = rnds as 9 (lab0 g) := fold_fix as (bf_fix hA hπ hg (Nat.le_refl 9) (by decide))
/-- a round that changes nothing -/
theorem rnds_stay {T : Nat → Int} (h : rnd as T = T) : ∀ k, rnds as k T = T
  | 0 => rfl
  | k + 1 => by show rnd as (rnds as k T) = T; rw [rnds_stay h k, h]
theorem bf_goal {π : Nat → Int} (hA : arcOK as) (hπ : ∀ e ∈ as, π e.1 ≤ e.2.2.1 + π e.2.1) (hg : g < 10) (k : Nat) (hk : k ≤ 100) : rnds as k (lab0 g) g = 0 := by
  have h1 := rnds_walk hA k [] g rfl (by simp) hk
  have h2 : rnds as k (lab0 g) g ≤ 0 := h1
  obtain ⟨-, es, h3, h4, h5, -⟩ := (bfI_rnds hA hπ hg k g).2 (by unfold BIG; omega)
  cases es with
  | nil => rw [← h4]; rfl
  | cons e es =>
    exfalso
    have hn : g ∉ vs e.2.1 es := (List.nodup_cons.mp (show (g :: vs e.2.1 es).Nodup from h5)).1
    refine hn ?_
    have : ∀ (es : List Arc) (p : Nat), wk as p es g → g ∈ vs p es := by
      intro es
      induction es with
      | nil => intro p h; have h : p = g := h; subst h; simp [vs]
      | cons a b ih => intro p h; exact List.mem_cons_of_mem _ (ih _ h.2.2)
    exact this es e.2.1 h3.2.2
/-- a label is a price and a label -/
theorem bf_tight {π : Nat → Int} (hA : arcOK as) (hπ : ∀ e ∈ as, π e.1 ≤ e.2.2.1 + π e.2.1) (hg : g < 10) {k : Nat} (hk : 9 ≤ k) (hk2 : k ≤ 100) {v : Nat} (hv : v ≠ g) (hne : rnds as k (lab0 g) v ≠ BIG) : ∃ e ∈ as, e.1 = v ∧ rnds as k (lab0 g) e.2.1 ≠ BIG ∧ rnds as k (lab0 g) v = e.2.2.1 + rnds as k (lab0 g) e.2.1 := by
  obtain ⟨hq, es, h1, h2, h3, h4⟩ := (bfI_rnds hA hπ hg k v).2 hne
  cases es with
  | nil => exact absurd h1 hv
  | cons e es =>
    have hc : cst (e :: es) = e.2.2.1 + cst es := rfl
    have hlen := simple_len hA hq h1 h3
    have hlen : es.length + 1 ≤ 9 := by simpa using hlen
    have h5 := rnds_walk hA k es e.2.1 h1.2.2 (by omega) hk2
    have h6 := cst_le hA h1.2.2
    have h7 : rnds as k (lab0 g) e.2.1 ≠ BIG := by unfold BIG; omega
    have h8 := bf_fix hA hπ hg hk hk2 e h1.1 h7
    rw [h1.2.1] at h8
    exact ⟨e, h1.1, h1.2.1, h7, by omega⟩
theorem bf_bound {π : Nat → Int} (hA : arcOK as) (hπ : ∀ e ∈ as, π e.1 ≤ e.2.2.1 + π e.2.1) (hg : g < 10) (k : Nat) (v : Nat) : rnds as k (lab0 g) v = BIG ∨ (-36000 ≤ rnds as k (lab0 g) v ∧ rnds as k (lab0 g) v ≤ 36000) := by
  by_cases hne : rnds as k (lab0 g) v = BIG
  · exact Or.inl hne
  · obtain ⟨hq, es, h1, h2, h3, h4⟩ := (bfI_rnds hA hπ hg k v).2 hne
    have hlen := simple_len hA hq h1 h3
    have := cst_le hA h1
    right; omega
end BF
