section WALK
variable {G : aG} {μ : aMem} {X : aX}
theorem nI_nm9 {n : Nat} (h : n < 1000) : ¬ nI n = -9 := by rw [nI_m9 h]; exact fun h => h
theorem r_X3_walk (hd : xD X) (hcd : cD μ X) {pf pb : Nat → Int} (hpf : rZ (μ.1 22) pf (X 0 0)) (hpb : rZ (μ.1 23) pb (X 0 0)) (hbf : ∀ k, k < X 0 0 → pf k = BIG ∨ (-4000 ≤ pf k ∧ pf k ≤ 4000)) (hbb : ∀ k, k < X 0 0 → pb k = BIG ∨ (-4000 ≤ pb k ∧ pb k ≤ 4000)) {T : Nat → Int} (hT : rZ (μ.1 24) T 10) (hTb : ∀ v, T v = BIG ∨ (-36000 ≤ T v ∧ T v ≤ 36000)) {p g n : Nat} (hp : p < 10) (hg : g < 10) (hn9 : n ≤ 9) (hend : vtx X pf pb T p n = g) (hst : ∀ i, i < n → vtx X pf pb T p i ≠ g ∧ stp X pf pb T p i < X 0 0) :
    a_Spec G sX3_walk [.ref 3, .int (nI p), .int (nI g)] μ (fun v ν => v = none ∧ ∃ c e, ν = (va_up (va_up μ.1 25 c) 3 e, μ.2) ∧ e 5 = nI n ∧ ∀ k, k < n → c k = nI (stp X pf pb T p k)) := by
  have hn := hd.1
  have hvl : ∀ i, i ≤ n → vtx X pf pb T p i < 10 := by
    intro i hi
    cases i with
    | zero => exact hp
    | succ i => exact acr_lt hd (hst i (by omega)).2
  generalize hpo : (fun (v : Option Value) (ν : aMem) => v = none ∧ ∃ c e, ν = (va_up (va_up μ.1 25 c) 3 e, μ.2) ∧ e 5 = nI n ∧ ∀ k, k < n → c k = nI (stp X pf pb T p k)) = post
  have hpost : ∀ c e : Nat → Int32, e 5 = nI n → (∀ k, k < n → c k = nI (stp X pf pb T p k)) → post none (va_up (va_up μ.1 25 c) 3 e, μ.2) := fun c e h h' => by rw [← hpo]; exact ⟨rfl, c, e, rfl, h, h'⟩
  refine w_X3_walk_0 _ _ ?_
  have main := a_for (fun i (z : (Nat → Int32) × (Nat → Int32)) => a_Runs G sX3_walk 7 [(0, .ref 3), (2, .int (nI g)), (3, .int (nI (vtx X pf pb T p i)))] [] (va_up (va_up μ.1 25 z.1) 3 z.2, μ.2) post) (fun i z => z.2 5 = nI i ∧ ∀ k, k < i → z.1 k = nI (stp X pf pb T p k)) n ?_ ?_ 0 (μ.1 25, upd (μ.1 3) 5 (nI 0)) (by omega) ⟨pk_us (f := μ.1 3) (k := 5) (x := nI 0), fun k hk => by omega⟩
  · have e0 : ((va_up μ.1 3 (upd (μ.1 3) 5 (nI 0)), μ.2) : aMem) = (va_up (va_up μ.1 25 (μ.1 25)) 3 (upd (μ.1 3) 5 (nI 0)), μ.2) := by rw [a_self1]
    rw [e0]; exact main
  · rintro ⟨c, e⟩ ⟨h1, h2⟩
    rw [hend]
    exact w_X3_walk_7 _ _ ⟨fun _ => hpost c e h1 h2, fun h => absurd rfl h⟩
  · rintro i ⟨c, e⟩ hi ⟨h1, h2⟩ ih
    have h1 : e 5 = nI i := h1
    have h2 : ∀ k, k < i → c k = nI (stp X pf pb T p k) := h2
    have hv := hvl i (by omega)
    obtain ⟨hvg, hsl⟩ := hst i hi
    have m1 : ∀ j, j ≠ 25 → j ≠ 3 → ((va_up (va_up μ.1 25 c) 3 e, μ.2) : aMem).1 j = μ.1 j := fun j h h' => by show va_up (va_up μ.1 25 c) 3 e j = _; rw [va_up_ne _ _ h', va_up_ne _ _ h]
    have m3 : ((va_up (va_up μ.1 25 c) 3 e, μ.2) : aMem).1 3 = e := va_up_self (va_up μ.1 25 c) 3 e
    have hcd' : ∀ c e : Nat → Int32, cD (va_up (va_up μ.1 25 c) 3 e, μ.2) X := fun c e => hcd.kept (fun k hk => by show va_up (va_up μ.1 25 c) 3 e k = _; rw [va_up_ne _ _ (by omega), va_up_ne _ _ (by omega)])
    refine w_X3_walk_7 _ _ ?_
    rw [q_eq (by omega) (by omega)]
    refine ⟨fun h => absurd h hvg, fun _ => ?_⟩
    show (nI 9 ≤ ((va_up (va_up μ.1 25 c) 3 e, μ.2) : aMem).1 3 5 → _) ∧ (¬ nI 9 ≤ ((va_up (va_up μ.1 25 c) 3 e, μ.2) : aMem).1 3 5 → _)
    rw [m3, h1, q_le (by omega) (by omega)]
    refine ⟨fun h => by omega, fun _ => (r_X3_firstStep (μ := (va_up (va_up μ.1 25 c) 3 e, μ.2)) (pf := pf) (pb := pb) (T := T) hd (hcd' c e) ?_ ?_ hbf hbb ?_ hTb hv hsl).mono ?_⟩
    · rw [m1 22 (by decide) (by decide)]; exact hpf
    · rw [m1 23 (by decide) (by decide)]; exact hpb
    · rw [m1 24 (by decide) (by decide)]; exact hT
    rintro v ν ⟨rfl, rfl⟩
    refine ⟨_, rfl, fun _ => ?_, fun h => absurd h (nI_nm9 (by show stp X pf pb T p i < 1000; omega))⟩
    rw [m3, h1, q_in (by omega), q_cl (by omega), nI_add]
    refine ⟨by omega, ?_⟩
    have e25 : ((va_up (va_up μ.1 25 c) 3 e, μ.2) : aMem).1 25 = c := by show va_up (va_up μ.1 25 c) 3 e 25 = c; rw [va_up_ne _ _ (by decide), va_up_self]
    rw [e25]
    show a_Spec G sX0_across _ (va_up (va_up (va_up (va_up μ.1 25 c) 3 e) 25 (upd c i (nI (stp X pf pb T p i)))) 3 (upd e 5 (nI (i + 1))), μ.2) _
    rw [va_up4]
    refine r_X0_across hd (hcd' _ _) hsl (by omega) _ ⟨_, rfl, ?_⟩
    refine ih (upd c i (nI (stp X pf pb T p i)), upd e 5 (nI (i + 1))) ⟨pk_us (f := e) (k := 5) (x := nI (i + 1)), fun k hk => ?_⟩
    show upd c i _ k = _
    by_cases ek : k = i
    · rw [ek, pk_us]
    · rw [pk_un ek]; exact h2 k (by omega)
end WALK
