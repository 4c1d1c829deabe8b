/-! ===== the class's search: labels by rounds ===== -/
def rZ (c : Nat → Int32) (T : Nat → Int) (N : Nat) : Prop := ∀ i, i < N → (c i).toInt = T i
theorem z_nI {n : Nat} (h : n < 2 ^ 31) : (nI n).toInt = (n : Int) := nI_toInt h
theorem z_eqI (x y : Int32) : (x = y) = (x.toInt = y.toInt) := propext Int32.toInt_inj.symm
theorem z_ltI (x y : Int32) : (x < y) = (x.toInt < y.toInt) := propext Int32.lt_iff_toInt_lt
theorem z_leI (x y : Int32) : (x ≤ y) = (x.toInt ≤ y.toInt) := propext Int32.le_iff_toInt_le
theorem rZ_at {c : Nat → Int32} {T : Nat → Int} {N k : Nat} {x : Int32} {v : Int} (h : rZ c T N) (hx : x.toInt = v) : rZ (upd c k x) (upZ T k v) N := by
  intro i hi
  by_cases e : i = k
  · subst e; rw [pk_us, upZ_s, hx]
  · rw [pk_un e, upZ_n _ _ e]; exact h i hi
theorem bfI_bd {as : List Arc} {g : Nat} (hA : arcOK as) {T : Nat → Int} (h : bfI as g T) (v : Nat) : T v = BIG ∨ (-36000 ≤ T v ∧ T v ≤ 36000) := by
  by_cases hne : T v = BIG
  · exact Or.inl hne
  · obtain ⟨hq, es, h1, h2, h3, h4⟩ := (h v).2 hne
    have hlen := simple_len hA hq h1 h3
    have := cst_le hA h1
    right; omega
def arc2 (X : aX) (pf pb : Nat → Int) (k : Nat) : List Arc := (if pf k = BIG then [] else [(X 1 k, X 2 k, pf k, k)]) ++ (if pb k = BIG then [] else [(X 2 k, X 1 k, pb k, k)])
def arcsD (X : aX) (pf pb : Nat → Int) : Nat → List Arc
  | 0 => []
  | k + 1 => arcsD X pf pb k ++ arc2 X pf pb k
theorem arcsD_in {X : aX} {pf pb : Nat → Int} {e : Arc} : ∀ {n : Nat}, e ∈ arcsD X pf pb n ↔ ∃ k, k < n ∧ e ∈ arc2 X pf pb k
  | 0 => by simp [arcsD]
  | n + 1 => by
    rw [arcsD, List.mem_append, arcsD_in]
    constructor
    · rintro (⟨k, h1, h2⟩ | h)
      · exact ⟨k, by omega, h2⟩
      · exact ⟨n, by omega, h⟩
    · rintro ⟨k, h1, h2⟩
      by_cases e : k = n
      · subst e; exact Or.inr h2
      · exact Or.inl ⟨k, by omega, h2⟩
theorem arc2_in {X : aX} {pf pb : Nat → Int} {e : Arc} {k : Nat} : e ∈ arc2 X pf pb k ↔ (pf k ≠ BIG ∧ e = (X 1 k, X 2 k, pf k, k)) ∨ (pb k ≠ BIG ∧ e = (X 2 k, X 1 k, pb k, k)) := by
  unfold arc2
  rw [List.mem_append]
  by_cases h1 : pf k = BIG <;> by_cases h2 : pb k = BIG <;> simp [h1, h2]
theorem rnds_add (as : List Arc) (T : Nat → Int) (r : Nat) : ∀ m, rnds as (m + r) T = rnds as m (rnds as r T)
  | 0 => by rw [Nat.zero_add]; rfl
  | m + 1 => by
    rw [show m + 1 + r = (m + r) + 1 by omega]
    show rnd as (rnds as (m + r) T) = rnd as (rnds as m (rnds as r T))
    rw [rnds_add as T r m]
section SPREAD
variable {G : aG} {μ : aMem} {X : aX}
/-- one lowering; the flag is false only where nothing changed -/
theorem r_X3_lower {T : Nat → Int} (hT : rZ (μ.1 24) T 10) (hbd : ∀ v, T v = BIG ∨ (-36000 ≤ T v ∧ T v ≤ 36000)) {p q : Nat} (hp : p < 10) (hq : q < 10) {z : Int32} {y : Int} (hz : z.toInt = y) (hy : y = BIG ∨ (-4000 ≤ y ∧ y ≤ 4000)) (d : Nat) :
    a_Spec G sX3_lower [.ref 3, .int (nI p), .int (nI q), .int z] μ (fun v ν => ∃ (f : Bool) (c : Nat → Int32), v = some (.int (bI f)) ∧ ν = (va_up μ.1 24 c, μ.2) ∧ rZ c (if y = BIG then T else relax T (p, q, y, d)) 10 ∧ (f = false → (if y = BIG then T else relax T (p, q, y, d)) = T)) := by
  have hb : (nI 1000000).toInt = BIG := by decide
  have id24 : μ = (va_up μ.1 24 (μ.1 24), μ.2) := a_self μ 24
  have tp := hT p hp
  have tq := hT q hq
  have bp := hbd p
  have bq := hbd q
  refine w_X3_lower_0 _ _ _ ?_
  rw [q_in (by omega), q_in (by omega), q_cl (by omega), q_cl (by omega), z_eqI z (nI 1000000), z_eqI (μ.1 24 q) (nI 1000000), hb, hz, tq]
  refine ⟨fun h => ⟨nI_00, false, μ.1 24, rfl, id24, ?_, fun _ => ?_⟩, fun h => ⟨hq, fun h2 => ⟨hq, hp, ?_⟩, fun h2 => ⟨nI_00, false, μ.1 24, rfl, id24, ?_, fun _ => ?_⟩⟩⟩
  · rw [if_pos h]; exact hT
  · rw [if_pos h]
  · have hs : (z + μ.1 24 q).toInt = y + T q := by rw [fb_addI] <;> rw [hz, tq] <;> unfold BIG at * <;> omega
    rw [z_ltI (z + μ.1 24 q) (μ.1 24 p), hs, tp]
    have hr : relax T (p, q, y, d) = if y + T q < T p then upZ T p (y + T q) else T := by unfold relax; rw [if_neg h2]
    rw [if_neg h, hr]
    refine ⟨fun h3 => ⟨hp, nI_11, true, upd (μ.1 24) p (z + μ.1 24 q), rfl, rfl, ?_, fun h4 => by cases h4⟩, fun h3 => ⟨nI_00, false, μ.1 24, rfl, id24, ?_, fun _ => ?_⟩⟩
    · rw [if_pos h3]; exact rZ_at hT hs
    · rw [if_neg h3]; exact hT
    · rw [if_neg h3]
  · have hr : relax T (p, q, y, d) = T := by unfold relax; rw [if_pos h2]
    rw [if_neg h, hr]; exact hT
  · have hr : relax T (p, q, y, d) = T := by unfold relax; rw [if_pos h2]
    rw [if_neg h, hr]
theorem r_fill24 : a_Spec G sJ7_fill_53178 [.ref 24, .int (nI 1000000)] μ (fun v ν => v = none ∧ ∃ c, ν = (va_up μ.1 24 c, μ.2) ∧ ∀ i, i < 10 → c i = nI 1000000) := by
  refine w_J7_filla_0 _ ?_
  rw [a_self μ 24]
  refine a_for (fun i (c : Nat → Int32) => a_Runs G sJ7_fill_53178 5 [(0, .ref 24), (1, .int (nI 1000000)), (2, .int (nI i)), (3, .int (Int32.ofNat 10))] [] (va_up μ.1 24 c, μ.2) (fun v ν => v = none ∧ ∃ c, ν = (va_up (va_up μ.1 24 (μ.1 24)) 24 c, μ.2) ∧ ∀ i, i < 10 → c i = nI 1000000)) (fun i c => ∀ j, j < i → c j = nI 1000000) 10 ?_ ?_ 0 _ (by omega) (fun j hj => by omega)
  · intro c hc
    refine w_J7_filla_5 _ _ _ ⟨fun _ => ⟨rfl, c, by rw [bx_uu], hc⟩, fun h => absurd (show nI 10 ≤ nI 10 by rw [q_le] <;> omega) h⟩
  · intro i c hi hc ih
    refine w_J7_filla_5 _ _ _ ⟨fun h => ?_, fun _ => ?_⟩
    · have h : nI 10 ≤ nI i := h
      rw [q_le (by omega) (by omega)] at h; omega
    · rw [q_in (by omega), q_cl (by omega), nI_add]
      have e : ((va_up (va_up μ.1 24 c) 24 (upd ((va_up μ.1 24 c) 24) i (nI 1000000)), μ.2) : aMem) = (va_up μ.1 24 (upd c i (nI 1000000)), μ.2) := by rw [bx_uu, va_up_self]
      refine ⟨by omega, ?_⟩
      show a_Runs G sJ7_fill_53178 5 _ [] (va_up (va_up μ.1 24 c) 24 (upd ((va_up μ.1 24 c) 24) i (nI 1000000)), μ.2) _
      rw [e]
      refine ih _ (fun j hj => ?_)
      by_cases ej : j = i
      · rw [ej, pk_us]
      · rw [pk_un ej]; exact hc j (by omega)
theorem r_X3_spread (hd : xD X) (hcd : cD μ X) {pf pb : Nat → Int} (hpf : rZ (μ.1 22) pf (X 0 0)) (hpb : rZ (μ.1 23) pb (X 0 0)) (hbf : ∀ k, k < X 0 0 → pf k = BIG ∨ (-4000 ≤ pf k ∧ pf k ≤ 4000)) (hbb : ∀ k, k < X 0 0 → pb k = BIG ∨ (-4000 ≤ pb k ∧ pb k ≤ 4000)) {π : Nat → Int} (hA : arcOK (arcsD X pf pb (X 0 0))) (hπ : ∀ e ∈ arcsD X pf pb (X 0 0), π e.1 ≤ e.2.2.1 + π e.2.1) {g : Nat} (hg : g < 10) :
    a_Spec G sX3_spread [.ref 3, .int (nI g)] μ (fun v ν => v = none ∧ ∃ c, ν = (va_up μ.1 24 c, μ.2) ∧ rZ c (rnds (arcsD X pf pb (X 0 0)) 9 (lab0 g)) 10) := by
  have hn := hd.1
  obtain ⟨c0, c1, c2, -, -, -, -⟩ := hcd
  have hI := bfI_rnds hA hπ hg
  refine w_X3_spread_0 _ (r_fill24.mono ?_)
  rintro v ν ⟨rfl, c, rfl, hc⟩
  rw [q_in (by omega), q_cl (by omega)]
  refine ⟨rfl, hg, ?_⟩
  have e0 : ((va_up (va_up μ.1 24 c) 24 (upd ((va_up μ.1 24 c) 24) g (nI 0)), μ.2) : aMem) = (va_up μ.1 24 (upd c g (nI 0)), μ.2) := by rw [bx_uu, va_up_self]
  show a_Runs G sX3_spread 20 _ [] (va_up (va_up μ.1 24 c) 24 (upd ((va_up μ.1 24 c) 24) g (nI 0)), μ.2) _
  rw [e0]
  generalize hpo : (fun (v : Option Value) (ν : aMem) => v = none ∧ ∃ c, ν = (va_up μ.1 24 c, μ.2) ∧ rZ c (rnds (arcsD X pf pb (X 0 0)) 9 (lab0 g)) 10) = post
  have hpost : ∀ c, rZ c (rnds (arcsD X pf pb (X 0 0)) 9 (lab0 g)) 10 → post none (va_up μ.1 24 c, μ.2) := fun c h => by rw [← hpo]; exact ⟨rfl, c, rfl, h⟩
  generalize has : arcsD X pf pb (X 0 0) = as at *
  have main : ∀ r, r ≤ 9 → ∀ (s : Bool × (Nat → Int32)), (rZ s.2 (rnds as r (lab0 g)) 10 ∧ (s.1 = false → rnd as (rnds as r (lab0 g)) = rnds as r (lab0 g))) → a_Runs G sX3_spread 20 [(0, .ref 3), (2, .int (bI s.1)), (3, .int (nI r))] [] (va_up μ.1 24 s.2, μ.2) post := by
    intro r hr s hs
    refine a_for (fun r (s : Bool × (Nat → Int32)) => a_Runs G sX3_spread 20 [(0, .ref 3), (2, .int (bI s.1)), (3, .int (nI r))] [] (va_up μ.1 24 s.2, μ.2) post) (fun r s => rZ s.2 (rnds as r (lab0 g)) 10 ∧ (s.1 = false → rnd as (rnds as r (lab0 g)) = rnds as r (lab0 g))) 9 ?_ ?_ r s hr hs
    · rintro ⟨f, c⟩ ⟨h1, -⟩
      exact w_X3_spread_20 _ _ ⟨fun _ => hpost c h1, fun h => absurd (by rw [q_le] <;> omega) h⟩
    · rintro r ⟨f, c⟩ hr ⟨h1, h2⟩ ih
      have h1 : rZ c (rnds as r (lab0 g)) 10 := h1
      have h2 : f = false → rnd as (rnds as r (lab0 g)) = rnds as r (lab0 g) := h2
      refine w_X3_spread_20 _ _ ⟨fun h => ?_, fun _ => br_b (fun hf => hpost c ?_) (fun hf => ?_)⟩
      · rw [q_le (by omega) (by omega)] at h; omega
      · rw [show (9 : Nat) = (9 - r) + r by omega, rnds_add, rnds_stay (h2 hf)]; exact h1
      · have inner : a_Runs G sX3_spread 35 [(0, .ref 3), (2, .int (bI false)), (3, .int (nI r)), (4, .int (nI 0))] [] (va_up μ.1 24 c, μ.2) post := by
          refine a_for (fun k (s : Bool × (Nat → Int32)) => a_Runs G sX3_spread 35 [(0, .ref 3), (2, .int (bI s.1)), (3, .int (nI r)), (4, .int (nI k))] [] (va_up μ.1 24 s.2, μ.2) post) (fun k s => rZ s.2 ((arcsD X pf pb k).foldl relax (rnds as r (lab0 g))) 10 ∧ (s.1 = false → (arcsD X pf pb k).foldl relax (rnds as r (lab0 g)) = rnds as r (lab0 g))) (X 0 0) ?_ ?_ 0 (false, c) (by omega) ⟨h1, fun _ => rfl⟩
          · rintro ⟨f2, c2⟩ ⟨g1, g2⟩
            have g1 : rZ c2 ((arcsD X pf pb (X 0 0)).foldl relax (rnds as r (lab0 g))) 10 := g1
            have g2 : f2 = false → (arcsD X pf pb (X 0 0)).foldl relax (rnds as r (lab0 g)) = rnds as r (lab0 g) := g2
            rw [has] at g1 g2
            refine w_X3_spread_35 _ _ _ ⟨fun _ => ?_, fun h => absurd (by show (va_up μ.1 24 c2) 1 0 ≤ _; rw [va_up_ne _ _ (by decide), c0, q_le] <;> omega) h⟩
            rw [nI_add]
            refine ih (f2, c2) ⟨g1, fun hf2 => ?_⟩
            show rnd as (rnd as (rnds as r (lab0 g))) = rnd as (rnds as r (lab0 g))
            have g3 : rnd as (rnds as r (lab0 g)) = rnds as r (lab0 g) := g2 hf2
            rw [g3, g3]
          · rintro k ⟨f2, c2'⟩ hk ⟨g1, g2⟩ ih2
            have g1 : rZ c2' ((arcsD X pf pb k).foldl relax (rnds as r (lab0 g))) 10 := g1
            have g2 : f2 = false → (arcsD X pf pb k).foldl relax (rnds as r (lab0 g)) = rnds as r (lab0 g) := g2
            have hdk := hd.2 k hk
            have hsub : ∀ e ∈ arcsD X pf pb k, e ∈ as := fun e he => by
              rw [← has]; obtain ⟨j, hj, hje⟩ := arcsD_in.mp he; exact arcsD_in.mpr ⟨j, by omega, hje⟩
            have bI1 : bfI as g ((arcsD X pf pb k).foldl relax (rnds as r (lab0 g))) := bfI_fold hA hπ _ hsub (hI r)
            generalize hT1 : (arcsD X pf pb k).foldl relax (rnds as r (lab0 g)) = T1 at *
            have m1 : ∀ j, j ≠ 24 → ((va_up μ.1 24 c2', μ.2) : aMem).1 j = μ.1 j := fun j hj => va_up_ne _ _ hj
            refine w_X3_spread_35 _ _ _ ⟨fun h => ?_, fun _ => ?_⟩
            · rw [m1 1 (by decide), c0, q_le (by omega) (by omega)] at h; omega
            rw [q_in (by omega), q_cl (by omega), m1 7 (by decide), m1 8 (by decide), m1 22 (by decide), c1 k hk, c2 k hk, nI_add]
            refine ⟨by omega, by omega, by omega, (r_X3_lower (μ := (va_up μ.1 24 c2', μ.2)) (T := T1) (p := X 1 k) (q := X 2 k) (z := μ.1 22 k) (y := pf k) ?_ (bfI_bd hA bI1) hdk.1 hdk.2.1 (hpf k hk) (hbf k hk) k).mono ?_⟩
            · show rZ ((va_up μ.1 24 c2') 24) T1 10
              rw [va_up_self]; exact g1
            rintro v ν ⟨f3, c3, rfl, rfl, g3, g4⟩
            generalize hT2 : (if pf k = BIG then T1 else relax T1 (X 1 k, X 2 k, pf k, k)) = T2 at *
            have bI2 : bfI as g T2 := by
              rw [← hT2]
              split
              · exact bI1
              · rename_i hne
                exact bfI_relax hA hπ bI1 (by rw [← has]; exact arcsD_in.mpr ⟨k, hk, arc2_in.mpr (Or.inl ⟨hne, rfl⟩)⟩)
            have m2 : ∀ j, j ≠ 24 → ((va_up (va_up μ.1 24 c2') 24 c3, μ.2) : aMem).1 j = μ.1 j := fun j hj => by show va_up (va_up μ.1 24 c2') 24 c3 j = _; rw [va_up_ne _ _ hj, va_up_ne _ _ hj]
            refine ⟨_, rfl, by omega, by omega, by omega, ?_⟩
            rw [m2 7 (by decide), m2 8 (by decide), m2 23 (by decide), c1 k hk, c2 k hk]
            refine (r_X3_lower (μ := (va_up (va_up μ.1 24 c2') 24 c3, μ.2)) (T := T2) (p := X 2 k) (q := X 1 k) (z := μ.1 23 k) (y := pb k) ?_ (bfI_bd hA bI2) hdk.2.1 hdk.1 (hpb k hk) (hbb k hk) k).mono ?_
            · show rZ ((va_up (va_up μ.1 24 c2') 24 c3) 24) T2 10
              rw [va_up_self]; exact g3
            rintro v ν ⟨f4, c4, rfl, rfl, g5, g6⟩
            generalize hT3 : (if pb k = BIG then T2 else relax T2 (X 2 k, X 1 k, pb k, k)) = T3 at *
            have hfold : (arcsD X pf pb (k + 1)).foldl relax (rnds as r (lab0 g)) = T3 := by
              rw [arcsD, List.foldl_append, hT1, ← hT3, ← hT2]
              unfold arc2
              by_cases b1 : pf k = BIG <;> by_cases b2 : pb k = BIG <;> simp [b1, b2]
            have e4 : ((va_up (va_up (va_up μ.1 24 c2') 24 c3) 24 c4, μ.2) : aMem) = (va_up μ.1 24 c4, μ.2) := by rw [bx_uu, bx_uu]
            have fin : ∀ f5 : Bool, (f5 = false → T3 = rnds as r (lab0 g)) → a_Runs G sX3_spread 35 [(0, .ref 3), (2, .int (bI f5)), (3, .int (nI r)), (4, .int (nI (k + 1)))] [] (va_up μ.1 24 c4, μ.2) post := fun f5 h5 => ih2 (f5, c4) ⟨by show rZ c4 _ 10; rw [hfold]; exact g5, fun h6 => by rw [hfold]; exact h5 h6⟩
            refine ⟨_, rfl, ?_⟩
            show (¬ bI f2 = 0 → a_Runs G sX3_spread 35 _ [] (va_up (va_up (va_up μ.1 24 c2') 24 c3) 24 c4, μ.2) post) ∧ _
            rw [e4]
            refine br_n (fun q1 => fin true (fun h => by cases h)) (fun q1 => br_n (fun q2 => fin true (fun h => by cases h)) (fun q2 => br_b (fun q3 => fin false (fun _ => ?_)) (fun q3 => fin true (fun h => by cases h))))
            rw [g6 q3, g4 q2, g2 q1]
        exact inner
  refine main 0 (by omega) (true, upd c g (nI 0)) ⟨?_, fun h => by cases h⟩
  intro i hi
  show (upd c g (nI 0) i).toInt = lab0 g i
  unfold lab0
  by_cases e : i = g
  · rw [e, pk_us, if_pos rfl]; rfl
  · rw [pk_un e, if_neg e, hc i hi]; decide
end SPREAD
