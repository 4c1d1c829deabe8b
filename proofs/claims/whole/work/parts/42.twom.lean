/-! ===== two, the reference ===== -/
def gN (v : Int) : Nat := if v = -1 then 1 else if v = 1 then 2 else 0
def gR (X : aX) (c : Nat → Int32) (z : Nat → Int) : Prop := ∀ d, d < X 0 0 → c d = nI (gN (z d))
section TWOM
variable {G : aG} {μ : aMem} {X : aX}
theorem r_X7_tryStep {as : List Arc} {g : Nat} {π : Nat → Int} (hA : arcOK as) (hπ : ∀ e ∈ as, π e.1 ≤ e.2.2.1 + π e.2.1) {T : Nat → Int} (hT : rZ (μ.1 50) T 10) (hI : bfI as g T) (hP : pInv as g T (μ.1 53)) {d u v : Nat} {p : Int} {x : Int32} (hx : x.toInt = p) (he : (v, u, p, d) ∈ as) (hu : u < 10) (hv : v < 10) :
    a_Spec G sX7_tryStep [.ref 36, .int (nI d), .int (nI u), .int (nI v), .int x] μ (fun r ν => r = none ∧ ∃ c c', ν = (va_up (va_up μ.1 50 c) 53 c', μ.2) ∧ rZ c (relax T (v, u, p, d)) 10 ∧ pInv as g (relax T (v, u, p, d)) c') := by
  have hbd := bfI_bd hA hI
  have hB : (nI 1000000).toInt = 1000000 := by decide
  have hBB : BIG = 1000000 := rfl
  have e0 : μ = (va_up (va_up μ.1 50 (μ.1 50)) 53 (μ.1 53), μ.2) := by rw [a_self1 μ.1 50, a_self1 μ.1 53]
  have hp := (hA _ he).2.2
  have hp : -4000 ≤ p ∧ p ≤ 4000 := hp
  have bu := hbd u
  have bv := hbd v
  refine w_X7_tryStep_0 _ _ _ _ ?_
  rw [q_in (by omega), q_cl (by omega), q_in (by omega), q_cl (by omega), z_leI (nI 1000000), hB, hT u hu]
  refine ⟨hu, fun h => ?_, fun h => ⟨hu, hv, ?_⟩⟩
  · have h : T u = BIG := by omega
    have e : relax T (v, u, p, d) = T := by unfold relax; exact if_pos h
    rw [e]
    exact ⟨rfl, _, _, e0, hT, hP⟩
  · have h : T u ≠ BIG := by omega
    have ea : (μ.1 50 u + x).toInt = T u + p := by
      have := hT u hu
      rw [fb_addI (by omega) (by omega), this, hx]
    rw [z_leI, ea, hT v hv]
    refine ⟨fun h2 => ?_, fun h2 => ⟨hu, hv, hv, rfl, _, _, rfl, ?_, ?_⟩⟩
    · have e : relax T (v, u, p, d) = T := by unfold relax; rw [if_neg h]; exact if_neg (by show ¬ p + T u < T v; omega)
      rw [e]
      exact ⟨rfl, _, _, e0, hT, hP⟩
    · have e : relax T (v, u, p, d) = upZ T v (p + T u) := by unfold relax; rw [if_neg h]; exact if_pos (by show p + T u < T v; omega)
      rw [e]
      exact rZ_at hT (by rw [ea]; omega)
    · have e : relax T (v, u, p, d) = upZ T v (p + T u) := by unfold relax; rw [if_neg h]; exact if_pos (by show p + T u < T v; omega)
      rw [e]
      exact pInv_relax hπ (fun w => (hI w).1) hP he h (by show p + T u < T v; omega)
/-- the flow is changed along the pointers -/
theorem r_X7_addWay_198 (hd : xD X) (hmd : mD μ X) {as : List Arc} {a : Nat} (ha : a < 10) {c : Nat → Int} {post : aPost} : ∀ {es : List Arc} {z : Nat → Int} {p : Nat} {c52 : Nat → Int32}, p < 10 → zOK X z → (∀ e ∈ es, rsd X c z e) → es.Pairwise (fun x y => y.2.2.2 ≠ x.2.2.2) → wk as p es a → (vs p es).Nodup → (∀ e ∈ es, μ.1 53 e.1 = nI e.2.2.2) → gR X c52 z → (∀ c', gR X c' (aug X z es) → post (some (.int (nI 1))) (va_up μ.1 52 c', μ.2)) →
    a_Runs G sX7_addWay 198 [(0, .ref 36), (1, .int (nI a)), (3, .int (nI p))] [] (va_up μ.1 52 c52, μ.2) post := by
  have hn := hd.1
  intro es
  induction es with
  | nil =>
    intro z p c52 hp hz _ _ hw _ _ hc hpost
    have hw : p = a := hw
    subst hw
    exact w_X7_addWay_198 _ _ ⟨fun _ => ⟨nI_11, hpost _ hc⟩, fun h => absurd rfl h⟩
  | cons e es ih =>
    intro z p c52 hp hz hr hpw hw hnd h53 hc hpost
    obtain ⟨w1, w2, w3⟩ := hw
    have hnd : (p :: vs e.2.1 es).Nodup := hnd
    obtain ⟨n1, n2⟩ := List.nodup_cons.mp hnd
    obtain ⟨p1, p2⟩ := List.pairwise_cons.mp hpw
    have hpa : p ≠ a := fun h => n1 (by rw [h]; exact wk_end w3)
    have hre := hr e List.mem_cons_self
    obtain ⟨r0, r1⟩ := rsd_v hd hre
    have hx := hd.2 _ r0
    have e53 : ((va_up μ.1 52 c52, μ.2) : aMem).1 53 p = nI e.2.2.2 := by rw [← w2]; exact h53 e List.mem_cons_self
    have e52 : ((va_up μ.1 52 c52, μ.2) : aMem).1 52 = c52 := rfl
    have e37 : ((va_up μ.1 52 c52, μ.2) : aMem).1 37 e.2.2.2 = nI (X 1 e.2.2.2) := hmd.2.1 _ r0
    have hq : e.2.1 < 10 := by rcases r1 with ⟨_, _, _, h, _⟩ | ⟨_, _, _, h, _⟩ <;> omega
    refine w_X7_addWay_198 _ _ ⟨fun h => absurd h (by rw [q_eq (by omega) (by omega)]; exact hpa), fun _ => ?_⟩
    rw [q_in (by omega), q_cl (by omega), e53]
    refine ⟨hp, r_X7_across (μ := (va_up μ.1 52 c52, μ.2)) hd hmd r0 (by omega) _ ⟨_, rfl, ?_⟩⟩
    have hor : X 1 e.2.2.2 = p ∨ X 2 e.2.2.2 = p := by rw [← w2]; omega
    have hac : acr X e.2.2.2 p = e.2.1 := by
      unfold acr; rw [← w2]
      rcases r1 with ⟨_, _, h, h', _⟩ | ⟨_, _, h, h', _⟩
      · rw [if_pos h.symm, h']
      · rw [if_neg (by omega), h']
    rw [if_pos hor, hac, q_in (by omega), q_cl (by omega), e52, e37, hc _ r0, q_le0 (by unfold gN; split <;> (try split) <;> omega), q_eq (by omega) (by omega)]
    have em : ∀ f, ((va_up (va_up μ.1 52 c52) 52 f, μ.2) : aMem) = (va_up μ.1 52 f, μ.2) := fun f => by rw [bx_uu]
    have hzd := hz _ r0
    have go : ∀ x : Int32, x = nI (gN (z e.2.2.2 + dlt X e)) → a_Runs G sX7_addWay 198 [(0, .ref 36), (1, .int (nI a)), (3, .int (nI e.2.1))] [] (va_up (va_up μ.1 52 c52) 52 (upd c52 e.2.2.2 x), μ.2) post := fun x hxx => by
      rw [em]
      refine ih (z := aug1 X z e) hq (push hd hz hre).1 (fun e' he' => rsd_cg (aug1_n (p1 e' he')) (hr e' (List.mem_cons_of_mem _ he'))) p2 w3 n2 (fun e' he' => h53 e' (List.mem_cons_of_mem _ he')) (fun d hdd => ?_) hpost
      by_cases ed : d = e.2.2.2
      · rw [ed, pk_us, aug1_s]; exact hxx
      · rw [pk_un ed, aug1_n ed]; exact hc d hdd
    refine ⟨by omega, fun h => ⟨by omega, fun h2 => ⟨by omega, go _ ?_⟩, fun h2 => ⟨by omega, go _ ?_⟩⟩, fun h => ⟨by omega, go _ ?_⟩⟩
    · have z0 : z e.2.2.2 = 0 := by unfold gN at h; rcases hzd with q | q | q <;> rw [q] at h <;> simp at h ⊢ <;> exact q
      rcases r1 with ⟨_, h3, h4, h5, _⟩ | ⟨_, h3, h4, h5, _⟩
      · rw [z0, h3]; rfl
      · exact absurd h5 h2
    · have z0 : z e.2.2.2 = 0 := by unfold gN at h; rcases hzd with q | q | q <;> rw [q] at h <;> simp at h ⊢ <;> exact q
      rcases r1 with ⟨_, h3, h4, h5, _⟩ | ⟨_, h3, h4, h5, _⟩
      · omega
      · rw [z0, h3]; rfl
    · have zn : z e.2.2.2 + dlt X e = 0 := by
        have : z e.2.2.2 ≠ 0 := fun q => h (by rw [q]; rfl)
        rcases r1 with ⟨h2, h3, _⟩ | ⟨h2, h3, _⟩ <;> omega
      rw [zn]; rfl
end TWOM
