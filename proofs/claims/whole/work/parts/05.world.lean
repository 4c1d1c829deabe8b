/-! ===== the world of a memory: its 63 cells at the addresses r ===== -/
def a_fv (r : Nat → Nat) (μ : aMem) (k j : Nat) (f : Nat ⊕ Nat) : Value := match f with
  | .inl q => .ref (r q)
  | .inr 1 => .long (μ.2 k j)
  | .inr _ => .int (μ.1 k j)
def a_cell (cA : ClassId × ClassId × ClassId) (r : Nat → Nat) (μ : aMem) (k : Nat) (d : aDsc) : va_E := match d with
  | .inl (0, n) => .inl (cA.1, n, .inl (μ.1 k))
  | .inl (1, n) => .inl (cA.2.1, n, .inl (μ.1 k))
  | .inl (_, n) => .inl (cA.2.2, n, .inr (.inl (μ.2 k)))
  | .inr (ci, fs) => .inr (ci, fs.mapIdx (fun j f => a_fv r μ k j f))
theorem a_world_ex : ∃ f : (ClassId × ClassId × ClassId) → (Nat → Nat) → aMem → va_W, f = fun cA r μ => a_lay.mapIdx (fun k d => (r k, a_cell cA r μ k d)) := ⟨_, rfl⟩
noncomputable def a_world : (ClassId × ClassId × ClassId) → (Nat → Nat) → aMem → va_W := Classical.choose a_world_ex
theorem a_world_eq (cA : ClassId × ClassId × ClassId) (r : Nat → Nat) (μ : aMem) : a_world cA r μ = a_lay.mapIdx (fun k d => (r k, a_cell cA r μ k d)) := by
  have h := Classical.choose_spec a_world_ex
  show Classical.choose a_world_ex cA r μ = _
  rw [h]
theorem a_fv_cong {r : Nat → Nat} {μ ν : aMem} {k j : Nat} (h1 : μ.1 k j = ν.1 k j) (h2 : μ.2 k j = ν.2 k j) (f : Nat ⊕ Nat) : a_fv r μ k j f = a_fv r ν k j f := by
  unfold a_fv; split <;> simp [h1, h2]
theorem a_cell_cong {cA : ClassId × ClassId × ClassId} {r : Nat → Nat} {μ ν : aMem} {k : Nat} (h1 : μ.1 k = ν.1 k) (h2 : μ.2 k = ν.2 k) (d : aDsc) : a_cell cA r μ k d = a_cell cA r ν k d := by
  unfold a_cell
  split
  · rw [h1]
  · rw [h1]
  · rw [h2]
  · have e : (fun j f => a_fv r μ k j f) = fun j f => a_fv r ν k j f := by
      funext j f; exact a_fv_cong (by rw [h1]) (by rw [h2]) f
    rw [e]
theorem a_world_at {cA : ClassId × ClassId × ClassId} {r : Nat → Nat} {μ : aMem} {k : Nat} {d : aDsc} (h : a_lay[k]? = some d) : (a_world cA r μ)[k]? = some (r k, a_cell cA r μ k d) := by
  rw [a_world_eq, List.getElem?_mapIdx, h]; rfl
theorem a_world_set {cA : ClassId × ClassId × ClassId} {r : Nat → Nat} {μ ν : aMem} {k : Nat} {d : aDsc} (h : a_lay[k]? = some d) (h1 : ∀ i, i ≠ k → ν.1 i = μ.1 i) (h2 : ∀ i, i ≠ k → ν.2 i = μ.2 i) : (a_world cA r μ).set k (r k, a_cell cA r ν k d) = a_world cA r ν := by
  apply List.ext_getElem?
  intro i
  by_cases e : i = k
  · subst e
    have hl : i < (a_world cA r μ).length := (List.getElem?_eq_some_iff.mp (a_world_at (cA := cA) (r := r) (μ := μ) h)).1
    rw [List.getElem?_set_self hl, a_world_at h]
  · rw [List.getElem?_set_ne (fun q => e q.symm)]
    cases hd : a_lay[i]? with
    | none =>
      have q1 : (a_world cA r μ)[i]? = none := by rw [a_world_eq, List.getElem?_mapIdx, hd]; rfl
      have q2 : (a_world cA r ν)[i]? = none := by rw [a_world_eq, List.getElem?_mapIdx, hd]; rfl
      rw [q1, q2]
    | some d' =>
      rw [a_world_at hd, a_world_at hd, a_cell_cong (h1 i e) (h2 i e) d']
abbrev aG : Type := Launch × va_G × (ClassId × ClassId × ClassId) × (Nat → Nat)
def a_A (r : Nat → Nat) : Nat → Prop := fun q => ∃ k, k < a_lay.length ∧ q = r k
def a_inj (r : Nat → Nat) : Prop := ∀ i j, i < a_lay.length → j < a_lay.length → r i = r j → i = j
theorem a_world_D {cA : ClassId × ClassId × ClassId} {r : Nat → Nat} {μ : aMem} (h : a_inj r) : va_D (a_A r) (a_world cA r μ) := by
  have key : ∀ (i : Nat) (p : Nat × va_E), (a_world cA r μ)[i]? = some p → i < a_lay.length ∧ p.1 = r i := by
    intro i p hp
    rw [a_world_eq, List.getElem?_mapIdx] at hp
    cases hd : a_lay[i]? with
    | none => rw [hd] at hp; cases hp
    | some d =>
      rw [hd] at hp
      refine ⟨(List.getElem?_eq_some_iff.mp hd).1, ?_⟩
      have := Option.some.inj hp
      rw [← this]
  refine ⟨fun i j p q hp hq e => ?_, fun k q hq => ?_⟩
  · obtain ⟨a1, a2⟩ := key i p hp
    obtain ⟨b1, b2⟩ := key j q hq
    exact h i j a1 b1 (by rw [← a2, ← b2]; exact e)
  · obtain ⟨a1, a2⟩ := key k q hq
    exact ⟨k, a1, a2⟩
abbrev a_tys (cA : ClassId × ClassId × ClassId) : List (ClassId × FieldType) := [(cA.1, .int), (cA.2.1, .boolean), (cA.2.2, .long)]
def a_N (U : State) : Prop := ∀ q ∈ a_nest, va_Nw (.methodLinkNest q.1 q.2.1 q.2.2.1 q.2.2.2) U
def a_ws : List Jvm.Cond := lw_tbl.filter goodWord
def a_Pic (G : aG) (μ : aMem) (U : State) : Prop := va_P G.2.1 vwCl (a_world G.2.2.1 G.2.2.2 μ) U.heap ∧ va_K G.2.1 vwCl (a_tys G.2.2.1) U ∧ a_N U ∧ a_inj G.2.2.2
def a_Q (G : aG) (post : aPost) : Array Value → State → Outcome → State → Prop := fun _ st oc t => (∃ (v : Option Value) (μ : aMem), oc = .returned (v.map (a_vr G.2.2.2)) ∧ post v μ ∧ va_P G.2.1 vwCl (a_world G.2.2.1 G.2.2.2 μ) t.heap) ∧ va_F (a_A G.2.2.2) st t
/-- THE CONTRACT of a method: from every state that holds the memory μ, with these arguments, it returns, and post holds of answer and memory -/
def a_Spec (G : aG) (S : aMS) (as : List Value) (μ : aMem) (post : aPost) : Prop := Met G.1 S.1 (.code S.1 S.2.1 S.2.2.1 S.2.2.2.1 :: a_ws) S.2.2.2.2.1 (va_Pc (as.map (a_vr G.2.2.2)) (a_Pic G μ)) (a_Q G post) 0 0 (a_A G.2.2.2)
/-- what holds all through a method's body -/
def a_Cx (G : aG) (S : aMS) (p : Program) (s : State) (m : MethodId) (args : Array Value) (meth : Method) (c : Code) : Prop :=
  p.tables.exec = Jvm.exec ∧ c.code = S.2.1 ∧ meth.sig.returnType = S.2.2.2.1 ∧ c.maxLocals = S.2.2.1 ∧ s.vm.findClass S.1.cls = some m.cls ∧ (∀ w ∈ a_ws, w.before args s = true) ∧ meth.locks = false ∧ va_K G.2.1 vwCl (a_tys G.2.2.1) s ∧ a_N s ∧ a_inj G.2.2.2
def a_lm (r : Nat → Nat) (lv : aLV) : List (Nat × Value) := lv.map fun q => (q.1, a_vr r q.2)
/-- the machine, from the program counter pc on, with these locals, this stack, this memory, comes to Q -/
def a_W (G : aG) (p : Program) (e : Env) (R : Jvm.Room) (s : State) (m : MethodId) (args : Array Value) (below : List Frame) (meth : Method) (c : Code) (nL cells slots : Nat) (Q : State → Prop) (pc : Nat) (lv : aLV) (st : List Value) (μ : aMem) : Prop :=
  ∀ (H : Heap) (locs : List Loc) (ls : Array Slot), va_P G.2.1 vwCl (a_world G.2.2.1 G.2.2.2 μ) H → va_S (a_A G.2.2.2) s.heap H locs → lv_has ls nL (a_lm G.2.2.2 lv) → W p G.1 e R s m args below meth c H locs cells slots Q (F0 m pc ls (st.map (a_vr G.2.2.2)))
def a_Runs (G : aG) (S : aMS) (pc : Nat) (lv : aLV) (st : List Value) (μ : aMem) (post : aPost) : Prop :=
  ∀ (p : Program) (e : Env) (s : State) (m : MethodId) (args : Array Value) (below : List Frame) (meth : Method) (c : Code), a_Cx G S p s m args meth c → a_W G p e S.2.2.2.2.1 s m args below meth c S.2.2.1 0 0 (MQ below (a_Q G post) args s 0 0 (a_A G.2.2.2)) pc lv st μ
theorem a_lm_in {r : Nat → Nat} {lv : aLV} {i : Nat} {v : Value} (h : (i, v) ∈ lv) : (i, a_vr r v) ∈ a_lm r lv := List.mem_map.mpr ⟨(i, v), h, rfl⟩
theorem a_lm_sub {r : Nat → Nat} {lv lv' : aLV} {ls : Array Slot} {nL : Nat} (h : lv_has ls nL (a_lm r lv)) (hs : ∀ q ∈ lv', q ∈ lv) : lv_has ls nL (a_lm r lv') := by
  refine ⟨h.1, h.2.1, fun q hq => ?_⟩
  obtain ⟨q0, h1, h2⟩ := List.mem_map.mp hq
  rw [← h2]
  exact h.2.2 _ (a_lm_in (hs q0 h1))
theorem a_lm_st1 (r : Nat → Nat) (lv : aLV) (i : Nat) (v : Value) : (i, a_vr r v) :: (a_lm r lv).filter (fun q => !(q.1 == i) && !(q.1 + 1 == i && q.2.category == 2)) = a_lm r (a_st1 lv i v) := by
  unfold a_lm a_st1
  rw [List.map_cons, List.filter_map]
  congr 2
  apply List.filter_congr
  intro q _
  simp only [Function.comp, a_vr_cat]
theorem a_lm_st2 (r : Nat → Nat) (lv : aLV) (i : Nat) (v : Value) : (i, a_vr r v) :: (a_lm r lv).filter (fun q => !(q.1 == i) && (!(q.1 == i + 1) && !(q.1 + 1 == i && q.2.category == 2))) = a_lm r (a_st2 lv i v) := by
  unfold a_lm a_st2
  rw [List.map_cons, List.filter_map]
  congr 2
  apply List.filter_congr
  intro q _
  simp only [Function.comp, a_vr_cat]
theorem a_ws_of {s : State} {args : Array Value} (h : ∀ w ∈ a_ws, w.before args s = true) {w : Jvm.Cond} (hw : w ∈ lw_tbl) (hg : goodWord w = true) : w.before args s = true := h w (List.mem_filter.mpr ⟨hw, hg⟩)
theorem a_good (x : Jvm.Cond) (big : List Jvm.Cond) (hx : x ∈ big ∧ goodWord x = true) (hb : ∀ w ∈ a_ws, w ∈ big) : GoodIn big (x :: a_ws) := by
  intro w hw
  rcases List.mem_cons.mp hw with e | hw
  · rw [e]; exact ⟨hx.1, good_of_word hx.2⟩
  · exact ⟨hb w hw, good_of_word (List.mem_filter.mp hw).2⟩
theorem a_N.warm {s U : State} (hW : s.WarmedH U.vm) (h : a_N s) : a_N U := fun q hq => va_Nw.warmM hW (h q hq)
theorem a_Pic.blind (G : aG) (as : List Value) (μ : aMem) : FrameBlind (va_Pc as (a_Pic G μ)) := by
  intro a U g mk h
  obtain ⟨h0, h1, h2, h3, h4⟩ := h
  exact ⟨h0, h1, va_K.moved (u := U) (U := U.calling g mk a) (Vm.Alike.refl U.vm) h2, fun q hq => va_Nw.same rfl (u := U) (U := U.calling g mk a) rfl (h3 q hq), h4⟩
