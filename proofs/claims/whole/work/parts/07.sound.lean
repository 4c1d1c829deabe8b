/-! ===== each instruction: what the abstract machine asks is enough ===== -/
section ASOUND
variable {G : aG} {p : Program} {e : Env} {R : Jvm.Room} {s : State} {m : MethodId} {args : Array Value} {below : List Frame} {meth : Method} {c : Code} {nL cells slots : Nat} {Q : State → Prop} {cc : ByteArray} {pc : Nat} {lv : aLV} {st : List Value} {μ : aMem}
/-- behind a call -/
theorem a_call {H : Heap} {locs : List Loc} {ls : Array Slot} {rest st0 : List Value} {a : Array Value} {post : aPost} (hr : va_Run p G.1 e R s m args below meth c H locs cells slots 0 0 (F0 m pc ls st0) rest (a_Q G post a) (a_A G.2.2.2)) (hS : va_S (a_A G.2.2.2) s.heap H locs)
    (kk : ∀ (v : Option Value) (ν : aMem) (H1 : Heap) (locs1 : List Loc), post v ν → va_P G.2.1 vwCl (a_world G.2.2.1 G.2.2.2 ν) H1 → va_S (a_A G.2.2.2) s.heap H1 locs1 → W p G.1 e R s m args below meth c H1 locs1 cells slots Q (F0 m (pc + 3) ls ((v.map (a_vr G.2.2.2)).toList ++ rest))) : W p G.1 e R s m args below meth c H locs cells slots Q (F0 m pc ls st0) := by
  intro T hT X
  obtain ⟨v, st₀, t, T', L, h0, X', hL, e1, e2, ⟨⟨r, u, hv, hp, hb⟩, hz, hk⟩, st⟩ := hr T hT X
  have hv : v = r.map (a_vr G.2.2.2) := by cases hv; rfl
  subst hv
  rw [h0] at hz hk
  obtain ⟨t2, a1, b1⟩ := kk r u T'.heap (locs ++ L) hp (by rw [e1]; exact hb)
    ⟨Nat.le_trans hS.1 (by rw [e1]; exact hz), fun q h1 h2 => by rw [e1, hk q (Nat.lt_of_lt_of_le h1 hS.1) h2]; exact hS.2.1 q h1 h2, fun q hq => by
      rcases List.mem_append.mp hq with h | h
      · exact hS.2.2 q h
      · exact hL q h⟩ T' rfl X'
  exact ⟨t2, st t2 a1, b1⟩
abbrev a_WW (G : aG) (p : Program) (e : Env) (R : Jvm.Room) (s : State) (m : MethodId) (args : Array Value) (below : List Frame) (meth : Method) (c : Code) (nL cells slots : Nat) (Q : State → Prop) (pc : Nat) (ft : aLV → List Value → aMem → Prop) : Prop := ∀ lv st μ, ft lv st μ → a_W G p e R s m args below meth c nL cells slots Q pc lv st μ
/-- the context of a body -/
abbrev a_CX (G : aG) (own : String) (cc : ByteArray) (nL : Nat) (p : Program) (s : State) (m : MethodId) (args : Array Value) (c : Code) : Prop := p.tables.exec = Jvm.exec ∧ c.code = cc ∧ c.maxLocals = nL ∧ s.vm.findClass own = some m.cls ∧ (∀ w ∈ a_ws, w.before args s = true) ∧ va_K G.2.1 vwCl (a_tys G.2.2.1) s ∧ a_N s ∧ a_inj G.2.2.2
theorem a_s_store1 {own : String} {x : Value} {i : Nat} {r : List Value} {pc' : Nat} {ft : aLV → List Value → aMem → Prop} (hft : a_WW G p e R s m args below meth c nL cells slots Q pc' ft) (h : ft (a_st1 lv i x) r μ) {H : Heap} {locs : List Loc} (hP : va_P G.2.1 vwCl (a_world G.2.2.1 G.2.2.2 μ) H) (hS : va_S (a_A G.2.2.2) s.heap H locs) : ∀ ls' : Array Slot, lv_has ls' nL (a_lm G.2.2.2 (a_st1 lv i x)) → W p G.1 e R s m args below meth c H locs cells slots Q (F0 m pc' ls' (r.map (a_vr G.2.2.2))) := fun ls' hl => hft _ _ _ h H locs ls' hP hS hl
theorem a_s_get {own : String} (C : a_CX G own cc nL p s m args c) {a ci j i : Nat} {fs : List (Nat ⊕ Nat)} {f : Nat ⊕ Nat} {q : Nat × Nat × Nat} {pp : Nat} (hq : a_okF own q pp = true) (hq1 : q = (i, ci, j)) (ha : a_lay[a]? = some (.inr (ci, fs))) (hf : fs[j]? = some f) (hdg : decode cc pc = .ok (.getfield i, 3)) {H : Heap} {locs : List Loc} {ls : Array Slot} {r : List Value} (hP : va_P G.2.1 vwCl (a_world G.2.2.1 G.2.2.2 μ) H)
    (kk : W p G.1 e R s m args below meth c H locs cells slots Q (F0 m (pc + 3) ls (a_fv G.2.2.2 μ a j f :: r))) : W p G.1 e R s m args below meth c H locs cells slots Q (F0 m pc ls (.ref (G.2.2.2 a) :: r)) := by
  obtain ⟨hx, hb, hml, hown, hts, hK, hN, hI⟩ := C
  subst hq1
  obtain ⟨Cn, T, N, h1, h2, h3, h4⟩ := a_okF_e hq
  refine va_get (D := G.2.1) (ci := ci) (v := a_fv G.2.2.2 μ a j f) (fs := fs.mapIdx (fun j f => a_fv G.2.2.2 μ a j f)) (C := Cn) (T := T) (N := N) hx hb hts (a_cls h1).1 hown hK hP a (a_world_at ha) h1 j h2 (a_ws_of hts h4 rfl) (fun x hx => by rw [← h3]; exact hx) (by rw [List.getElem?_mapIdx, hf]; rfl) hdg kk
theorem a_s_put {own : String} (C : a_CX G own cc nL p s m args c) {a ci j i : Nat} {fs : List (Nat ⊕ Nat)} {f : Nat ⊕ Nat} {q : Nat × Nat × Nat} {pp : Nat} (hq : a_okF own q pp = true) (hq1 : q = (i, ci, j)) (ha : a_lay[a]? = some (.inr (ci, fs))) (hf : fs[j]? = some f) {ν : aMem} {v : Value} {ty : FieldType} (hfd : ∀ (C : String) (T : u_T) (N : Nat), vwCl[ci]? = some (C, T, N) → j < N → parseFieldDescriptor (T j).2.2.1 = some ty ∧ (T j).2.2.2 = false) (hn : narrow ty v = v) (hfit : fits ty v = true)
    (hν1 : ∀ i, i ≠ a → ν.1 i = μ.1 i) (hν2 : ∀ i, i ≠ a → ν.2 i = μ.2 i) (hνj : ∀ k f, k ≠ j → a_fv G.2.2.2 ν a k f = a_fv G.2.2.2 μ a k f) (hνv : a_fv G.2.2.2 ν a j f = v)
    (hdg : decode cc pc = .ok (.putfield i, 3)) {H : Heap} {locs : List Loc} {ls : Array Slot} {r : List Value} (hP : va_P G.2.1 vwCl (a_world G.2.2.1 G.2.2.2 μ) H) (hS : va_S (a_A G.2.2.2) s.heap H locs)
    (kk : ∀ (H1 : Heap) (locs1 : List Loc), va_P G.2.1 vwCl (a_world G.2.2.1 G.2.2.2 ν) H1 → va_S (a_A G.2.2.2) s.heap H1 locs1 → W p G.1 e R s m args below meth c H1 locs1 cells slots Q (F0 m (pc + 3) ls r)) : W p G.1 e R s m args below meth c H locs cells slots Q (F0 m pc ls (v :: .ref (G.2.2.2 a) :: r)) := by
  obtain ⟨hx, hb, hml, hown, hts, hK, hN, hI⟩ := C
  subst hq1
  obtain ⟨Cn, T, N, h1, h2, h3, h4⟩ := a_okF_e hq
  obtain ⟨hin, ty0, hty, hnm⟩ := a_cls h1
  obtain ⟨hd, hfin⟩ := hfd Cn T N h1 h2
  have hlen : fs.length = N := (a_lay_obj ha h1).1
  have hset : ((fs.mapIdx (fun j f => a_fv G.2.2.2 μ a j f)).set j v) = fs.mapIdx (fun j f => a_fv G.2.2.2 ν a j f) := by
    apply List.ext_getElem?
    intro k
    by_cases ek : k = j
    · subst ek
      rw [List.getElem?_set_self (by rw [List.length_mapIdx, hlen]; exact h2), List.getElem?_mapIdx, hf, ← hνv]; rfl
    · rw [List.getElem?_set_ne (fun q => ek q.symm), List.getElem?_mapIdx, List.getElem?_mapIdx]
      cases fs[k]? with
      | none => rfl
      | some z => exact congrArg some (hνj k z ek).symm
  refine va_put (D := G.2.1) (ci := ci) (v := v) (ty := ty) (fs := fs.mapIdx (fun j f => a_fv G.2.2.2 μ a j f)) (C := Cn) (T := T) (N := N) hx hb hts hin ty0 hty hnm hown hK hP (a_world_D hI) hS a (a_world_at ha) h1 j h2 (a_ws_of hts h4 rfl) (fun x hx => by rw [← h3]; exact hx) hfin hd hn hfit (by rw [List.length_mapIdx, hlen]; exact h2) hdg (fun H1 locs1 hP1 hD1 hS1 => kk H1 locs1 ?_ hS1)
  rw [hset] at hP1
  have e1 : (Sum.inr (ci, fs.mapIdx (fun j f => a_fv G.2.2.2 ν a j f)) : va_E) = a_cell G.2.2.1 G.2.2.2 ν a (.inr (ci, fs)) := rfl
  rw [e1, a_world_set ha hν1 hν2] at hP1
  exact hP1
end ASOUND
