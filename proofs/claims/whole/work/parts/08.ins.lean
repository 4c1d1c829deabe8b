section AINS
variable {G : aG} {p : Program} {e : Env} {R : Jvm.Room} {s : State} {m : MethodId} {args : Array Value} {below : List Frame} {meth : Method} {c : Code} {nL cells slots : Nat} {Q : State → Prop} {cc : ByteArray} {pc : Nat} {lv : aLV} {st : List Value} {μ : aMem}
/-- a call of a method of an object -/
theorem a_s_callV {own : String} (C : a_CX G own cc nL p s m args c) (hcs : cells ≤ R.cells ∧ slots ≤ R.slots) {i ci n a : Nat} {S : aMS} {pp : Nat × Nat × Nat × Nat} (hq : a_okC own (i, 0, ci, n, S) pp = true) {fs : List (Nat ⊕ Nat)} (ha : a_lay[a]? = some (.inr (ci, fs))) {as r : List Value} (hn : as.length = n) (hrm : a_rm R S r = true) {post : aPost} (hM : a_Spec G S (.ref a :: as) μ post) (hdg : decode cc pc = .ok (.invokevirtual i, 3)) {H : Heap} {locs : List Loc} {ls : Array Slot} (hP : va_P G.2.1 vwCl (a_world G.2.2.1 G.2.2.2 μ) H) (hS : va_S (a_A G.2.2.2) s.heap H locs) (hl : lv_has ls nL (a_lm G.2.2.2 lv))
    (kk : ∀ (v : Option Value) (ν : aMem) (H1 : Heap) (locs1 : List Loc), post v ν → va_P G.2.1 vwCl (a_world G.2.2.1 G.2.2.2 ν) H1 → va_S (a_A G.2.2.2) s.heap H1 locs1 → W p G.1 e R s m args below meth c H1 locs1 cells slots Q (F0 m (pc + 3) ls ((v.map (a_vr G.2.2.2)).toList ++ r.map (a_vr G.2.2.2)))) : W p G.1 e R s m args below meth c H locs cells slots Q (F0 m pc ls ((as.reverse ++ .ref a :: r).map (a_vr G.2.2.2))) := by
  obtain ⟨hx, hb, hml, hown, hts, hK, hN, hI⟩ := C
  obtain ⟨⟨h1, h2, h3, h4, h5⟩, ⟨T, N, h6⟩, h7, h8, h9⟩ := a_okC0_e hq
  unfold a_rm at hrm
  simp only [Bool.and_eq_true, Nat.ble_eq] at hrm
  have hcat : ∀ l : List Value, ((l.map (a_vr G.2.2.2)).map fun v => v.category) = l.map fun v => v.category := fun l => by rw [List.map_map]; exact List.map_congr_left (fun v _ => a_vr_cat _ v)
  have cw : CallW R s args own S.1.cls i S.1 S.2.1 S.2.2.1 S.2.2.2.1 (.code S.1 S.2.1 S.2.2.1 S.2.2.2.1 :: a_ws) S.2.2.2.2.1 0 0 n :=
    ⟨callB_of n hts (a_good _ _ ⟨List.mem_filter.mpr ⟨h1, rfl⟩, rfl⟩ (fun w hw => hw)) rfl h3 h4 (a_ws_of hts h5 rfl) (a_ws_of hts h7 rfl) h2 ⟨hrm.1.1, hrm.1.2⟩, a_ws_of hts h8 rfl, a_ws_of hts h9 rfl⟩
  refine a_call (post := post) (va_runV (As := as.map (a_vr G.2.2.2)) (b := G.2.2.2 a) (rest := r.map (a_vr G.2.2.2)) ⟨hx, hb, hml, hown, hts⟩ hM cw ⟨a_Pic.blind _ _ _, va_recv hK hP h6 (a_world_at ha), fun U hU hW => ⟨rfl, by rw [hU]; exact hP, va_K.moved hW.alike hK, hN.warm hW, hI⟩⟩ rfl (by rw [List.length_map]; exact hn) hl.1 (by show List.map (a_vr G.2.2.2) _ = _; rw [List.map_append, List.map_reverse]; rfl) (lv_room (by rw [hcat]; exact hrm.2)) hdg ⟨hcs.1, hcs.2⟩) hS kk
theorem a_s_callS {own : String} (C : a_CX G own cc nL p s m args c) (hcs : cells ≤ R.cells ∧ slots ≤ R.slots) {i ci n : Nat} {S : aMS} {pp : Nat × Nat × Nat × Nat} (hq : a_okC own (i, 1, ci, n, S) pp = true) {as r : List Value} (hn : as.length = n) (hrm : a_rm R S r = true) {post : aPost} (hM : a_Spec G S as μ post) (hdg : decode cc pc = .ok (.invokestatic i, 3)) {H : Heap} {locs : List Loc} {ls : Array Slot} (hP : va_P G.2.1 vwCl (a_world G.2.2.1 G.2.2.2 μ) H) (hS : va_S (a_A G.2.2.2) s.heap H locs) (hl : lv_has ls nL (a_lm G.2.2.2 lv))
    (kk : ∀ (v : Option Value) (ν : aMem) (H1 : Heap) (locs1 : List Loc), post v ν → va_P G.2.1 vwCl (a_world G.2.2.1 G.2.2.2 ν) H1 → va_S (a_A G.2.2.2) s.heap H1 locs1 → W p G.1 e R s m args below meth c H1 locs1 cells slots Q (F0 m (pc + 3) ls ((v.map (a_vr G.2.2.2)).toList ++ r.map (a_vr G.2.2.2)))) : W p G.1 e R s m args below meth c H locs cells slots Q (F0 m pc ls ((as.reverse ++ r).map (a_vr G.2.2.2))) := by
  obtain ⟨hx, hb, hml, hown, hts, hK, hN, hI⟩ := C
  obtain ⟨⟨h1, h2, h3, h4, h5⟩, h7, h8⟩ := a_okC1_e hq
  unfold a_rm at hrm
  simp only [Bool.and_eq_true, Nat.ble_eq] at hrm
  have hcat : ∀ l : List Value, ((l.map (a_vr G.2.2.2)).map fun v => v.category) = l.map fun v => v.category := fun l => by rw [List.map_map]; exact List.map_congr_left (fun v _ => a_vr_cat _ v)
  have cw : CallB R s args own i S.1 S.2.1 S.2.2.1 S.2.2.2.1 (.code S.1 S.2.1 S.2.2.1 S.2.2.2.1 :: a_ws) S.2.2.2.2.1 0 0 n ∧ (Jvm.Cond.static S.1).before args s = true :=
    ⟨callB_of n hts (a_good _ _ ⟨List.mem_filter.mpr ⟨h1, rfl⟩, rfl⟩ (fun w hw => hw)) rfl h3 h4 (a_ws_of hts h5 rfl) (a_ws_of hts h7 rfl) h2 ⟨hrm.1.1, hrm.1.2⟩, a_ws_of hts h8 rfl⟩
  refine a_call (post := post) (va_runS (As := as.map (a_vr G.2.2.2)) (rest := r.map (a_vr G.2.2.2)) ⟨hx, hb, hml, hown, hts⟩ hM cw ⟨a_Pic.blind _ _ _, fun U hU hW => ⟨rfl, by rw [hU]; exact hP, va_K.moved hW.alike hK, hN.warm hW, hI⟩⟩ rfl (by rw [List.length_map]; exact hn) hl.1 (by show List.map (a_vr G.2.2.2) _ = _; rw [List.map_append, List.map_reverse]) (lv_room (by rw [hcat]; exact hrm.2)) hdg ⟨hcs.1, hcs.2⟩) hS kk
theorem a_s_callN {own : String} (C : a_CX G own cc nL p s m args c) (hcs : cells ≤ R.cells ∧ slots ≤ R.slots) {i ci n : Nat} {S : aMS} {pp : Nat × Nat × Nat × Nat} (hq : a_okC own (i, 2, ci, n, S) pp = true) {as r : List Value} (hn : as.length = n) (hrm : a_rm R S r = true) {post : aPost} (hM : a_Spec G S as μ post) (hdg : decode cc pc = .ok (.invokestatic i, 3)) {H : Heap} {locs : List Loc} {ls : Array Slot} (hP : va_P G.2.1 vwCl (a_world G.2.2.1 G.2.2.2 μ) H) (hS : va_S (a_A G.2.2.2) s.heap H locs) (hl : lv_has ls nL (a_lm G.2.2.2 lv))
    (kk : ∀ (v : Option Value) (ν : aMem) (H1 : Heap) (locs1 : List Loc), post v ν → va_P G.2.1 vwCl (a_world G.2.2.1 G.2.2.2 ν) H1 → va_S (a_A G.2.2.2) s.heap H1 locs1 → W p G.1 e R s m args below meth c H1 locs1 cells slots Q (F0 m (pc + 3) ls ((v.map (a_vr G.2.2.2)).toList ++ r.map (a_vr G.2.2.2)))) : W p G.1 e R s m args below meth c H locs cells slots Q (F0 m pc ls ((as.reverse ++ r).map (a_vr G.2.2.2))) := by
  obtain ⟨hx, hb, hml, hown, hts, hK, hN, hI⟩ := C
  obtain ⟨⟨h1, h2, h3, h4, h5⟩, h7, h8⟩ := a_okC2_e hq
  unfold a_rm at hrm
  simp only [Bool.and_eq_true, Nat.ble_eq] at hrm
  have hcat : ∀ l : List Value, ((l.map (a_vr G.2.2.2)).map fun v => v.category) = l.map fun v => v.category := fun l => by rw [List.map_map]; exact List.map_congr_left (fun v _ => a_vr_cat _ v)
  have cw : va_CN R s args own i S.1 "CableLooms" S.2.1 S.2.2.1 S.2.2.2.1 (.code S.1 S.2.1 S.2.2.1 S.2.2.2.1 :: a_ws) S.2.2.2.2.1 0 0 n ∧ (Jvm.Cond.static S.1).before args s = true ∧ True :=
    ⟨va_cnB n hts (a_good _ _ ⟨List.mem_filter.mpr ⟨h1, rfl⟩, rfl⟩ (fun w hw => hw)) rfl h3 h4 (hN _ h7) (a_ws_of hts h5 rfl) h2 ⟨hrm.1.1, hrm.1.2⟩, a_ws_of hts h8 rfl, trivial⟩
  refine a_call (post := post) (va_runSN (As := as.map (a_vr G.2.2.2)) (rest := r.map (a_vr G.2.2.2)) ⟨hx, hb, hml, hown, hts⟩ hM cw ⟨a_Pic.blind _ _ _, fun U hU hW => ⟨rfl, by rw [hU]; exact hP, va_K.moved hW.alike hK, hN.warm hW, hI⟩⟩ rfl (by rw [List.length_map]; exact hn) hl.1 (by show List.map (a_vr G.2.2.2) _ = _; rw [List.map_append, List.map_reverse]) (lv_room (by rw [hcat]; exact hrm.2)) hdg ⟨hcs.1, hcs.2⟩) hS kk
/-- behind a call, by the kind of the answer -/
theorem a_s_res {ret : Option FieldType} {sp : aPost → Prop} {k : List Value → aMem → Prop} {X : Prop} (h : a_res ret sp k) (kk : ∀ post : aPost, sp post → (∀ v ν, post v ν → ∃ vs, v.toList = vs ∧ k vs ν) → X) : X := by
  unfold a_res at h
  split at h
  · exact kk _ h (fun v ν hv => ⟨[], by rw [hv.1]; rfl, hv.2⟩)
  · exact kk _ h (fun v ν hv => by obtain ⟨x, e1, e2⟩ := hv; exact ⟨_, by rw [e1]; rfl, e2⟩)
  · exact kk _ h (fun v ν hv => by obtain ⟨x, e1, e2⟩ := hv; exact ⟨_, by rw [e1]; rfl, e2⟩)
theorem a_toList (r : Nat → Nat) (v : Option Value) (l : List Value) : (v.map (a_vr r)).toList ++ l.map (a_vr r) = (v.toList ++ l).map (a_vr r) := by cases v <;> rfl
/-- what a return needs -/
abbrev a_RT (G : aG) (p : Program) (e : Env) (R : Jvm.Room) (s : State) (m : MethodId) (args : Array Value) (below : List Frame) (meth : Method) (c : Code) (nL cells slots : Nat) (Q : State → Prop) (cc : ByteArray) (ret : Option FieldType) (post : aPost) : Prop :=
  (∀ (pc : Nat) (lv : aLV) (x : Int32) (μ : aMem), decode cc pc = .ok (.ireturn, 1) → (ret = some .int ∨ (ret = some .boolean ∧ (x = 0 ∨ x = 1))) → post (some (.int x)) μ → a_W G p e R s m args below meth c nL cells slots Q pc lv [.int x] μ) ∧
  (∀ (pc : Nat) (lv : aLV) (x : Int64) (μ : aMem), decode cc pc = .ok (.lreturn, 1) → ret = some .long → post (some (.long x)) μ → a_W G p e R s m args below meth c nL cells slots Q pc lv [.long x] μ) ∧
  (∀ (pc : Nat) (lv : aLV) (μ : aMem), decode cc pc = .ok (.return_, 1) → ret = none → post none μ → a_W G p e R s m args below meth c nL cells slots Q pc lv [] μ)
abbrev a_SC (G : aG) (s : State) (scr : Option (Nat × (Nat → Int32))) : Prop := ∀ L xs, scr = some (L, xs) → va_X (G.2.2.2 99) L xs s s.heap ∧ G.2.2.2 99 < s.heap.size ∧ ¬ a_A G.2.2.2 (G.2.2.2 99)
theorem a_sw_e {x : Int} {k : Int → Prop} : ∀ {os : List Int} {lo : Int}, a_sw x k lo os → lo ≤ x → x < lo + os.length → ∃ o, os[(x - lo).toNat]? = some o ∧ k o
  | [], lo, _, h1, h2 => by simp at h2; omega
  | o :: os, lo, h, h1, h2 => by
    by_cases hx : x = lo
    · subst hx
      exact ⟨o, by simp, h.1 rfl⟩
    · obtain ⟨o', e1, e2⟩ := a_sw_e (os := os) (lo := lo + 1) h.2 (by omega) (by simp at h2; omega)
      refine ⟨o', ?_, e2⟩
      have : (x - lo).toNat = (x - (lo + 1)).toNat + 1 := by omega
      rw [this]; simpa using e1
theorem a_s_puti {own : String} (C : a_CX G own cc nL p s m args c) {a ci j i : Nat} {fs : List (Nat ⊕ Nat)} {f : Nat ⊕ Nat} {pp : Nat} (hq : a_okF own (i, ci, j) pp = true) (ha : a_lay[a]? = some (.inr (ci, fs))) (hf : fs[j]? = some f) (hdg : decode cc pc = .ok (.putfield i, 3)) {x : Int32} {ft : aMem → Prop} {H : Heap} {locs : List Loc} {ls : Array Slot} {r : List Value} (hP : va_P G.2.1 vwCl (a_world G.2.2.1 G.2.2.2 μ) H) (hS : va_S (a_A G.2.2.2) s.heap H locs)
    (h : a_pk f (ft (va_up μ.1 a (upd (μ.1 a) j x), μ.2)) ((x = 0 ∨ x = 1) ∧ ft (va_up μ.1 a (upd (μ.1 a) j x), μ.2)))
    (kk : ∀ (H1 : Heap) (locs1 : List Loc), ft (va_up μ.1 a (upd (μ.1 a) j x), μ.2) → va_P G.2.1 vwCl (a_world G.2.2.1 G.2.2.2 (va_up μ.1 a (upd (μ.1 a) j x), μ.2)) H1 → va_S (a_A G.2.2.2) s.heap H1 locs1 → W p G.1 e R s m args below meth c H1 locs1 cells slots Q (F0 m (pc + 3) ls r)) : W p G.1 e R s m args below meth c H locs cells slots Q (F0 m pc ls (.int x :: .ref (G.2.2.2 a) :: r)) := by
  have fvn : ∀ (k : Nat) (f : Nat ⊕ Nat), k ≠ j → a_fv G.2.2.2 (va_up μ.1 a (upd (μ.1 a) j x), μ.2) a k f = a_fv G.2.2.2 μ a k f := by
    intro k f hk
    refine a_fv_cong (μ := (va_up μ.1 a (upd (μ.1 a) j x), μ.2)) (ν := μ) ?_ rfl f
    show (va_up μ.1 a (upd (μ.1 a) j x)) a k = _
    rw [va_up_self]; exact pk_un hk
  have fvs : (va_up μ.1 a (upd (μ.1 a) j x)) a j = x := by rw [va_up_self, pk_us]
  unfold a_pk at h
  split at h
  · exact a_s_put C (μ := μ) (ν := (va_up μ.1 a (upd (μ.1 a) j x), μ.2)) (v := .int x) (ty := .int) hq rfl ha hf (fun Cn T N h1 h2 => ((a_lay_obj ha h1).2 j h2).1 hf) rfl rfl (fun i hi => va_up_ne _ _ hi) (fun _ _ => rfl) fvn (congrArg Value.int fvs) hdg hP hS (fun H1 locs1 hP1 hS1 => kk H1 locs1 h hP1 hS1)
  · exact a_s_put C (μ := μ) (ν := (va_up μ.1 a (upd (μ.1 a) j x), μ.2)) (v := .int x) (ty := .boolean) hq rfl ha hf (fun Cn T N h1 h2 => ((a_lay_obj ha h1).2 j h2).2.2 hf) (by rcases h.1 with e | e <;> subst e <;> rfl) (by rcases h.1 with e | e <;> subst e <;> rfl) (fun i hi => va_up_ne _ _ hi) (fun _ _ => rfl) fvn (congrArg Value.int fvs) hdg hP hS (fun H1 locs1 hP1 hS1 => kk H1 locs1 h.2 hP1 hS1)
  · exact h.elim
theorem a_s_putl {own : String} (C : a_CX G own cc nL p s m args c) {a ci j i : Nat} {fs : List (Nat ⊕ Nat)} {f : Nat ⊕ Nat} {pp : Nat} (hq : a_okF own (i, ci, j) pp = true) (ha : a_lay[a]? = some (.inr (ci, fs))) (hf : fs[j]? = some f) (hdg : decode cc pc = .ok (.putfield i, 3)) {x : Int64} {ft : aMem → Prop} {H : Heap} {locs : List Loc} {ls : Array Slot} {r : List Value} (hP : va_P G.2.1 vwCl (a_world G.2.2.1 G.2.2.2 μ) H) (hS : va_S (a_A G.2.2.2) s.heap H locs)
    (h : a_pl f (ft (μ.1, va_up μ.2 a (vp_updL (μ.2 a) j x))))
    (kk : ∀ (H1 : Heap) (locs1 : List Loc), ft (μ.1, va_up μ.2 a (vp_updL (μ.2 a) j x)) → va_P G.2.1 vwCl (a_world G.2.2.1 G.2.2.2 (μ.1, va_up μ.2 a (vp_updL (μ.2 a) j x))) H1 → va_S (a_A G.2.2.2) s.heap H1 locs1 → W p G.1 e R s m args below meth c H1 locs1 cells slots Q (F0 m (pc + 3) ls r)) : W p G.1 e R s m args below meth c H locs cells slots Q (F0 m pc ls (.long x :: .ref (G.2.2.2 a) :: r)) := by
  have fvn : ∀ (k : Nat) (f : Nat ⊕ Nat), k ≠ j → a_fv G.2.2.2 (μ.1, va_up μ.2 a (vp_updL (μ.2 a) j x)) a k f = a_fv G.2.2.2 μ a k f := by
    intro k f hk
    refine a_fv_cong (μ := (μ.1, va_up μ.2 a (vp_updL (μ.2 a) j x))) (ν := μ) rfl ?_ f
    show (va_up μ.2 a (vp_updL (μ.2 a) j x)) a k = _
    rw [va_up_self]; exact pk_uLn hk
  have fvs : (va_up μ.2 a (vp_updL (μ.2 a) j x)) a j = x := by rw [va_up_self, pk_uLs]
  unfold a_pl at h
  split at h
  · exact a_s_put C (μ := μ) (ν := (μ.1, va_up μ.2 a (vp_updL (μ.2 a) j x))) (v := .long x) (ty := .long) hq rfl ha hf (fun Cn T N h1 h2 => ((a_lay_obj ha h1).2 j h2).2.1 hf) rfl rfl (fun _ _ => rfl) (fun i hi => va_up_ne _ _ hi) fvn (congrArg Value.long fvs) hdg hP hS (fun H1 locs1 hP1 hS1 => kk H1 locs1 h hP1 hS1)
  · exact h.elim
theorem a_s_iast {own : String} (C : a_CX G own cc nL p s m args c) {a n : Nat} (hla : a_lay[a]? = some (.inl (0, n))) {i x : Int32} (hi : vp_in i n) (hdg : decode cc pc = .ok (.iastore, 1)) {H : Heap} {locs : List Loc} {ls : Array Slot} {r : List Value} (hP : va_P G.2.1 vwCl (a_world G.2.2.1 G.2.2.2 μ) H) (hS : va_S (a_A G.2.2.2) s.heap H locs)
    (kk : ∀ (H1 : Heap) (locs1 : List Loc), va_P G.2.1 vwCl (a_world G.2.2.1 G.2.2.2 (va_up μ.1 a (upd (μ.1 a) i.toNatClampNeg x), μ.2)) H1 → va_S (a_A G.2.2.2) s.heap H1 locs1 → W p G.1 e R s m args below meth c H1 locs1 cells slots Q (F0 m (pc + 1) ls r)) : W p G.1 e R s m args below meth c H locs cells slots Q (F0 m pc ls (.int x :: .int i :: .ref (G.2.2.2 a) :: r)) := by
  obtain ⟨hx, hb, hml, hown, hts, hK, hN, hI⟩ := C
  refine va_iast hx hb hK hP (a_world_D hI) hS a 0 (a_world_at hla) rfl hi hdg (fun H1 locs1 hP1 hD1 hS1 => kk H1 locs1 ?_ hS1)
  rw [← a_world_set (μ := μ) (ν := (va_up μ.1 a (upd (μ.1 a) i.toNatClampNeg x), μ.2)) hla (fun i hi => va_up_ne _ _ hi) (fun _ _ => rfl)]
  have e1 : a_cell G.2.2.1 G.2.2.2 (va_up μ.1 a (upd (μ.1 a) i.toNatClampNeg x), μ.2) a (.inl (0, n)) = .inl (G.2.2.1.1, n, .inl (upd (μ.1 a) i.toNatClampNeg x)) := by
    show Sum.inl (G.2.2.1.1, n, Sum.inl ((va_up μ.1 a (upd (μ.1 a) i.toNatClampNeg x)) a)) = _
    rw [va_up_self]
  rw [e1]
  exact hP1
theorem a_s_zast {own : String} (C : a_CX G own cc nL p s m args c) {a n : Nat} (hla : a_lay[a]? = some (.inl (1, n))) {i x : Int32} (hi : vp_in i n) (hdg : decode cc pc = .ok (.bastore, 1)) {H : Heap} {locs : List Loc} {ls : Array Slot} {r : List Value} (hP : va_P G.2.1 vwCl (a_world G.2.2.1 G.2.2.2 μ) H) (hS : va_S (a_A G.2.2.2) s.heap H locs)
    (kk : ∀ (H1 : Heap) (locs1 : List Loc), va_P G.2.1 vwCl (a_world G.2.2.1 G.2.2.2 (va_up μ.1 a (upd (μ.1 a) i.toNatClampNeg (x &&& 1)), μ.2)) H1 → va_S (a_A G.2.2.2) s.heap H1 locs1 → W p G.1 e R s m args below meth c H1 locs1 cells slots Q (F0 m (pc + 1) ls r)) : W p G.1 e R s m args below meth c H locs cells slots Q (F0 m pc ls (.int x :: .int i :: .ref (G.2.2.2 a) :: r)) := by
  obtain ⟨hx, hb, hml, hown, hts, hK, hN, hI⟩ := C
  refine va_zast hx hb hK hP (a_world_D hI) hS a 1 (a_world_at hla) rfl hi hdg (fun H1 locs1 hP1 hD1 hS1 => kk H1 locs1 ?_ hS1)
  rw [← a_world_set (μ := μ) (ν := (va_up μ.1 a (upd (μ.1 a) i.toNatClampNeg (x &&& 1)), μ.2)) hla (fun i hi => va_up_ne _ _ hi) (fun _ _ => rfl)]
  have e1 : a_cell G.2.2.1 G.2.2.2 (va_up μ.1 a (upd (μ.1 a) i.toNatClampNeg (x &&& 1)), μ.2) a (.inl (1, n)) = .inl (G.2.2.1.2.1, n, .inl (upd (μ.1 a) i.toNatClampNeg (vp_nar .boolean x))) := by
    show Sum.inl (G.2.2.1.2.1, n, Sum.inl ((va_up μ.1 a (upd (μ.1 a) i.toNatClampNeg (x &&& 1))) a)) = _
    rw [va_up_self]; rfl
  rw [e1]
  exact hP1
theorem a_s_last {own : String} (C : a_CX G own cc nL p s m args c) {a n : Nat} (hla : a_lay[a]? = some (.inl (2, n))) {i : Int32} {x : Int64} (hi : vp_in i n) (hdg : decode cc pc = .ok (.lastore, 1)) {H : Heap} {locs : List Loc} {ls : Array Slot} {r : List Value} (hP : va_P G.2.1 vwCl (a_world G.2.2.1 G.2.2.2 μ) H) (hS : va_S (a_A G.2.2.2) s.heap H locs)
    (kk : ∀ (H1 : Heap) (locs1 : List Loc), va_P G.2.1 vwCl (a_world G.2.2.1 G.2.2.2 (μ.1, va_up μ.2 a (vp_updL (μ.2 a) i.toNatClampNeg x))) H1 → va_S (a_A G.2.2.2) s.heap H1 locs1 → W p G.1 e R s m args below meth c H1 locs1 cells slots Q (F0 m (pc + 1) ls r)) : W p G.1 e R s m args below meth c H locs cells slots Q (F0 m pc ls (.long x :: .int i :: .ref (G.2.2.2 a) :: r)) := by
  obtain ⟨hx, hb, hml, hown, hts, hK, hN, hI⟩ := C
  refine va_last hx hb hK hP (a_world_D hI) hS a 2 (a_world_at hla) rfl hi hdg (fun H1 locs1 hP1 hD1 hS1 => kk H1 locs1 ?_ hS1)
  rw [← a_world_set (μ := μ) (ν := (μ.1, va_up μ.2 a (vp_updL (μ.2 a) i.toNatClampNeg x))) hla (fun _ _ => rfl) (fun i hi => va_up_ne _ _ hi)]
  have e1 : a_cell G.2.2.1 G.2.2.2 (μ.1, va_up μ.2 a (vp_updL (μ.2 a) i.toNatClampNeg x)) a (.inl (2, n)) = .inl (G.2.2.1.2.2, n, .inr (.inl (vp_updL (μ.2 a) i.toNatClampNeg x))) := by
    show Sum.inl (G.2.2.1.2.2, n, Sum.inr (Sum.inl ((va_up μ.2 a (vp_updL (μ.2 a) i.toNatClampNeg x)) a))) = _
    rw [va_up_self]
  rw [e1]
  exact hP1
set_option maxHeartbeats 4000000 in
set_option maxRecDepth 100000 in
theorem a_ins_sound {own : String} (C : a_CX G own cc nL p s m args c) (hcs : cells ≤ R.cells ∧ slots ≤ R.slots) {tab : aTab} (hT : a_TOK own tab) {ret : Option FieldType} {scr : Option (Nat × (Nat → Int32))} (hscr : a_SC G s scr) {post : aPost} (hrt : a_RT G p e R s m args below meth c nL cells slots Q cc ret post)
    {ins : Instr} {len : Nat} (hdg : decode cc pc = .ok (ins, len)) (hlen : len = a_len ins ∨ a_len ins = 0) {ft : aLV → List Value → aMem → Prop} {jp : Nat → aLV → List Value → aMem → Prop} (hft : a_WW G p e R s m args below meth c nL cells slots Q (pc + len) ft) (hjp : ∀ t, a_WW G p e R s m args below meth c nL cells slots Q t (jp t))
    (h : a_ins tab R nL ret scr (a_Spec G) post ins pc ft jp lv st μ) : a_W G p e R s m args below meth c nL cells slots Q pc lv st μ := by
  have C' := C
  obtain ⟨hx, hb, hml, hown, hts, hK, hN, hI⟩ := C'
  intro H locs ls hP hS hl
  cases ins
  case aload_n k =>
    obtain ⟨x, h1, h2⟩ := a_gr_e h
    obtain rfl : len = 1 := hlen.elim id (fun q => by cases q)
    exact lv_aload_n hx hb hdg rfl (hl.2.2 _ (a_lm_in h1)) (hft _ _ _ h2 H locs ls hP hS hl)
  case aload k =>
    obtain ⟨x, h1, h2⟩ := a_gr_e h
    obtain rfl : len = 2 := hlen.elim id (fun q => by cases q)
    exact lv_aload hx hb hdg (hl.2.2 _ (a_lm_in h1)) (hft _ _ _ h2 H locs ls hP hS hl)
  case iload_n k =>
    obtain ⟨x, h1, h2⟩ := a_gi_e h
    obtain rfl : len = 1 := hlen.elim id (fun q => by cases q)
    exact lv_iload_n hx hb hdg rfl (hl.2.2 _ (a_lm_in h1)) (hft _ _ _ h2 H locs ls hP hS hl)
  case iload k =>
    obtain ⟨x, h1, h2⟩ := a_gi_e h
    obtain rfl : len = 2 := hlen.elim id (fun q => by cases q)
    exact lv_iload hx hb hdg (hl.2.2 _ (a_lm_in h1)) (hft _ _ _ h2 H locs ls hP hS hl)
  case lload_n k =>
    obtain ⟨x, h1, h2⟩ := a_gl_e h
    obtain rfl : len = 1 := hlen.elim id (fun q => by cases q)
    exact lv_lload_n hx hb hdg rfl (hl.2.2 _ (a_lm_in h1)) (hft _ _ _ h2 H locs ls hP hS hl)
  case lload k =>
    obtain ⟨x, h1, h2⟩ := a_gl_e h
    obtain rfl : len = 2 := hlen.elim id (fun q => by cases q)
    exact lv_lload hx hb hdg (hl.2.2 _ (a_lm_in h1)) (hft _ _ _ h2 H locs ls hP hS hl)
  case istore_n k =>
    replace h := a_p1i_e h; obtain ⟨x, r, rfl, h⟩ := h
    obtain ⟨h1, h2⟩ := a_ck_e h
    obtain rfl : len = 1 := hlen.elim id (fun q => by cases q)
    exact lv_istore_n hx hb hdg rfl hl (by simpa [Nat.blt_eq] using h1) (a_lm_st1 _ _ _ (.int x)) (fun ls' hl' => hft _ _ _ h2 H locs ls' hP hS hl')
  case istore k =>
    replace h := a_p1i_e h; obtain ⟨x, r, rfl, h⟩ := h
    obtain ⟨h1, h2⟩ := a_ck_e h
    obtain rfl : len = 2 := hlen.elim id (fun q => by cases q)
    exact lv_istore hx hb hdg hl (by simpa [Nat.blt_eq] using h1) (a_lm_st1 _ _ _ (.int x)) (fun ls' hl' => hft _ _ _ h2 H locs ls' hP hS hl')
  case lstore_n k =>
    replace h := a_p1l_e h; obtain ⟨x, r, rfl, h⟩ := h
    obtain ⟨h1, h2⟩ := a_ck_e h
    obtain rfl : len = 1 := hlen.elim id (fun q => by cases q)
    exact lv_lstore_n hx hb hdg rfl hl (by simpa [Nat.blt_eq] using h1) (a_lm_st2 _ _ _ (.long x)) (fun ls' hl' => hft _ _ _ h2 H locs ls' hP hS hl')
  case lstore k =>
    replace h := a_p1l_e h; obtain ⟨x, r, rfl, h⟩ := h
    obtain ⟨h1, h2⟩ := a_ck_e h
    obtain rfl : len = 2 := hlen.elim id (fun q => by cases q)
    exact lv_lstore hx hb hdg hl (by simpa [Nat.blt_eq] using h1) (a_lm_st2 _ _ _ (.long x)) (fun ls' hl' => hft _ _ _ h2 H locs ls' hP hS hl')
  case iinc i n =>
    obtain ⟨x, h0, h⟩ := a_gi_e h
    obtain ⟨h1, h2⟩ := a_ck_e h
    obtain rfl : len = 3 := hlen.elim id (fun q => by cases q)
    obtain ⟨k, hk⟩ := List.getElem?_of_mem (a_lm_in (r := G.2.2.2) h0)
    exact lv_iinc hx hb hdg hl hk rfl (by simpa [Nat.blt_eq] using h1) (a_lm_st1 _ _ _ (.int (x + Int32.ofInt n))) (fun ls' hl' => hft _ _ _ h2 H locs ls' hP hS hl')
  case iconst n =>
    obtain rfl : len = 1 := hlen.elim id (fun q => by cases q)
    exact lv_iconst hx hb hdg rfl (hft _ _ _ h H locs ls hP hS hl)
  case bipush n =>
    obtain rfl : len = 2 := hlen.elim id (fun q => by cases q)
    exact lv_bipush hx hb hdg rfl (hft _ _ _ h H locs ls hP hS hl)
  case sipush n =>
    obtain rfl : len = 3 := hlen.elim id (fun q => by cases q)
    exact lv_sipush hx hb hdg rfl (hft _ _ _ h H locs ls hP hS hl)
  case lconst n =>
    obtain rfl : len = 1 := hlen.elim id (fun q => by cases q)
    exact lv_lconst hx hb hdg rfl (hft _ _ _ h H locs ls hP hS hl)
  case ldc i =>
    obtain ⟨v, hv, h⟩ := a_ld_e h
    obtain rfl : len = 2 := hlen.elim id (fun q => by cases q)
    exact lv_ldc hx hb hown (a_ws_of hts (hT.2.2.1 _ (a_look_in hv)) rfl) hdg (hft _ _ _ h H locs ls hP hS hl)
  case ldc_w i =>
    obtain ⟨v, hv, h⟩ := a_ld_e h
    obtain rfl : len = 3 := hlen.elim id (fun q => by cases q)
    exact lv_ldcw hx hb hown (a_ws_of hts (hT.2.2.1 _ (a_look_in hv)) rfl) hdg (hft _ _ _ h H locs ls hP hS hl)
  case ldc2_w i =>
    obtain ⟨v, hv, h⟩ := a_ld_e h
    obtain rfl : len = 3 := hlen.elim id (fun q => by cases q)
    exact lv_ldc2 hx hb hown (a_ws_of hts (hT.2.2.2 _ (a_look_in hv)) rfl) hdg (hft _ _ _ h H locs ls hP hS hl)
  case iadd =>
    replace h := a_p2i_e h; obtain ⟨x, y, r, rfl, h⟩ := h
    obtain rfl : len = 1 := hlen.elim id (fun q => by cases q)
    exact lv_iadd hx hb hdg (hft _ _ _ h H locs ls hP hS hl)
  case isub =>
    replace h := a_p2i_e h; obtain ⟨x, y, r, rfl, h⟩ := h
    obtain rfl : len = 1 := hlen.elim id (fun q => by cases q)
    exact lv_isub hx hb hdg (hft _ _ _ h H locs ls hP hS hl)
  case imul =>
    replace h := a_p2i_e h; obtain ⟨x, y, r, rfl, h⟩ := h
    obtain rfl : len = 1 := hlen.elim id (fun q => by cases q)
    exact lv_imul hx hb hdg (hft _ _ _ h H locs ls hP hS hl)
  case iand =>
    replace h := a_p2i_e h; obtain ⟨x, y, r, rfl, h⟩ := h
    obtain rfl : len = 1 := hlen.elim id (fun q => by cases q)
    exact lv_iand hx hb hdg (hft _ _ _ h H locs ls hP hS hl)
  case ior =>
    replace h := a_p2i_e h; obtain ⟨x, y, r, rfl, h⟩ := h
    obtain rfl : len = 1 := hlen.elim id (fun q => by cases q)
    exact lv_ior hx hb hdg (hft _ _ _ h H locs ls hP hS hl)
  case ixor =>
    replace h := a_p2i_e h; obtain ⟨x, y, r, rfl, h⟩ := h
    obtain rfl : len = 1 := hlen.elim id (fun q => by cases q)
    exact lv_ixor hx hb hdg (hft _ _ _ h H locs ls hP hS hl)
  case ishl =>
    replace h := a_p2i_e h; obtain ⟨x, y, r, rfl, h⟩ := h
    obtain rfl : len = 1 := hlen.elim id (fun q => by cases q)
    exact lv_ishl hx hb hdg (hft _ _ _ h H locs ls hP hS hl)
  case ishr =>
    replace h := a_p2i_e h; obtain ⟨x, y, r, rfl, h⟩ := h
    obtain rfl : len = 1 := hlen.elim id (fun q => by cases q)
    exact lv_ishr hx hb hdg (hft _ _ _ h H locs ls hP hS hl)
  case ladd =>
    replace h := a_p2l_e h; obtain ⟨x, y, r, rfl, h⟩ := h
    obtain rfl : len = 1 := hlen.elim id (fun q => by cases q)
    exact lv_ladd hx hb hdg (hft _ _ _ h H locs ls hP hS hl)
  case lmul =>
    replace h := a_p2l_e h; obtain ⟨x, y, r, rfl, h⟩ := h
    obtain rfl : len = 1 := hlen.elim id (fun q => by cases q)
    exact lv_lmul hx hb hdg (hft _ _ _ h H locs ls hP hS hl)
  case idiv =>
    replace h := a_p2i_e h; obtain ⟨x, y, r, rfl, h0, h⟩ := h
    obtain rfl : len = 1 := hlen.elim id (fun q => by cases q)
    exact lv_idiv hx hb hdg h0 (hft _ _ _ h H locs ls hP hS hl)
  case iushr =>
    replace h := a_p2i_e h; obtain ⟨x, y, r, rfl, h⟩ := h
    obtain rfl : len = 1 := hlen.elim id (fun q => by cases q)
    exact lv_iushr hx hb hdg rfl (hft _ _ _ h H locs ls hP hS hl)
  case ineg =>
    replace h := a_p1i_e h; obtain ⟨x, r, rfl, h⟩ := h
    obtain rfl : len = 1 := hlen.elim id (fun q => by cases q)
    exact lv_ineg hx hb hdg (hft _ _ _ h H locs ls hP hS hl)
  case lcmp =>
    replace h := a_p2l_e h; obtain ⟨x, y, r, rfl, h⟩ := h
    obtain rfl : len = 1 := hlen.elim id (fun q => by cases q)
    exact W.lcmp hx hb hdg (hft _ _ _ h H locs ls hP hS hl)
  case lshl =>
    replace h := a_p1i_e h; obtain ⟨y, r, rfl, h⟩ := h
    replace h := a_p1l_e h; obtain ⟨x, r, rfl, h⟩ := h
    obtain rfl : len = 1 := hlen.elim id (fun q => by cases q)
    exact lv_lshl hx hb hdg rfl (hft _ _ _ h H locs ls hP hS hl)
  case lshr =>
    replace h := a_p1i_e h; obtain ⟨y, r, rfl, h⟩ := h
    replace h := a_p1l_e h; obtain ⟨x, r, rfl, h⟩ := h
    obtain rfl : len = 1 := hlen.elim id (fun q => by cases q)
    exact lv_lshr hx hb hdg rfl (hft _ _ _ h H locs ls hP hS hl)
  case i2l =>
    replace h := a_p1i_e h; obtain ⟨x, r, rfl, h⟩ := h
    obtain rfl : len = 1 := hlen.elim id (fun q => by cases q)
    exact lv_i2l hx hb hdg rfl (hft _ _ _ h H locs ls hP hS hl)
  case l2i =>
    replace h := a_p1l_e h; obtain ⟨x, r, rfl, h⟩ := h
    obtain rfl : len = 1 := hlen.elim id (fun q => by cases q)
    exact lv_l2i hx hb hdg rfl (hft _ _ _ h H locs ls hP hS hl)
  case dup =>
    obtain rfl : len = 1 := hlen.elim id (fun q => by cases q)
    have h1 : a_du st fun v r => ft lv (v :: v :: r) μ := h
    obtain ⟨v, r, e0, hv, h2⟩ := a_du_e h1
    subst e0
    exact lv_dup hx hb hdg (by rw [a_vr_cat]; exact hv) (hft _ _ _ h2 H locs ls hP hS hl)
  case dup2 =>
    obtain rfl : len = 1 := hlen.elim id (fun q => by cases q)
    have h1 : a_du st fun v r => a_du r fun w r => ft lv (v :: w :: v :: w :: r) μ := h
    obtain ⟨v, r, e0, hv, h2⟩ := a_du_e h1
    obtain ⟨w, r', e1, hw, h3⟩ := a_du_e h2
    subst e0
    subst e1
    exact lv_dup2_11 hx hb hdg (by rw [a_vr_cat]; exact hv) (by rw [a_vr_cat]; exact hw) (hft _ _ _ h3 H locs ls hP hS hl)
  case ifCond cd off =>
    replace h := a_p1i_e h; obtain ⟨x, r, rfl, h⟩ := h
    obtain ⟨t, ht, h⟩ := a_tg_e h
    obtain rfl : len = 3 := hlen.elim id (fun q => by cases q)
    cases cd
    case eq => exact lv_if_eq hx hb hdg ht (fun q => hjp t _ _ _ (h.1 q) H locs ls hP hS hl) (fun q => hft _ _ _ (h.2 q) H locs ls hP hS hl)
    case ne => exact lv_if_ne hx hb hdg ht (fun q => hjp t _ _ _ (h.1 q) H locs ls hP hS hl) (fun q => hft _ _ _ (h.2 q) H locs ls hP hS hl)
    case lt => exact lv_if_lt hx hb hdg ht (fun q => hjp t _ _ _ (h.1 q) H locs ls hP hS hl) (fun q => hft _ _ _ (h.2 q) H locs ls hP hS hl)
    case ge => exact lv_if_ge hx hb hdg ht (fun q => hjp t _ _ _ (h.1 q) H locs ls hP hS hl) (fun q => hft _ _ _ (h.2 q) H locs ls hP hS hl)
    case gt => exact lv_if_gt hx hb hdg ht (fun q => hjp t _ _ _ (h.1 q) H locs ls hP hS hl) (fun q => hft _ _ _ (h.2 q) H locs ls hP hS hl)
    case le => exact lv_if_le hx hb hdg ht (fun q => hjp t _ _ _ (h.1 q) H locs ls hP hS hl) (fun q => hft _ _ _ (h.2 q) H locs ls hP hS hl)
  case if_icmp cd off =>
    replace h := a_p2i_e h; obtain ⟨x, y, r, rfl, h⟩ := h
    obtain ⟨t, ht, h⟩ := a_tg_e h
    obtain rfl : len = 3 := hlen.elim id (fun q => by cases q)
    cases cd
    case eq => exact lv_icmp_eq hx hb hdg ht (fun q => hjp t _ _ _ (h.1 q) H locs ls hP hS hl) (fun q => hft _ _ _ (h.2 q) H locs ls hP hS hl)
    case ne => exact lv_icmp_ne hx hb hdg ht (fun q => hjp t _ _ _ (h.1 q) H locs ls hP hS hl) (fun q => hft _ _ _ (h.2 q) H locs ls hP hS hl)
    case lt => exact lv_icmp_lt hx hb hdg ht (fun q => hjp t _ _ _ (h.1 q) H locs ls hP hS hl) (fun q => hft _ _ _ (h.2 q) H locs ls hP hS hl)
    case ge => exact lv_icmp_ge hx hb hdg ht (fun q => hjp t _ _ _ (h.1 q) H locs ls hP hS hl) (fun q => hft _ _ _ (h.2 q) H locs ls hP hS hl)
    case gt => exact lv_icmp_gt hx hb hdg ht (fun q => hjp t _ _ _ (h.1 q) H locs ls hP hS hl) (fun q => hft _ _ _ (h.2 q) H locs ls hP hS hl)
    case le => exact lv_icmp_le hx hb hdg ht (fun q => hjp t _ _ _ (h.1 q) H locs ls hP hS hl) (fun q => hft _ _ _ (h.2 q) H locs ls hP hS hl)
  case goto off =>
    obtain ⟨t, ht, h⟩ := a_tg_e h
    obtain rfl : len = 3 := hlen.elim id (fun q => by cases q)
    exact lv_goto hx hb hdg ht (hjp t _ _ _ h H locs ls hP hS hl)
  case tableswitch dflt lo hi offs =>
    replace h := a_p1i_e h; obtain ⟨x, r, rfl, h⟩ := h
    obtain ⟨h0, h1, h2⟩ := a_ck_e h
    have h0 := of_decide_eq_true h0
    by_cases ho : x.toInt < lo ∨ hi < x.toInt
    · obtain ⟨t, ht, h⟩ := a_tg_e (h1 ho)
      exact lv_tableOut hx hb hdg ho ht (hjp t _ _ _ h H locs ls hP hS hl)
    · obtain ⟨o, e1, e2⟩ := a_sw_e h2 (by omega) (by omega)
      obtain ⟨t, ht, h⟩ := a_tg_e e2
      exact lv_tableIn hx hb hdg (by omega) (by omega) (by simpa using e1) ht (hjp t _ _ _ h H locs ls hP hS hl)
  case getfield i =>
    obtain ⟨a, r, e0, h1⟩ := a_p1r_e h
    obtain ⟨⟨ci, j⟩, hlk, h2⟩ := a_ld_e h1
    obtain ⟨pp, hq⟩ := hT.1 _ (a_look_in hlk)
    obtain ⟨ci', fs, hla, h3⟩ := a_ob_e h2
    obtain ⟨he, h4⟩ := a_ck_e h3
    have e1 : ci = ci' := Nat.eq_of_beq_eq_true he
    obtain ⟨f, hfj, h5⟩ := a_ld_e h4
    obtain rfl : len = 3 := hlen.elim id (fun q => by cases q)
    subst e0
    subst e1
    refine a_s_get C hq rfl hla hfj hdg hP ?_
    have h6 : a_fk f (fun b => ft lv (.ref b :: r) μ) (ft lv (.long (μ.2 a j) :: r) μ) (ft lv (.int (μ.1 a j) :: r) μ) := h5
    match f, h6 with
    | .inl q, h6 => exact hft _ _ _ h6 H locs ls hP hS hl
    | .inr 0, h6 => exact hft _ _ _ h6 H locs ls hP hS hl
    | .inr 1, h6 => exact hft _ _ _ h6 H locs ls hP hS hl
    | .inr (z + 2), h6 => exact hft _ _ _ h6 H locs ls hP hS hl
  case putfield i =>
    obtain rfl : len = 3 := hlen.elim id (fun q => by cases q)
    rcases a_pv_e h with ⟨x, a, r, e0, h1⟩ | ⟨x, a, r, e0, h1⟩
    · obtain ⟨⟨ci, j⟩, hlk, h2⟩ := a_ld_e h1
      obtain ⟨pp, hq⟩ := hT.1 _ (a_look_in hlk)
      obtain ⟨ci', fs, hla, h3⟩ := a_ob_e h2
      obtain ⟨he, h4⟩ := a_ck_e h3
      have e1 : ci = ci' := Nat.eq_of_beq_eq_true he
      obtain ⟨f, hfj, h5⟩ := a_ld_e h4
      subst e0
      subst e1
      exact a_s_puti (ft := fun ν => ft lv r ν) C hq hla hfj hdg hP hS h5 (fun H1 locs1 hh hP1 hS1 => hft _ _ _ hh H1 locs1 ls hP1 hS1 hl)
    · obtain ⟨⟨ci, j⟩, hlk, h2⟩ := a_ld_e h1
      obtain ⟨pp, hq⟩ := hT.1 _ (a_look_in hlk)
      obtain ⟨ci', fs, hla, h3⟩ := a_ob_e h2
      obtain ⟨he, h4⟩ := a_ck_e h3
      have e1 : ci = ci' := Nat.eq_of_beq_eq_true he
      obtain ⟨f, hfj, h5⟩ := a_ld_e h4
      subst e0
      subst e1
      exact a_s_putl (ft := fun ν => ft lv r ν) C hq hla hfj hdg hP hS h5 (fun H1 locs1 hh hP1 hS1 => hft _ _ _ hh H1 locs1 ls hP1 hS1 hl)
  case iaload =>
    replace h := a_p1i_e h; obtain ⟨i, r, rfl, h⟩ := h
    replace h := a_p1r_e h; obtain ⟨a, r, rfl, h⟩ := h
    obtain rfl : len = 1 := hlen.elim id (fun q => by cases q)
    rcases a_sc_e h with h | ⟨rfl, L, xs, hsc, h⟩
    · obtain ⟨n, hla, h⟩ := a_ar_e h
      exact va_iald hx hb hK hP a 0 (a_world_at hla) rfl h.1 hdg (hft _ _ _ h.2 H locs ls hP hS hl)
    · obtain ⟨q1, q2, q3⟩ := hscr L xs hsc
      exact va_sld hx hb q1 q2 q3 hS h.1 hdg (hft _ _ _ h.2 H locs ls hP hS hl)
  case baload =>
    replace h := a_p1i_e h; obtain ⟨i, r, rfl, h⟩ := h
    replace h := a_p1r_e h; obtain ⟨a, r, rfl, h⟩ := h
    obtain rfl : len = 1 := hlen.elim id (fun q => by cases q)
    obtain ⟨n, hla, h⟩ := a_ar_e h
    exact va_zald hx hb hK hP a 1 (a_world_at hla) rfl h.1 hdg (hft _ _ _ h.2 H locs ls hP hS hl)
  case laload =>
    replace h := a_p1i_e h; obtain ⟨i, r, rfl, h⟩ := h
    replace h := a_p1r_e h; obtain ⟨a, r, rfl, h⟩ := h
    obtain rfl : len = 1 := hlen.elim id (fun q => by cases q)
    obtain ⟨n, hla, h⟩ := a_ar_e h
    exact va_lald hx hb hK hP a 2 (a_world_at hla) rfl h.1 hdg (hft _ _ _ h.2 H locs ls hP hS hl)
  case iastore =>
    replace h := a_p1i_e h; obtain ⟨x, r, rfl, h⟩ := h
    replace h := a_p1i_e h; obtain ⟨i, r, rfl, h⟩ := h
    replace h := a_p1r_e h; obtain ⟨a, r, rfl, h⟩ := h
    obtain rfl : len = 1 := hlen.elim id (fun q => by cases q)
    obtain ⟨n, hla, h⟩ := a_ar_e h
    exact a_s_iast C hla h.1 hdg hP hS (fun H1 locs1 hP1 hS1 => hft _ _ _ h.2 H1 locs1 ls hP1 hS1 hl)
  case bastore =>
    replace h := a_p1i_e h; obtain ⟨x, r, rfl, h⟩ := h
    replace h := a_p1i_e h; obtain ⟨i, r, rfl, h⟩ := h
    replace h := a_p1r_e h; obtain ⟨a, r, rfl, h⟩ := h
    obtain rfl : len = 1 := hlen.elim id (fun q => by cases q)
    obtain ⟨n, hla, h⟩ := a_ar_e h
    exact a_s_zast C hla h.1 hdg hP hS (fun H1 locs1 hP1 hS1 => hft _ _ _ h.2 H1 locs1 ls hP1 hS1 hl)
  case lastore =>
    replace h := a_p1l_e h; obtain ⟨x, r, rfl, h⟩ := h
    replace h := a_p1i_e h; obtain ⟨i, r, rfl, h⟩ := h
    replace h := a_p1r_e h; obtain ⟨a, r, rfl, h⟩ := h
    obtain rfl : len = 1 := hlen.elim id (fun q => by cases q)
    obtain ⟨n, hla, h⟩ := a_ar_e h
    exact a_s_last C hla h.1 hdg hP hS (fun H1 locs1 hP1 hS1 => hft _ _ _ h.2 H1 locs1 ls hP1 hS1 hl)
  case arraylength =>
    replace h := a_p1r_e h; obtain ⟨a, r, rfl, h⟩ := h
    obtain rfl : len = 1 := hlen.elim id (fun q => by cases q)
    rcases a_sc_e h with h | ⟨rfl, L, xs, hsc, h⟩
    · obtain ⟨n, hla, h⟩ := a_ar_e h
      exact va_alen hx hb hK hP a 0 (a_world_at hla) rfl rfl hdg (hft _ _ _ h H locs ls hP hS hl)
    · obtain ⟨q1, q2, q3⟩ := hscr L xs hsc
      exact va_slen hx hb q1 q2 q3 hS hdg (hft _ _ _ h H locs ls hP hS hl)
  case invokevirtual i =>
    obtain rfl : len = 3 := hlen.elim id (fun q => by cases q)
    obtain ⟨⟨kd, ci, n, S⟩, hlk, h1⟩ := a_ld_e h
    obtain ⟨pp, hq⟩ := hT.2.1 _ (a_look_in hlk)
    obtain ⟨as, r0, e0, hn, h2⟩ := a_pop_e h1
    obtain ⟨a, r, e1, h3⟩ := a_p1r_e h2
    obtain ⟨ci', fs, hla, h4⟩ := a_ob_e h3
    obtain ⟨he, h5⟩ := a_ck_e h4
    simp only [Bool.and_eq_true] at he
    have e2 : kd = 0 := Nat.eq_of_beq_eq_true he.1.1
    have e3 : ci = ci' := Nat.eq_of_beq_eq_true he.1.2
    rw [List.append_nil] at h5
    subst e0
    subst e1
    subst e2
    subst e3
    refine a_s_res h5 (fun post hM hk => a_s_callV C hcs hq hla hn he.2 hM hdg hP hS hl (fun v ν H1 locs1 hv hP1 hS1 => ?_))
    obtain ⟨vs, e1, e2⟩ := hk v ν hv
    rw [a_toList, e1]
    exact hft _ _ _ e2 H1 locs1 ls hP1 hS1 hl
  case invokestatic i =>
    obtain rfl : len = 3 := hlen.elim id (fun q => by cases q)
    obtain ⟨⟨kd, ci, n, S⟩, hlk, h1⟩ := a_ld_e h
    obtain ⟨pp, hq⟩ := hT.2.1 _ (a_look_in hlk)
    rcases a_kd_e h1 with ⟨ek, h1⟩ | ⟨ek, h1⟩ | h1
    · have ek : kd = 3 := ek
      subst ek
      obtain ⟨x, y, r, e0, h2⟩ := a_p2i_e h1
      obtain ⟨he, h3⟩ := a_ck_e h2
      simp only [Bool.and_eq_true, Nat.ble_eq] at he
      subst e0
      obtain ⟨g1, g2, g3, g4⟩ := a_okC3_e hq
      have hcat : ∀ l : List Value, ((l.map (a_vr G.2.2.2)).map fun v => v.category) = l.map fun v => v.category := fun l => by rw [List.map_map]; exact List.map_congr_left (fun v _ => a_vr_cat _ v)
      exact va_mmin hx hb (hml.trans hl.1.symm) hown (a_ws_of hts g3 rfl) (a_ws_of hts g4 rfl) (a_ws_of hts g2 rfl) (a_ws_of hts g1 rfl) he.1 (by rw [hcat]; exact he.2) hcs.1 hcs.2 hdg (hft _ _ _ h3 H locs ls hP hS hl)
    · have ek : kd = 4 := ek
      subst ek
      obtain ⟨x, y, r, e0, h2⟩ := a_p2l_e h1
      obtain ⟨he, h3⟩ := a_ck_e h2
      simp only [Bool.and_eq_true, Nat.ble_eq] at he
      subst e0
      obtain ⟨g1, g2, g3, g4⟩ := a_okC4_e hq
      have hcat : ∀ l : List Value, ((l.map (a_vr G.2.2.2)).map fun v => v.category) = l.map fun v => v.category := fun l => by rw [List.map_map]; exact List.map_congr_left (fun v _ => a_vr_cat _ v)
      exact va_mmin_long hx hb (hml.trans hl.1.symm) hown (a_ws_of hts g3 rfl) (a_ws_of hts g4 rfl) (a_ws_of hts g2 rfl) (a_ws_of hts g1 rfl) he.1 (by rw [hcat]; exact he.2) hcs.1 hcs.2 hdg (hft _ _ _ h3 H locs ls hP hS hl)
    obtain ⟨as, r, e0, hn, h2⟩ := a_pop_e h1
    obtain ⟨he, h3⟩ := a_ck_e h2
    simp only [Bool.and_eq_true, Bool.or_eq_true] at he
    rw [List.append_nil] at h3
    subst e0
    refine a_s_res h3 (fun post hM hk => ?_)
    have kk : ∀ (v : Option Value) (ν : aMem) (H1 : Heap) (locs1 : List Loc), post v ν → va_P G.2.1 vwCl (a_world G.2.2.1 G.2.2.2 ν) H1 → va_S (a_A G.2.2.2) s.heap H1 locs1 → W p G.1 e R s m args below meth c H1 locs1 cells slots Q (F0 m (pc + 3) ls ((v.map (a_vr G.2.2.2)).toList ++ r.map (a_vr G.2.2.2))) := fun v ν H1 locs1 hv hP1 hS1 => by
      obtain ⟨vs, e1, e2⟩ := hk v ν hv
      rw [a_toList, e1]
      exact hft _ _ _ e2 H1 locs1 ls hP1 hS1 hl
    rcases he.1 with e0 | e0
    · have e4 : kd = 1 := Nat.eq_of_beq_eq_true e0
      subst e4
      exact a_s_callS C hcs hq hn he.2 hM hdg hP hS hl kk
    · have e4 : kd = 2 := Nat.eq_of_beq_eq_true e0
      subst e4
      exact a_s_callN C hcs hq hn he.2 hM hdg hP hS hl kk
  case ireturn =>
    obtain rfl : len = 1 := hlen.elim id (fun q => by cases q)
    replace h := a_p1i_e h; obtain ⟨x, r, rfl, h⟩ := h
    obtain ⟨rfl, h⟩ := a_e1_e h
    obtain ⟨h1, h⟩ := a_ri_e h
    exact hrt.1 pc lv x μ hdg h1 h H locs ls hP hS hl
  case lreturn =>
    obtain rfl : len = 1 := hlen.elim id (fun q => by cases q)
    replace h := a_p1l_e h; obtain ⟨x, r, rfl, h⟩ := h
    obtain ⟨rfl, h⟩ := a_e1_e h
    obtain ⟨h1, h⟩ := a_rl_e h
    exact hrt.2.1 pc lv x μ hdg h1 h H locs ls hP hS hl
  case return_ =>
    obtain rfl : len = 1 := hlen.elim id (fun q => by cases q)
    replace h := a_e1_e h
    obtain ⟨rfl, h⟩ := h
    obtain ⟨h1, h⟩ := a_rv_e h
    exact hrt.2.2 pc lv μ hdg h1 h H locs ls hP hS hl
  all_goals exact False.elim h
theorem a_at_in {t : Nat} : ∀ {pg : aPg}, ∀ q ∈ a_at t pg, q ∈ pg
  | [], q, h => h
  | x :: r, q, h => by
    unfold a_at at h
    split at h
    · exact h
    · exact List.mem_cons_of_mem _ (a_at_in q h)
/-- THE ABSTRACT MACHINE IS SOUND -/
theorem awp_W {own : String} (C : a_CX G own cc nL p s m args c) (hcs : cells ≤ R.cells ∧ slots ≤ R.slots) {tab : aTab} (hT : a_TOK own tab) {ret : Option FieldType} {scr : Option (Nat × (Nat → Int32))} (hscr : a_SC G s scr) {post : aPost} (hrt : a_RT G p e R s m args below meth c nL cells slots Q cc ret post) {pg : aPg} (hpg : (pg.all fun q => decide (decode cc q.1 = .ok (q.2.1, q.2.2))) = true) {cuts : List (Nat × List Nat)} {rn : Nat → aLV → List Value → aMem → Prop} (hrn : ∀ pc, a_WW G p e R s m args below meth c nL cells slots Q pc (rn pc)) :
    ∀ (n : Nat) (pl : aPg) (lv : aLV) (st : List Value) (μ : aMem), (∀ q ∈ pl, q ∈ pg) → awp tab pg cuts R nL ret scr (a_Spec G) rn post n pl lv st μ → ∃ q r, pl = q :: r ∧ a_W G p e R s m args below meth c nL cells slots Q q.1 lv st μ := by
  intro n
  have pick : ∀ (pc : Nat) (lv : aLV) (ks : List Nat) (st : List Value) (μ : aMem), rn pc (a_pick lv ks) st μ → a_W G p e R s m args below meth c nL cells slots Q pc lv st μ := fun pc lv ks st μ h H locs ls hP hS hl => hrn pc _ _ _ h H locs ls hP hS (a_lm_sub hl a_pick_in)
  induction n with
  | zero => intro pl lv st μ _ h; exact h.elim
  | succ n ih =>
    intro pl lv st μ hin h
    unfold awp at h
    split at h
    · exact h.elim
    · rename_i q rest
      obtain ⟨hlen, h⟩ := a_ck_e h
      refine ⟨q, rest, rfl, ?_⟩
      have hdg : decode cc q.1 = .ok (q.2.1, q.2.2) := of_decide_eq_true (List.all_eq_true.mp hpg q (hin q List.mem_cons_self))
      refine a_ins_sound C hcs hT hscr hrt hdg ?_ ?_ ?_ h
      · simp only [Bool.or_eq_true] at hlen
        rcases hlen with e | e
        · exact Or.inl (Nat.eq_of_beq_eq_true e)
        · exact Or.inr (Nat.eq_of_beq_eq_true e)
      · intro lv st μ h
        split at h
        · exact pick _ _ _ _ _ h
        · obtain ⟨h1, h2⟩ := a_ck_e h
          obtain ⟨q', r', e1, e2⟩ := ih rest lv st μ (fun x hx => hin x (List.mem_cons_of_mem _ hx)) h2
          subst e1
          have e3 : q'.1 = q.1 + q.2.2 := Nat.eq_of_beq_eq_true h1
          rw [← e3]; exact e2
      · intro t lv st μ h
        split at h
        · exact pick _ _ _ _ _ h
        · obtain ⟨h1, h2⟩ := a_ck_e h
          obtain ⟨q', r', e1, e2⟩ := ih (a_at t pg) lv st μ a_at_in h2
          rw [e1] at h1
          have e3 : q'.1 = t := Nat.eq_of_beq_eq_true h1
          rw [← e3]; exact e2
end AINS
