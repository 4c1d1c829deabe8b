/-! ===== from the abstract machine to contracts ===== -/
theorem a_lm_args (r : Nat → Nat) : ∀ (i : Nat) (as : List Value), lv_args i (as.map (a_vr r)) = a_lm r (lv_args i as)
  | i, [] => rfl
  | i, v :: vs => by
    show (i, a_vr r v) :: lv_args (if (a_vr r v).category = 2 then i + 2 else i + 1) (vs.map (a_vr r)) = (i, a_vr r v) :: a_lm r (lv_args (if v.category = 2 then i + 2 else i + 1) vs)
    rw [a_vr_cat, a_lm_args]
theorem a_sl_len (r : Nat → Nat) : ∀ (as : List Value), (lg_sl (as.map (a_vr r))).length = (lg_sl as).length
  | [] => rfl
  | v :: vs => by
    have ih := a_sl_len r vs
    cases v <;> simp [lg_sl, a_vr, Value.category] at ih ⊢ <;> first | exact ih | omega | (simp [ih]; done)
theorem a_enter {G : aG} {S : aMS} {as : List Value} {μ : aMem} {post : aPost} (hy : plainName S.1.cls = true) (hn : Nat.ble (lg_sl as).length S.2.2.1 = true) (h : a_Runs G S 0 (lv_args 0 as) [] μ post) : a_Spec G S as μ post := by
  refine Met.ofW (cc := S.2.1) (maxL := S.2.2.1) (ret := S.2.2.2.1) hy rfl ?_
  intro p e s m args below meth c s₁ B hml hv
  obtain ⟨rfl, hP, hK, hN, hI⟩ := hv
  have hts : ∀ w ∈ a_ws, w.before (as.map (a_vr G.2.2.2)).toArray s = true := fun w hw => atoms_spec (ws := .code S.1 S.2.1 S.2.2.1 S.2.2.2.1 :: a_ws) B.pre w (List.mem_cons_of_mem _ hw)
  have hl := lv_entry (as.map (a_vr G.2.2.2)) (n := S.2.2.1) (by rw [a_sl_len]; exact Nat.le_of_ble_eq_true hn)
  rw [lg_entry_eq]
  rw [a_lm_args] at hl
  exact h p e s m _ below meth c ⟨B.exec, B.bytes, B.returns, hml, findClass_of_methodNamed B.named, hts, B.notSynchronized, hK, hN, hI⟩ s.heap [] _ hP va_S.rf hl
theorem a_run {G : aG} {S : aMS} {pc : Nat} {lv : aLV} {st : List Value} {μ : aMem} {post : aPost} {tab : aTab} {pg : aPg} (cuts : List (Nat × List Nat)) (n : Nat) (hT : a_TOK S.1.cls tab) (hpg : (pg.all fun q => decide (decode S.2.1 q.1 = .ok (q.2.1, q.2.2))) = true) (hd : a_hd pc (a_at pc pg) = true)
    (h : awp tab pg cuts S.2.2.2.2.1 S.2.2.1 S.2.2.2.1 none (a_Spec G) (fun pc lv st μ => a_Runs G S pc lv st μ post) post n (a_at pc pg) lv st μ) : a_Runs G S pc lv st μ post := by
  intro p e s m args below meth c C
  obtain ⟨hx, hb, hr, hml, hown, hts, hlocks, hK, hN, hI⟩ := C
  have C' : a_Cx G S p s m args meth c := ⟨hx, hb, hr, hml, hown, hts, hlocks, hK, hN, hI⟩
  obtain ⟨q, r, e1, e2⟩ := awp_W (Q := MQ below (a_Q G post) args s 0 0 (a_A G.2.2.2)) (cells := 0) (slots := 0) ⟨hx, hb, hml, hown, hts, hK, hN, hI⟩ ⟨Nat.zero_le _, Nat.zero_le _⟩ hT (ret := S.2.2.2.1) (scr := none) (fun L xs h => by cases h) (post := post)
    ⟨fun pc lv x μ hdg hret hpost H locs ls hP hS hl => by
      have hq : ∀ t : State, t.heap = H → s.WarmedH t.vm → a_Q G post args s (.returned (some (.int x))) t := fun t ht _ => ⟨⟨some (.int x), μ, rfl, hpost, by rw [ht]; exact hP⟩, hS.F ht⟩
      rcases hret with e | ⟨e, ex⟩
      · exact W.iret hx hb (hr.trans e) hq hS.2.2 hdg hlocks
      · exact W.zret (ty := .boolean) hx hb (hr.trans e) (by rcases ex with e | e <;> subst e <;> rfl) hq hS.2.2 hdg hlocks,
     fun pc lv x μ hdg hret hpost H locs ls hP hS hl => W.lret hx hb (hr.trans hret) (fun t ht _ => ⟨⟨some (.long x), μ, rfl, hpost, by rw [ht]; exact hP⟩, hS.F ht⟩) hS.2.2 hdg hlocks,
     fun pc lv μ hdg hret hpost H locs ls hP hS hl => W.vret hx hb (hr.trans hret) (fun t ht _ => ⟨⟨none, μ, rfl, hpost, by rw [ht]; exact hP⟩, hS.F ht⟩) hS.2.2 hdg hlocks⟩
    hpg (cuts := cuts) (rn := fun pc lv st μ => a_Runs G S pc lv st μ post) (fun pc lv st μ h => h p e s m args below meth c C') n (a_at pc pg) lv st μ a_at_in h
  rw [e1] at hd
  have e3 : q.1 = pc := Nat.eq_of_beq_eq_true hd
  rw [← e3]; exact e2
theorem a_Spec.mono {G : aG} {S : aMS} {as : List Value} {μ : aMem} {post post' : aPost} (h : a_Spec G S as μ post) (hm : ∀ v ν, post v ν → post' v ν) : a_Spec G S as μ post' := by
  intro p e ha hc hk s m args below h1 h2 h3 h4
  obtain ⟨t, o, a1, a2, a3, ⟨⟨v, ν, b1, b2, b3⟩, b4⟩, b5⟩ := h p e ha hc hk s m args below h1 h2 h3 h4
  exact ⟨t, o, a1, a2, a3, ⟨⟨v, ν, b1, hm v ν b2, b3⟩, b4⟩, b5⟩
/-- a method that answers v and leaves the memory ν -/
def a_Ret (G : aG) (S : aMS) (as : List Value) (μ : aMem) (v : Option Value) (ν : aMem) : Prop := ∀ post : aPost, post v ν → a_Spec G S as μ post
