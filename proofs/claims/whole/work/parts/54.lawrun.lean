/-! THE CLAIM OUT OF ONE WALK OF THE LAW'S BODY. Your part is whole_start (and what it stands on); all else here is the same for every law, but numbers. -/
def R_law : String := "CableLoomsLaw"
def lw_P (b : Addr) (xs : List Int32) (args : Array Value) (s : State) : Prop := args = #[.ref b] ∧ s.IntsAt b xs ∧ xs.length ≤ 2560 ∧ (Jvm.Cond.and given_1 narrow_1).before args s = true
def lw_Q (_ : Array Value) (s : State) (o : Outcome) (t : State) : Prop := o = .returned (some (.int 1)) ∧ Framed s o t [] 63 3695
def lw_Z (below : List Frame) (a : Array Value) (s : State) : State → Prop := fun t => ∃ o, t.status = .running ∧ Ended t below o ∧ lw_Q a s o t
/-- the law's own end, with 1 on the stack, nothing written that was there before, its room as the claim has it -/
theorem lw_ret {p : Program} {l : Launch} {e : Env} {s : State} {m : MethodId} {below : List Frame} {meth : Method} {c : Code} {b : Nat} (hx : p.tables.exec = Jvm.exec) (hb : c.code = code) (hr : meth.sig.returnType = ret) (hlocks : meth.locks = false) {pc : Nat} {H : Heap} {ls : Array Slot} (hdg : decode code pc = .ok (.ireturn, 1)) : W p l e room_1 s m #[Value.ref b] below meth c H [] 63 3695 (lw_Z below #[Value.ref b] s) (F0 m pc ls [.int 1]) := by
  intro T hT X
  obtain ⟨fs, hret, hrun, hended, hW, hframe⟩ := X.leave (v := some (.int 1)) (hlocks := hlocks) (fun h => by rw [hr] at h; cases h)
  have hmeth' : T.vm.method? m = some meth := X.method'
  refine ⟨T.setFrames fs, ?_, .returned (some (.int 1)), hrun, hended, rfl, ⟨_, rfl⟩, hW, hframe⟩
  jvm_step X.here [X.here.top, hx, hb, hdg, hmeth', hr, ret, narrow_b1]
  (try refine ⟨rfl, ?_⟩); (try refine ⟨rfl, ?_⟩)
  first | (intro acts; rw [hret _ acts rfl rfl rfl]) | rw [hret _ _ rfl rfl rfl]
  exact Steps.refl _
/-- what holds at the law's entry: the machine, the code, the tables' words (any of lw_tbl by 'hts w (by decide +kernel)'), the script of L ints xs at the cell b, what the Statement gives of the start (any of its parts by flat_of_before) -/
def lw_At (p : Program) (s : State) (m : MethodId) (meth : Method) (c : Code) (b L : Nat) (xs : Nat → Int32) : Prop :=
  p.tables.exec = Jvm.exec ∧ c.code = code ∧ meth.sig.returnType = ret ∧ c.maxLocals = 4 ∧ s.vm.findClass R_law = some m.cls ∧ (∀ w ∈ lw_tbl, w.before #[Value.ref b] s = true) ∧ va_X b L xs s s.heap ∧ b < s.heap.size ∧ meth.locks = false ∧ (Jvm.Cond.and given_1 narrow_1).before #[Value.ref b] s = true
/-! ===== the law's own run, over the abstract machine ===== -/
def lawPost : aPost := fun v _ => v = some (.int 1)
def lawCx (G : aG) (p : Program) (s : State) (m : MethodId) (meth : Method) (c : Code) (b L : Nat) (xs : Nat → Int32) : Prop :=
  p.tables.exec = Jvm.exec ∧ c.code = code ∧ meth.sig.returnType = ret ∧ c.maxLocals = 4 ∧ s.vm.findClass RL = some m.cls ∧ (∀ w ∈ a_ws, w.before #[Value.ref b] s = true) ∧ meth.locks = false ∧ va_K G.2.1 vwCl (a_tys G.2.2.1) s ∧ a_N s ∧ a_inj G.2.2.2 ∧ G.2.2.2 99 = b ∧ va_X b L xs s s.heap ∧ b < s.heap.size ∧ ∀ k, k < a_lay.length → s.heap.size ≤ G.2.2.2 k
def a_LR (G : aG) (L : Nat) (xs : Nat → Int32) (pc : Nat) (lv : aLV) (st : List Value) (μ : aMem) : Prop :=
  ∀ (p : Program) (e : Env) (s : State) (m : MethodId) (below : List Frame) (meth : Method) (c : Code) (b : Nat), lawCx G p s m meth c b L xs → a_W G p e room_1 s m #[Value.ref b] below meth c 4 63 3695 (lw_Z below #[Value.ref b] s) pc lv st μ
theorem a_runL {G : aG} {L : Nat} {xs : Nat → Int32} {pc : Nat} {lv : aLV} {st : List Value} {μ : aMem} {pg : aPg} (cuts : List (Nat × List Nat)) (n : Nat) (hpg : (pg.all fun q => decide (decode cL_law q.1 = .ok (q.2.1, q.2.2))) = true) (hd : a_hd pc (a_at pc pg) = true)
    (h : awp tL pg cuts room_1 4 (some .boolean) (some (L, xs)) (a_Spec G) (fun pc lv st μ => a_LR G L xs pc lv st μ) lawPost n (a_at pc pg) lv st μ) : a_LR G L xs pc lv st μ := by
  intro p e s m below meth c b C
  obtain ⟨hx, hb, hr, hml, hown, hts, hlocks, hK, hN, hI, h99, hX, hbs, hnew⟩ := id C
  have hret : ret = some .boolean := rfl
  obtain ⟨q, r, e1, e2⟩ := awp_W (R := room_1) (Q := lw_Z below #[Value.ref b] s) (cells := 63) (slots := 3695) (below := below) (meth := meth) (e := e) ⟨hx, hb, hml, hown, hts, hK, hN, hI⟩ ⟨by decide, by decide⟩ (a_okT_e tL_ok) (ret := some .boolean) (scr := some (L, xs)) (fun L' xs' hh => by
      cases hh
      rw [h99]
      exact ⟨hX, hbs, fun hc => by obtain ⟨k, k1, k2⟩ := hc; have := hnew k k1; omega⟩) (post := lawPost)
    ⟨fun pc lv x μ hdg _ hpost H locs ls hP hS hl => by
      have hx1 : x = 1 := by
        have hpost : some (Value.int x) = some (Value.int 1) := hpost
        exact Value.int.inj (Option.some.inj hpost)
      subst hx1
      exact va_forget (fun q hq => by obtain ⟨k, k1, k2⟩ := hS.2.2 q hq; rw [k2]; exact hnew k k1) (lw_ret hx hb hr hlocks hdg),
     fun pc lv x μ hdg hc _ => (by cases hc),
     fun pc lv μ hdg hc _ => (by cases hc)⟩
    hpg (cuts := cuts) (rn := fun pc lv st μ => a_LR G L xs pc lv st μ) (fun pc lv st μ hh => hh p e s m below meth c b C) n (a_at pc pg) lv st μ a_at_in h
  rw [e1] at hd
  have e3 : q.1 = pc := Nat.eq_of_beq_eq_true hd
  rw [← e3]; exact e2
