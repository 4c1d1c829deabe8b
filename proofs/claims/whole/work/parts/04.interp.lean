/-! ===== what the abstract machine asks of a run: a proposition, instruction by instruction ===== -/
def a_vr (r : Nat → Nat) (v : Value) : Value := match v with
  | .ref k => .ref (r k)
  | .int x => .int x
  | .long x => .long x
  | .float x => .float x
  | .double x => .double x
  | .null => .null
  | .retAddr k => .retAddr k
theorem a_vr_cat (r : Nat → Nat) (v : Value) : (a_vr r v).category = v.category := by cases v <;> rfl
def a_look {α : Type} (n : Nat) : List (Nat × α) → Option α
  | [] => none
  | q :: t => match Nat.beq n q.1 with
    | true => some q.2
    | false => a_look n t
theorem a_look_in {α : Type} {n : Nat} {v : α} : ∀ {l : List (Nat × α)}, a_look n l = some v → (n, v) ∈ l
  | [], h => by simp [a_look] at h
  | q :: t, h => by
    unfold a_look at h
    cases hb : Nat.beq n q.1 with
    | true =>
      rw [hb] at h
      have e1 : n = q.1 := Nat.eq_of_beq_eq_true hb
      have e2 : q.2 = v := Option.some.inj h
      have e3 : (n, v) = q := by rw [e1, ← e2]
      rw [e3]; exact List.mem_cons_self
    | false =>
      rw [hb] at h
      exact List.mem_cons_of_mem _ (a_look_in h)
def a_ck (b : Bool) (P : Prop) : Prop := match b with
  | true => P
  | false => False
theorem a_ck_e {b : Bool} {P : Prop} (h : a_ck b P) : b = true ∧ P := by
  cases b with
  | true => exact ⟨rfl, h⟩
  | false => exact h.elim
def a_st1 (lv : aLV) (i : Nat) (v : Value) : aLV := (i, v) :: lv.filter (fun q => !(q.1 == i) && !(q.1 + 1 == i && q.2.category == 2))
def a_st2 (lv : aLV) (i : Nat) (v : Value) : aLV := (i, v) :: lv.filter (fun q => !(q.1 == i) && (!(q.1 == i + 1) && !(q.1 + 1 == i && q.2.category == 2)))
def a_pick (lv : aLV) : List Nat → aLV
  | [] => []
  | k :: ks => match a_look k lv with
    | some v => (k, v) :: a_pick lv ks
    | none => a_pick lv ks
theorem a_pick_in {lv : aLV} : ∀ {ks : List Nat}, ∀ q ∈ a_pick lv ks, q ∈ lv
  | [], q, h => absurd h List.not_mem_nil
  | k :: ks, q, h => by
    unfold a_pick at h
    cases hk : a_look k lv with
    | none => rw [hk] at h; exact a_pick_in q h
    | some v =>
      rw [hk] at h
      rcases List.mem_cons.mp h with e | h
      · rw [e]; exact a_look_in hk
      · exact a_pick_in q h
def a_p1i (st : List Value) (k : Int32 → List Value → Prop) : Prop := match st with
  | .int x :: r => k x r
  | _ => False
def a_p1l (st : List Value) (k : Int64 → List Value → Prop) : Prop := match st with
  | .long x :: r => k x r
  | _ => False
def a_p1r (st : List Value) (k : Nat → List Value → Prop) : Prop := match st with
  | .ref x :: r => k x r
  | _ => False
theorem a_p1i_e {st : List Value} {k : Int32 → List Value → Prop} (h : a_p1i st k) : ∃ x r, st = .int x :: r ∧ k x r := by
  unfold a_p1i at h
  split at h
  · exact ⟨_, _, rfl, h⟩
  · exact h.elim
theorem a_p1l_e {st : List Value} {k : Int64 → List Value → Prop} (h : a_p1l st k) : ∃ x r, st = .long x :: r ∧ k x r := by
  unfold a_p1l at h
  split at h
  · exact ⟨_, _, rfl, h⟩
  · exact h.elim
theorem a_p1r_e {st : List Value} {k : Nat → List Value → Prop} (h : a_p1r st k) : ∃ x r, st = .ref x :: r ∧ k x r := by
  unfold a_p1r at h
  split at h
  · exact ⟨_, _, rfl, h⟩
  · exact h.elim
def a_p2i (st : List Value) (k : Int32 → Int32 → List Value → Prop) : Prop := a_p1i st fun y r => a_p1i r fun x r => k x y r
def a_p2l (st : List Value) (k : Int64 → Int64 → List Value → Prop) : Prop := a_p1l st fun y r => a_p1l r fun x r => k x y r
theorem a_p2i_e {st : List Value} {k : Int32 → Int32 → List Value → Prop} (h : a_p2i st k) : ∃ x y r, st = .int y :: .int x :: r ∧ k x y r := by
  replace h := a_p1i_e h; obtain ⟨y, r, rfl, h⟩ := h
  replace h := a_p1i_e h; obtain ⟨x, r, rfl, h⟩ := h
  exact ⟨x, y, r, rfl, h⟩
theorem a_p2l_e {st : List Value} {k : Int64 → Int64 → List Value → Prop} (h : a_p2l st k) : ∃ x y r, st = .long y :: .long x :: r ∧ k x y r := by
  replace h := a_p1l_e h; obtain ⟨y, r, rfl, h⟩ := h
  replace h := a_p1l_e h; obtain ⟨x, r, rfl, h⟩ := h
  exact ⟨x, y, r, rfl, h⟩
/-- the local i, an int, a long, a reference -/
def a_gi (lv : aLV) (i : Nat) (k : Int32 → Prop) : Prop := match a_look i lv with
  | some (.int x) => k x
  | _ => False
def a_gl (lv : aLV) (i : Nat) (k : Int64 → Prop) : Prop := match a_look i lv with
  | some (.long x) => k x
  | _ => False
def a_gr (lv : aLV) (i : Nat) (k : Nat → Prop) : Prop := match a_look i lv with
  | some (.ref x) => k x
  | _ => False
theorem a_gi_e {lv : aLV} {i : Nat} {k : Int32 → Prop} (h : a_gi lv i k) : ∃ x, (i, Value.int x) ∈ lv ∧ k x := by
  unfold a_gi at h
  split at h
  · rename_i x e; exact ⟨_, a_look_in e, h⟩
  · exact h.elim
theorem a_gl_e {lv : aLV} {i : Nat} {k : Int64 → Prop} (h : a_gl lv i k) : ∃ x, (i, Value.long x) ∈ lv ∧ k x := by
  unfold a_gl at h
  split at h
  · rename_i x e; exact ⟨_, a_look_in e, h⟩
  · exact h.elim
theorem a_gr_e {lv : aLV} {i : Nat} {k : Nat → Prop} (h : a_gr lv i k) : ∃ x, (i, Value.ref x) ∈ lv ∧ k x := by
  unfold a_gr at h
  split at h
  · rename_i x e; exact ⟨_, a_look_in e, h⟩
  · exact h.elim
def a_br1 (c : ClassFile.Cond) (x : Int32) (T F : Prop) : Prop := match c with
  | .eq => (x = 0 → T) ∧ (¬ x = 0 → F)
  | .ne => (¬ x = 0 → T) ∧ (x = 0 → F)
  | .lt => (x < 0 → T) ∧ (¬ x < 0 → F)
  | .ge => (0 ≤ x → T) ∧ (¬ 0 ≤ x → F)
  | .gt => (0 < x → T) ∧ (¬ 0 < x → F)
  | .le => (x ≤ 0 → T) ∧ (¬ x ≤ 0 → F)
def a_br2 (c : ClassFile.Cond) (x y : Int32) (T F : Prop) : Prop := match c with
  | .eq => (x = y → T) ∧ (¬ x = y → F)
  | .ne => (¬ x = y → T) ∧ (x = y → F)
  | .lt => (x < y → T) ∧ (¬ x < y → F)
  | .ge => (y ≤ x → T) ∧ (¬ y ≤ x → F)
  | .gt => (y < x → T) ∧ (¬ y < x → F)
  | .le => (x ≤ y → T) ∧ (¬ x ≤ y → F)
/-- a jump's target -/
def a_tg (pc : Nat) (off : Int) (k : Nat → Prop) : Prop := match (pc : Int) + off with
  | .ofNat t => k t
  | .negSucc _ => False
theorem a_tg_e {pc : Nat} {off : Int} {k : Nat → Prop} (h : a_tg pc off k) : ∃ t : Nat, (pc : Int) + off = (t : Int) ∧ k t := by
  unfold a_tg at h
  split at h
  · rename_i t e; exact ⟨t, e, h⟩
  · exact h.elim
def a_sw (x : Int) (k : Int → Prop) : Int → List Int → Prop
  | _, [] => True
  | lo, o :: os => (x = lo → k o) ∧ a_sw x k (lo + 1) os
def a_pop : Nat → List Value → List Value → (List Value → List Value → Prop) → Prop
  | 0, st, acc, k => k acc st
  | n + 1, v :: st, acc, k => a_pop n st (v :: acc) k
  | _ + 1, [], _, _ => False
theorem a_pop_e : ∀ {n : Nat} {st acc : List Value} {k : List Value → List Value → Prop}, a_pop n st acc k → ∃ as r, st = as.reverse ++ r ∧ as.length = n ∧ k (as ++ acc) r
  | 0, st, acc, k, h => ⟨[], st, rfl, rfl, h⟩
  | n + 1, [], acc, k, h => h.elim
  | n + 1, v :: st, acc, k, h => by
    obtain ⟨as, r, e1, e2, h⟩ := a_pop_e (n := n) (st := st) (acc := v :: acc) (k := k) h
    exact ⟨as ++ [v], r, by rw [e1]; simp, by simp [e2], by simpa using h⟩
def a_res (ret : Option FieldType) (sp : aPost → Prop) (k : List Value → aMem → Prop) : Prop := match ret with
  | none => sp (fun r m => r = none ∧ k [] m)
  | some .long => sp (fun r m => ∃ v : Int64, r = some (.long v) ∧ k [.long v] m)
  | some _ => sp (fun r m => ∃ v : Int32, r = some (.int v) ∧ k [.int v] m)
def a_rm (R : Jvm.Room) (S : aMS) (st : List Value) : Bool := Nat.ble (S.2.2.2.2.1.frames + 1) R.frames && Nat.ble (8 + (S.2.2.1 + 11) + S.2.2.2.2.1.locals) R.locals && Nat.ble ((st.map fun v => v.category).sum) 8
def a_ld {α : Type} (o : Option α) (k : α → Prop) : Prop := match o with
  | some v => k v
  | none => False
theorem a_ld_e {α : Type} {o : Option α} {k : α → Prop} (h : a_ld o k) : ∃ v, o = some v ∧ k v := by
  cases o with
  | none => exact h.elim
  | some v => exact ⟨v, rfl, h⟩
/-- the cell a, an object; an array -/
def a_ob (a : Nat) (k : Nat → List (Nat ⊕ Nat) → Prop) : Prop := match a_lay[a]? with
  | some (.inr q) => k q.1 q.2
  | _ => False
theorem a_ob_e {a : Nat} {k : Nat → List (Nat ⊕ Nat) → Prop} (h : a_ob a k) : ∃ ci fs, a_lay[a]? = some (.inr (ci, fs)) ∧ k ci fs := by
  unfold a_ob at h
  split at h
  · rename_i q e; exact ⟨q.1, q.2, e, h⟩
  · exact h.elim
def a_ar (a : Nat) (t : Nat) (k : Nat → Prop) : Prop := match a_lay[a]? with
  | some (.inl q) => a_ck (Nat.beq q.1 t) (k q.2)
  | _ => False
theorem a_ar_e {a t : Nat} {k : Nat → Prop} (h : a_ar a t k) : ∃ n, a_lay[a]? = some (.inl (t, n)) ∧ k n := by
  unfold a_ar at h
  split at h
  · rename_i q e
    obtain ⟨h1, h2⟩ := a_ck_e h
    obtain ⟨q1, q2⟩ := q
    obtain rfl : q1 = t := Nat.eq_of_beq_eq_true h1
    exact ⟨q2, e, h2⟩
  · exact h.elim
/-- the script is the cell 99 -/
def a_sc (a : Nat) (scr : Option (Nat × (Nat → Int32))) (k : Prop) (ks : Nat → (Nat → Int32) → Prop) : Prop := match Nat.beq a 99 with
  | true => a_ld scr fun q => ks q.1 q.2
  | false => k
theorem a_sc_e {a : Nat} {scr : Option (Nat × (Nat → Int32))} {k : Prop} {ks : Nat → (Nat → Int32) → Prop} (h : a_sc a scr k ks) : k ∨ (a = 99 ∧ ∃ L xs, scr = some (L, xs) ∧ ks L xs) := by
  unfold a_sc at h
  split at h
  · rename_i e
    obtain ⟨v, e1, h⟩ := a_ld_e h
    exact Or.inr ⟨Nat.eq_of_beq_eq_true e, v.1, v.2, e1, h⟩
  · exact Or.inl h
def a_fk (f : Nat ⊕ Nat) (kr : Nat → Prop) (kl ki : Prop) : Prop := match f with
  | .inl q => kr q
  | .inr 1 => kl
  | .inr _ => ki
def a_pk (f : Nat ⊕ Nat) (ki kz : Prop) : Prop := match f with
  | .inr 0 => ki
  | .inr 2 => kz
  | _ => False
def a_pl (f : Nat ⊕ Nat) (kl : Prop) : Prop := match f with
  | .inr 1 => kl
  | _ => False
def a_pv (st : List Value) (ki : Int32 → Nat → List Value → Prop) (kl : Int64 → Nat → List Value → Prop) : Prop := match st with
  | .int x :: .ref a :: r => ki x a r
  | .long x :: .ref a :: r => kl x a r
  | _ => False
theorem a_pv_e {st : List Value} {ki : Int32 → Nat → List Value → Prop} {kl : Int64 → Nat → List Value → Prop} (h : a_pv st ki kl) : (∃ x a r, st = .int x :: .ref a :: r ∧ ki x a r) ∨ (∃ x a r, st = .long x :: .ref a :: r ∧ kl x a r) := by
  unfold a_pv at h
  split at h
  · exact Or.inl ⟨_, _, _, rfl, h⟩
  · exact Or.inr ⟨_, _, _, rfl, h⟩
  · exact h.elim
def a_du (st : List Value) (k : Value → List Value → Prop) : Prop := match st with
  | .int x :: r => k (.int x) r
  | .ref x :: r => k (.ref x) r
  | _ => False
theorem a_du_e {st : List Value} {k : Value → List Value → Prop} (h : a_du st k) : ∃ v r, st = v :: r ∧ v.category = 1 ∧ k v r := by
  unfold a_du at h
  split at h
  · exact ⟨_, _, rfl, rfl, h⟩
  · exact ⟨_, _, rfl, rfl, h⟩
  · exact h.elim
def a_e1 (st : List Value) (k : Prop) : Prop := match st with
  | [] => k
  | _ => False
theorem a_e1_e {st : List Value} {k : Prop} (h : a_e1 st k) : st = [] ∧ k := by
  unfold a_e1 at h
  split at h
  · exact ⟨rfl, h⟩
  · exact h.elim
def a_ri (ret : Option FieldType) (x : Int32) (k : Prop) : Prop := match ret with
  | some .int => k
  | some .boolean => (x = 0 ∨ x = 1) ∧ k
  | _ => False
theorem a_ri_e {ret : Option FieldType} {x : Int32} {k : Prop} (h : a_ri ret x k) : (ret = some .int ∨ (ret = some .boolean ∧ (x = 0 ∨ x = 1))) ∧ k := by
  unfold a_ri at h
  split at h
  · exact ⟨Or.inl rfl, h⟩
  · exact ⟨Or.inr ⟨rfl, h.1⟩, h.2⟩
  · exact h.elim
def a_rl (ret : Option FieldType) (k : Prop) : Prop := match ret with
  | some .long => k
  | _ => False
theorem a_rl_e {ret : Option FieldType} {k : Prop} (h : a_rl ret k) : ret = some .long ∧ k := by
  unfold a_rl at h
  split at h
  · exact ⟨rfl, h⟩
  · exact h.elim
def a_rv (ret : Option FieldType) (k : Prop) : Prop := match ret with
  | none => k
  | _ => False
theorem a_rv_e {ret : Option FieldType} {k : Prop} (h : a_rv ret k) : ret = none ∧ k := by
  unfold a_rv at h
  split at h
  · exact ⟨rfl, h⟩
  · exact h.elim
/-- Math.min is the machine's own -/
def a_kd (k : Nat) (P3 P4 P : Prop) : Prop := match Nat.beq k 3 with
  | true => P3
  | false => match Nat.beq k 4 with
    | true => P4
    | false => P
theorem a_kd_e {k : Nat} {P3 P4 P : Prop} (h : a_kd k P3 P4 P) : (k = 3 ∧ P3) ∨ (k = 4 ∧ P4) ∨ P := by
  unfold a_kd at h
  split at h
  · rename_i e; exact Or.inl ⟨Nat.eq_of_beq_eq_true e, h⟩
  · split at h
    · rename_i e; exact Or.inr (Or.inl ⟨Nat.eq_of_beq_eq_true e, h⟩)
    · exact Or.inr (Or.inr h)
def a_ins (tab : aTab) (R : Jvm.Room) (nL : Nat) (ret : Option FieldType) (scr : Option (Nat × (Nat → Int32))) (sp : aMS → List Value → aMem → aPost → Prop) (post : aPost) (ins : Instr) (pc : Nat) (ft : aLV → List Value → aMem → Prop) (jp : Nat → aLV → List Value → aMem → Prop) (lv : aLV) (st : List Value) (μ : aMem) : Prop := match ins with
  | .aload_n k => a_gr lv k.val fun x => ft lv (.ref x :: st) μ
  | .aload k => a_gr lv k fun x => ft lv (.ref x :: st) μ
  | .iload_n k => a_gi lv k.val fun x => ft lv (.int x :: st) μ
  | .iload k => a_gi lv k fun x => ft lv (.int x :: st) μ
  | .lload_n k => a_gl lv k.val fun x => ft lv (.long x :: st) μ
  | .lload k => a_gl lv k fun x => ft lv (.long x :: st) μ
  | .istore_n k => a_p1i st fun x r => a_ck (Nat.blt k.val nL) (ft (a_st1 lv k.val (.int x)) r μ)
  | .istore k => a_p1i st fun x r => a_ck (Nat.blt k nL) (ft (a_st1 lv k (.int x)) r μ)
  | .lstore_n k => a_p1l st fun x r => a_ck (Nat.blt (k.val + 1) nL) (ft (a_st2 lv k.val (.long x)) r μ)
  | .lstore k => a_p1l st fun x r => a_ck (Nat.blt (k + 1) nL) (ft (a_st2 lv k (.long x)) r μ)
  | .iinc i n => a_gi lv i fun x => a_ck (Nat.blt i nL) (ft (a_st1 lv i (.int (x + Int32.ofInt n))) st μ)
  | .iconst n => ft lv (.int (Int32.ofInt n) :: st) μ
  | .bipush n => ft lv (.int (Int8.ofInt n).toInt32 :: st) μ
  | .sipush n => ft lv (.int (Int16.ofInt n).toInt32 :: st) μ
  | .lconst n => ft lv (.long (Int64.ofNat n.val) :: st) μ
  | .ldc i => a_ld (a_look i tab.2.2.1) fun v => ft lv (.int v :: st) μ
  | .ldc_w i => a_ld (a_look i tab.2.2.1) fun v => ft lv (.int v :: st) μ
  | .ldc2_w i => a_ld (a_look i tab.2.2.2) fun v => ft lv (.long v :: st) μ
  | .iadd => a_p2i st fun x y r => ft lv (.int (x + y) :: r) μ
  | .isub => a_p2i st fun x y r => ft lv (.int (x - y) :: r) μ
  | .imul => a_p2i st fun x y r => ft lv (.int (x * y) :: r) μ
  | .iand => a_p2i st fun x y r => ft lv (.int (x &&& y) :: r) μ
  | .ior => a_p2i st fun x y r => ft lv (.int (x ||| y) :: r) μ
  | .ixor => a_p2i st fun x y r => ft lv (.int (x ^^^ y) :: r) μ
  | .ishl => a_p2i st fun x y r => ft lv (.int (x <<< (y &&& 31)) :: r) μ
  | .ishr => a_p2i st fun x y r => ft lv (.int (x >>> (y &&& 31)) :: r) μ
  | .iushr => a_p2i st fun x y r => ft lv (.int (x.toUInt32 >>> (y.toUInt32 &&& Int32.toUInt32 31)).toInt32 :: r) μ
  | .idiv => a_p2i st fun x y r => (¬ y = 0) ∧ ft lv (.int (x / y) :: r) μ
  | .ineg => a_p1i st fun x r => ft lv (.int (-x) :: r) μ
  | .ladd => a_p2l st fun x y r => ft lv (.long (x + y) :: r) μ
  | .lmul => a_p2l st fun x y r => ft lv (.long (x * y) :: r) μ
  | .lshl => a_p1i st fun y r => a_p1l r fun x r => ft lv (.long (x <<< (y.toInt64 &&& 63)) :: r) μ
  | .lshr => a_p1i st fun y r => a_p1l r fun x r => ft lv (.long (x >>> (y.toInt64 &&& 63)) :: r) μ
  | .lcmp => a_p2l st fun x y r => ft lv (.int (lg_cmp x y) :: r) μ
  | .i2l => a_p1i st fun x r => ft lv (.long x.toInt64 :: r) μ
  | .l2i => a_p1l st fun x r => ft lv (.int x.toInt32 :: r) μ
  | .dup => a_du st fun v r => ft lv (v :: v :: r) μ
  | .dup2 => a_du st fun v r => a_du r fun w r => ft lv (v :: w :: v :: w :: r) μ
  | .ifCond c off => a_p1i st fun x r => a_tg pc off fun t => a_br1 c x (jp t lv r μ) (ft lv r μ)
  | .if_icmp c off => a_p2i st fun x y r => a_tg pc off fun t => a_br2 c x y (jp t lv r μ) (ft lv r μ)
  | .goto off => a_tg pc off fun t => jp t lv st μ
  | .tableswitch dflt lo hi offs => a_p1i st fun x r => a_ck (decide (hi - lo + 1 = (offs.toList.length : Int))) ((x.toInt < lo ∨ hi < x.toInt → a_tg pc dflt fun t => jp t lv r μ) ∧ a_sw x.toInt (fun off => a_tg pc off fun t => jp t lv r μ) lo offs.toList)
  | .getfield i => a_p1r st fun a r => a_ld (a_look i tab.1) fun q => a_ob a fun ci fs => a_ck (Nat.beq q.1 ci) (a_ld fs[q.2]? fun f => a_fk f (fun b => ft lv (.ref b :: r) μ) (ft lv (.long (μ.2 a q.2) :: r) μ) (ft lv (.int (μ.1 a q.2) :: r) μ))
  | .putfield i => a_pv st
      (fun x a r => a_ld (a_look i tab.1) fun q => a_ob a fun ci fs => a_ck (Nat.beq q.1 ci) (a_ld fs[q.2]? fun f => a_pk f (ft lv r (va_up μ.1 a (upd (μ.1 a) q.2 x), μ.2)) ((x = 0 ∨ x = 1) ∧ ft lv r (va_up μ.1 a (upd (μ.1 a) q.2 x), μ.2))))
      (fun x a r => a_ld (a_look i tab.1) fun q => a_ob a fun ci fs => a_ck (Nat.beq q.1 ci) (a_ld fs[q.2]? fun f => a_pl f (ft lv r (μ.1, va_up μ.2 a (vp_updL (μ.2 a) q.2 x)))))
  | .iaload => a_p1i st fun i r => a_p1r r fun a r => a_sc a scr (a_ar a 0 fun n => vp_in i n ∧ ft lv (.int (μ.1 a i.toNatClampNeg) :: r) μ) (fun L xs => vp_in i L ∧ ft lv (.int (xs i.toNatClampNeg) :: r) μ)
  | .baload => a_p1i st fun i r => a_p1r r fun a r => a_ar a 1 fun n => vp_in i n ∧ ft lv (.int (μ.1 a i.toNatClampNeg) :: r) μ
  | .laload => a_p1i st fun i r => a_p1r r fun a r => a_ar a 2 fun n => vp_in i n ∧ ft lv (.long (μ.2 a i.toNatClampNeg) :: r) μ
  | .iastore => a_p1i st fun x r => a_p1i r fun i r => a_p1r r fun a r => a_ar a 0 fun n => vp_in i n ∧ ft lv r (va_up μ.1 a (upd (μ.1 a) i.toNatClampNeg x), μ.2)
  | .bastore => a_p1i st fun x r => a_p1i r fun i r => a_p1r r fun a r => a_ar a 1 fun n => vp_in i n ∧ ft lv r (va_up μ.1 a (upd (μ.1 a) i.toNatClampNeg (x &&& 1)), μ.2)
  | .lastore => a_p1l st fun x r => a_p1i r fun i r => a_p1r r fun a r => a_ar a 2 fun n => vp_in i n ∧ ft lv r (μ.1, va_up μ.2 a (vp_updL (μ.2 a) i.toNatClampNeg x))
  | .arraylength => a_p1r st fun a r => a_sc a scr (a_ar a 0 fun n => ft lv (.int (Int32.ofNat n) :: r) μ) (fun L _ => ft lv (.int (Int32.ofNat L) :: r) μ)
  | .invokevirtual i => a_ld (a_look i tab.2.1) fun q => a_pop q.2.2.1 st [] fun as r => a_p1r r fun a r => a_ob a fun ci _ => a_ck (Nat.beq q.1 0 && Nat.beq q.2.1 ci && a_rm R q.2.2.2 r) (a_res q.2.2.2.2.2.2.1 (sp q.2.2.2 (.ref a :: as) μ) (fun vs m => ft lv (vs ++ r) m))
  | .invokestatic i => a_ld (a_look i tab.2.1) fun q => a_kd q.1
      (a_p2i st fun x y r => a_ck (Nat.ble 1 R.frames && Nat.ble ((r.map fun v => v.category).sum + 13) R.locals) (ft lv (.int (if y < x then y else x) :: r) μ))
      (a_p2l st fun x y r => a_ck (Nat.ble 1 R.frames && Nat.ble ((r.map fun v => v.category).sum + 15) R.locals) (ft lv (.long (if y < x then y else x) :: r) μ))
      (a_pop q.2.2.1 st [] fun as r => a_ck ((Nat.beq q.1 1 || Nat.beq q.1 2) && a_rm R q.2.2.2 r) (a_res q.2.2.2.2.2.2.1 (sp q.2.2.2 as μ) (fun vs m => ft lv (vs ++ r) m)))
  | .ireturn => a_p1i st fun x r => a_e1 r (a_ri ret x (post (some (.int x)) μ))
  | .lreturn => a_p1l st fun x r => a_e1 r (a_rl ret (post (some (.long x)) μ))
  | .return_ => a_e1 st (a_rv ret (post none μ))
  | _ => False
/-- how long an instruction is; a switch: as it is -/
def a_len (ins : Instr) : Nat := match ins with
  | .aload _ | .iload _ | .lload _ | .istore _ | .lstore _ | .bipush _ | .ldc _ => 2
  | .iinc _ _ | .sipush _ | .ldc_w _ | .ldc2_w _ | .ifCond _ _ | .if_icmp _ _ | .goto _ | .getfield _ | .putfield _ | .invokevirtual _ | .invokestatic _ => 3
  | .tableswitch _ _ _ _ => 0
  | _ => 1
def a_at (t : Nat) : aPg → aPg
  | [] => []
  | q :: r => match Nat.beq q.1 t with
    | true => q :: r
    | false => a_at t r
def a_hd (t : Nat) (pl : aPg) : Bool := match pl with
  | [] => false
  | q :: _ => Nat.beq q.1 t
def awp (tab : aTab) (pg : aPg) (cuts : List (Nat × List Nat)) (R : Jvm.Room) (nL : Nat) (ret : Option FieldType) (scr : Option (Nat × (Nat → Int32))) (sp : aMS → List Value → aMem → aPost → Prop) (rn : Nat → aLV → List Value → aMem → Prop) (post : aPost) : Nat → aPg → aLV → List Value → aMem → Prop
  | 0, _, _, _, _ => False
  | n + 1, pl, lv, st, μ => match pl with
    | [] => False
    | q :: rest => a_ck (Nat.beq q.2.2 (a_len q.2.1) || Nat.beq (a_len q.2.1) 0) (a_ins tab R nL ret scr sp post q.2.1 q.1
        (fun lv st μ => match a_look (q.1 + q.2.2) cuts with
          | some ks => rn (q.1 + q.2.2) (a_pick lv ks) st μ
          | none => a_ck (a_hd (q.1 + q.2.2) rest) (awp tab pg cuts R nL ret scr sp rn post n rest lv st μ))
        (fun t lv st μ => match a_look t cuts with
          | some ks => rn t (a_pick lv ks) st μ
          | none => a_ck (a_hd t (a_at t pg)) (awp tab pg cuts R nL ret scr sp rn post n (a_at t pg) lv st μ))
        lv st μ)
