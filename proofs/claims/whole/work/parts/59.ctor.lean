/-! ===== constructors: a row of zeros into a final field; a number, a reference into a field ===== -/
section CTOR
variable {p : Program} {l : Launch} {e : Env} {R : Jvm.Room} {s : State} {m : MethodId} {args : Array Value} {below : List Frame} {meth : Method} {c : Code} {cells slots : Nat} {Q : State → Prop} {cc : ByteArray} {pc : Nat} {D : va_G} {cA : ClassId × ClassId × ClassId} {A : Nat → Prop} {H0 H : Heap} {locs : List Loc} {ls : Array Slot} {rest : List Value}
/-- what holds all through a constructor -/
def kCx (p : Program) (s : State) (m : MethodId) (args : Array Value) (meth : Method) (c : Code) (D : va_G) (cA : ClassId × ClassId × ClassId) (cc : ByteArray) (own : String) : Prop :=
  p.tables.exec = Jvm.exec ∧ c.code = cc ∧ s.vm.findClass own = some m.cls ∧ (∀ w ∈ a_ws, w.before args s = true) ∧ va_K D vwCl (a_tys cA) s ∧ meth.name = "<init>"
theorem k_w {i : Nat} {w : Jvm.Cond} (hts : ∀ w ∈ a_ws, w.before args s = true) (h : (a_w i w && goodWord w) = true) : w.before args s = true := by
  rw [Bool.and_eq_true] at h
  exact a_ws_of hts (a_w_in h.1) h.2
theorem k_np {own : String} (C : kCx p s m args meth c D cA cc own) (hA : ∀ q, H0.size ≤ q → A q) {h0 ci N : Nat} {T : u_T} {fs : List Value} {wr : va_W} (hP : va_P D vwCl ((h0, .inr (ci, fs)) :: wr) H) (hD : va_D A ((h0, .inr (ci, fs)) :: wr)) (hS : va_S A H0 H locs) (hc : vwCl[ci]? = some (own, T, N))
    (atype : ArrayType) {ty : FieldType} (hty : newarray.typeOf atype = ty) (t : Nat) {cT : ClassId} (ht : (a_tys cA)[t]? = some (cT, ty)) (hRA : ∀ (U : State) (x : ClassId), va_RA U x ty → U.vm.findClass ("[" ++ ty.toString) = some x) {ia : Nat} (harr : (a_w ia (.arrayClass ty) && goodWord (.arrayClass ty)) = true)
    {n : Int32} {n' : Nat} {a0 : vp_A} (ha : ∀ x : ClassId, vp_cell x a0 = arrV x n' (fun _ => defaultValue ty)) (hn : ¬ n < 0) (hN : n.toNatClampNeg = n') (hbytes : n' * componentBytes ty ≤ 536870912) (hcells : cells + 1 ≤ R.cells) (hslots : slots + n' ≤ R.slots) (hdg : decode cc pc = .ok (.newarray atype, 2))
    (k : Nat) (hk : k < N) {index il : Nat} (hlink : (a_w il (.fieldLink own index own (T k).2.1 (T k).2.2.1) && goodWord (.fieldLink own index own (T k).2.1 (T k).2.2.1)) = true) (hfin : (T k).2.2.2 = true) (hdecl : (T k).1 = own) {fty : FieldType} (hd : parseFieldDescriptor (T k).2.2.1 = some fty) (hnf : ∀ q, narrow fty (.ref q) = .ref q ∧ fits fty (.ref q) = true) (hl : k < fs.length) (hdg2 : decode cc (pc + 2) = .ok (.putfield index, 3))
    (kk : ∀ (q : Nat) (H1 : Heap) (locs1 : List Loc), va_P D vwCl ((h0, .inr (ci, fs.set k (.ref q))) :: (wr ++ [(q, .inl (cT, a0))])) H1 → va_D A ((h0, .inr (ci, fs.set k (.ref q))) :: (wr ++ [(q, .inl (cT, a0))])) → va_S A H0 H1 locs1 → W p l e R s m args below meth c H1 locs1 (cells + 1) (slots + n') Q (F0 m (pc + 5) ls rest)) :
    W p l e R s m args below meth c H locs cells slots Q (F0 m pc ls (.int n :: .ref h0 :: rest)) := by
  obtain ⟨hx, hb, hown, hts, hK, hin⟩ := C
  obtain ⟨hu, ty0, h1, h2⟩ := a_cls hc
  refine va_newa hx hb (by rw [hty]; exact k_w hts harr) hty hK hP hD hS hA ha hn hN hbytes hcells hslots hdg (fun q x H1 hK' hP' hD' hS' => ?_)
  have e1 := hRA s x (hK'.2 (a_tys cA).length (x, ty) (by simp)).2
  have e2 := hRA s cT (hK.2 t (cT, ty) ht).2
  have e3 : x = cT := Option.some.inj (e1.symm.trans e2)
  subst e3
  exact va_putF hx hb hts hu ty0 h1 h2 hown hK hP' hD' hS' 0 rfl hc k hk (k_w hts hlink) (fun y hy => by rw [hdecl] at hy; exact hy) hfin hin hdecl hd (hnf q).1 (hnf q).2 hl hdg2 (fun H2 locs2 hP2 hD2 hS2 => kk q H2 locs2 hP2 hD2 hS2)
theorem k_pi {own : String} (C : kCx p s m args meth c D cA cc own) {h0 ci N : Nat} {T : u_T} {fs : List Value} {wr : va_W} (hP : va_P D vwCl ((h0, .inr (ci, fs)) :: wr) H) (hD : va_D A ((h0, .inr (ci, fs)) :: wr)) (hS : va_S A H0 H locs) (hc : vwCl[ci]? = some (own, T, N))
    (k : Nat) (hk : k < N) {index il : Nat} (hlink : (a_w il (.fieldLink own index own (T k).2.1 (T k).2.2.1) && goodWord (.fieldLink own index own (T k).2.1 (T k).2.2.1)) = true) (hfin : (T k).2.2.2 = false) (hdecl : (T k).1 = own) {fty : FieldType} {v : Value} (hd : parseFieldDescriptor (T k).2.2.1 = some fty) (hnf : narrow fty v = v) (hft : fits fty v = true) (hl : k < fs.length) (hdg2 : decode cc pc = .ok (.putfield index, 3))
    (kk : ∀ (H1 : Heap) (locs1 : List Loc), va_P D vwCl ((h0, .inr (ci, fs.set k v)) :: wr) H1 → va_D A ((h0, .inr (ci, fs.set k v)) :: wr) → va_S A H0 H1 locs1 → W p l e R s m args below meth c H1 locs1 cells slots Q (F0 m (pc + 3) ls rest)) :
    W p l e R s m args below meth c H locs cells slots Q (F0 m pc ls (v :: .ref h0 :: rest)) := by
  obtain ⟨hx, hb, hown, hts, hK, hin⟩ := C
  obtain ⟨hu, ty0, h1, h2⟩ := a_cls hc
  exact va_put hx hb hts hu ty0 h1 h2 hown hK hP hD hS 0 rfl hc k hk (k_w hts hlink) (fun y hy => by rw [hdecl] at hy; exact hy) hfin hd hnf hft hl hdg2 (fun H2 locs2 hP2 hD2 hS2 => kk H2 locs2 hP2 hD2 hS2)
theorem k_pf {own : String} (C : kCx p s m args meth c D cA cc own) {h0 ci N : Nat} {T : u_T} {fs : List Value} {wr : va_W} (hP : va_P D vwCl ((h0, .inr (ci, fs)) :: wr) H) (hD : va_D A ((h0, .inr (ci, fs)) :: wr)) (hS : va_S A H0 H locs) (hc : vwCl[ci]? = some (own, T, N))
    (k : Nat) (hk : k < N) {index il : Nat} (hlink : (a_w il (.fieldLink own index own (T k).2.1 (T k).2.2.1) && goodWord (.fieldLink own index own (T k).2.1 (T k).2.2.1)) = true) (hfin : (T k).2.2.2 = true) (hdecl : (T k).1 = own) {fty : FieldType} {v : Value} (hd : parseFieldDescriptor (T k).2.2.1 = some fty) (hnf : narrow fty v = v) (hft : fits fty v = true) (hl : k < fs.length) (hdg2 : decode cc pc = .ok (.putfield index, 3))
    (kk : ∀ (H1 : Heap) (locs1 : List Loc), va_P D vwCl ((h0, .inr (ci, fs.set k v)) :: wr) H1 → va_D A ((h0, .inr (ci, fs.set k v)) :: wr) → va_S A H0 H1 locs1 → W p l e R s m args below meth c H1 locs1 cells slots Q (F0 m (pc + 3) ls rest)) :
    W p l e R s m args below meth c H locs cells slots Q (F0 m pc ls (v :: .ref h0 :: rest)) := by
  obtain ⟨hx, hb, hown, hts, hK, hin⟩ := C
  obtain ⟨hu, ty0, h1, h2⟩ := a_cls hc
  exact va_putF hx hb hts hu ty0 h1 h2 hown hK hP hD hS 0 rfl hc k hk (k_w hts hlink) (fun y hy => by rw [hdecl] at hy; exact hy) hfin hin hdecl hd hnf hft hl hdg2 (fun H2 locs2 hP2 hD2 hS2 => kk H2 locs2 hP2 hD2 hS2)
end CTOR
