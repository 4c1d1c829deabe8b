/-! ===== the abstract state: rows of numbers =====
 0 ducts (at 0), 1 one, 2 other, 3 length, 4 room, 5 wires (at 0), 6 from, 7 to, 8 thickness, 9 class, 10 options, 11 steps, 12 way (10 w + i), 13 apart (4 a + b), 14 orders (at 0), 15 wanted, 16 pieces, 17 setup (at 0), 18 net of a pin -/
abbrev aX : Type := Nat → Nat → Nat
def upN (f : Nat → Nat) (k v : Nat) : Nat → Nat := fun i => if i = k then v else f i
theorem upN_s (f : Nat → Nat) (k v : Nat) : upN f k v k = v := by simp [upN]
theorem upN_n (f : Nat → Nat) {k i : Nat} (v : Nat) (h : i ≠ k) : upN f k v i = f i := by simp [upN, h]
/-- a duct put into a row that is sorted by length -/
def insS (l : Nat → Nat) (d : Nat) : Nat → (Nat → Nat) → (Nat → Nat)
  | 0, f => upN f 0 d
  | s + 1, f => if l d < l (f s) then insS l d s (upN f (s + 1) (f s)) else upN f (s + 1) d
def srt (l : Nat → Nat) : Nat → (Nat → Nat)
  | 0 => fun _ => 0
  | n + 1 => insS l n n (srt l n)
theorem insS_lt {l : Nat → Nat} {d n : Nat} (hd : d < n) : ∀ {s : Nat} {f : Nat → Nat}, (∀ i, f i < n) → ∀ i, insS l d s f i < n
  | 0, f, h, i => by unfold insS upN; split; exact hd; exact h i
  | s + 1, f, h, i => by
    unfold insS
    split
    · refine insS_lt hd (fun j => ?_) i
      unfold upN; split; exact h s; exact h j
    · unfold upN; split; exact hd; exact h i
theorem srt_lt (l : Nat → Nat) : ∀ n i, srt l n i < n + 1
  | 0, i => by unfold srt; omega
  | n + 1, i => insS_lt (by omega) (fun j => by have := srt_lt l n j; omega) i
theorem insS_keep {l : Nat → Nat} {d : Nat} : ∀ {s : Nat} {f : Nat → Nat} {i : Nat}, s < i → insS l d s f i = f i
  | 0, f, i, h => by unfold insS; exact upN_n _ _ (by omega)
  | s + 1, f, i, h => by
    unfold insS
    split
    · rw [insS_keep (by omega), upN_n _ _ (by omega)]
    · exact upN_n _ _ (by omega)
/-- rows in range of the real entries -/
theorem insS_lt' {l : Nat → Nat} {d n m : Nat} (hd : d < n) : ∀ {s : Nat} {f : Nat → Nat}, s ≤ m → (∀ i, i ≤ m → i ≠ s → f i < n) → ∀ i, i ≤ m → insS l d s f i < n
  | 0, f, hs, h, i, hi => by unfold insS upN; split; exact hd; exact h i hi (by omega)
  | s + 1, f, hs, h, i, hi => by
    unfold insS
    split
    · refine insS_lt' hd (by omega) (fun j hj hjs => ?_) i hi
      unfold upN; split; exact h s (by omega) (by omega); exact h j hj (by omega)
    · unfold upN; split; exact hd; exact h i hi (by omega)
theorem srt_in (l : Nat → Nat) : ∀ n i, i < n → srt l n i < n
  | 0, i, h => by omega
  | n + 1, i, h => insS_lt' (m := n) (by omega) (by omega) (fun j hj hjn => by have := srt_in l n j (by omega); omega) i (by omega)
theorem insS_cong {l l' : Nat → Nat} {d n : Nat} (hl : ∀ i, i < n → l i = l' i) (hd : d < n) : ∀ {s : Nat} {f : Nat → Nat}, (∀ i, i < s → f i < n) → insS l d s f = insS l' d s f
  | 0, f, h => rfl
  | s + 1, f, h => by
    unfold insS
    rw [hl d hd, hl (f s) (h s (by omega))]
    split
    · exact insS_cong hl hd (fun i hi => by rw [upN_n _ _ (by omega)]; exact h i (by omega))
    · rfl
theorem srt_cong {l l' : Nat → Nat} : ∀ {n : Nat}, (∀ i, i < n → l i = l' i) → srt l n = srt l' n
  | 0, _ => rfl
  | n + 1, h => by
    unfold srt
    rw [srt_cong (fun i hi => h i (by omega))]
    exact insS_cong (n := n + 1) h (by omega) (fun i hi => by have := srt_in l' n i hi; omega)
/-- the ducts of a way as a set; its length -/
def wyB (X : aX) (w : Nat) : Nat := orF (fun i => 2 ^ X 12 (10 * w + i)) (X 11 w)
def wyL (X : aX) (w : Nat) : Nat := fb_sm (fun i => X 3 (X 12 (10 * w + i))) (X 11 w)
def apM (X : aX) (a : Nat) : Nat := orF (fun b => X 13 (4 * a + b) * 2 ^ b) 4
-- ranges
def xD (X : aX) : Prop := X 0 0 ≤ 16 ∧ ∀ d, d < X 0 0 → X 1 d < 10 ∧ X 2 d < 10 ∧ X 1 d ≠ X 2 d ∧ 1 ≤ X 3 d ∧ X 3 d ≤ 99 ∧ 1 ≤ X 4 d ∧ X 4 d ≤ 300
def xW (X : aX) : Prop := X 5 0 ≤ 20 ∧ (∀ w, w < X 5 0 → X 6 w < 10 ∧ X 7 w < 10 ∧ X 6 w ≠ X 7 w ∧ 1 ≤ X 8 w ∧ X 8 w ≤ 50 ∧ X 9 w < 4) ∧ ∀ w, w < 20 → X 10 w < 256
def xY (X : aX) : Prop := ∀ w, w < 20 → X 11 w ≤ 9 ∧ (X 5 0 ≤ w → X 11 w = 0) ∧ (∀ i, i < X 11 w → X 12 (10 * w + i) < X 0 0) ∧ ∀ i j, i < j → j < X 11 w → X 12 (10 * w + i) ≠ X 12 (10 * w + j)
def xA (X : aX) : Prop := ∀ a b, a < 4 → b < 4 → X 13 (4 * a + b) ≤ 1 ∧ X 13 (4 * a + b) = X 13 (4 * b + a)
def xO (X : aX) : Prop := X 14 0 ≤ 8 ∧ (∀ o, o < X 14 0 → X 15 o < 256 ∧ 1 ≤ X 16 o ∧ X 16 o ≤ 1000) ∧ X 17 0 ≤ 100000
def xN (X : aX) : Prop := ∀ p, p < 16 → X 18 p < 8
def xOK (X : aX) : Prop := xD X ∧ xW X ∧ xY X ∧ xA X ∧ xO X ∧ xN X
-- the class's cells
def cD (μ : aMem) (X : aX) : Prop := μ.1 1 0 = nI (X 0 0) ∧ rp (μ.1 7) (X 1) (X 0 0) ∧ rp (μ.1 8) (X 2) (X 0 0) ∧ rp (μ.1 9) (fun d => 2 ^ X 1 d ||| 2 ^ X 2 d) (X 0 0) ∧ rp (μ.1 10) (X 3) (X 0 0) ∧ rp (μ.1 11) (X 4) (X 0 0) ∧ rp (μ.1 12) (srt (X 3) (X 0 0)) (X 0 0)
def cW (μ : aMem) (X : aX) : Prop := μ.1 2 0 = nI (X 5 0) ∧ rp (μ.1 13) (X 6) (X 5 0) ∧ rp (μ.1 14) (X 7) (X 5 0) ∧ rp (μ.1 15) (X 8) (X 5 0) ∧ rp (μ.1 16) (X 9) (X 5 0) ∧ rp (μ.1 17) (X 10) 20
def cY (μ : aMem) (X : aX) : Prop := rp (μ.1 18) (wyB X) 20 ∧ rp (μ.1 19) (wyL X) 20 ∧ ∀ w, w < 20 → ∀ i, i < X 11 w → μ.1 20 (9 * w + i) = nI (X 12 (10 * w + i))
def cA (μ : aMem) (X : aX) : Prop := rp (μ.1 21) (apM X) 4
def cO (μ : aMem) (X : aX) : Prop := μ.1 5 0 = nI (X 14 0) ∧ μ.1 5 1 = nI (X 17 0) ∧ rp (μ.1 28) (X 15) (X 14 0) ∧ rp (μ.1 29) (X 16) (X 14 0)
def cN (μ : aMem) (X : aX) : Prop := rp (μ.1 35) (X 18) 16
-- the reference's cells
def mD (μ : aMem) (X : aX) : Prop := μ.1 36 0 = nI (X 0 0) ∧ rp (μ.1 37) (X 1) (X 0 0) ∧ rp (μ.1 38) (X 2) (X 0 0) ∧ rp (μ.1 39) (X 3) (X 0 0) ∧ rp (μ.1 40) (X 4) (X 0 0)
def mW (μ : aMem) (X : aX) : Prop := μ.1 36 5 = nI (X 5 0) ∧ rp (μ.1 41) (X 6) (X 5 0) ∧ rp (μ.1 42) (X 7) (X 5 0) ∧ rp (μ.1 43) (X 8) (X 5 0) ∧ rp (μ.1 44) (X 9) (X 5 0) ∧ rp (μ.1 45) (X 10) 20
def mY (μ : aMem) (X : aX) : Prop := rp (μ.1 46) (X 11) 20 ∧ ∀ w, w < 20 → ∀ i, i < X 11 w → μ.1 47 (10 * w + i) = nI (X 12 (10 * w + i))
def mA (μ : aMem) (X : aX) : Prop := rp (μ.1 48) (X 13) 16
def mO (μ : aMem) (X : aX) : Prop := μ.1 36 22 = nI (X 14 0) ∧ μ.1 36 25 = nI (X 17 0) ∧ rp (μ.1 57) (X 15) (X 14 0) ∧ rp (μ.1 58) (X 16) (X 14 0)
def mN (μ : aMem) (X : aX) : Prop := rp (μ.1 62) (X 18) 16
def mR (μ : aMem) (X : aX) : Prop := mD μ X ∧ mW μ X ∧ mY μ X ∧ mA μ X ∧ mO μ X ∧ mN μ X
-- what other cells do to them
theorem cD.kept {μ ν : aMem} {X : aX} (h : cD μ X) (hk : ∀ k, k = 1 ∨ (7 ≤ k ∧ k ≤ 12) → ν.1 k = μ.1 k) : cD ν X := by
  unfold cD; rw [hk 1 (by omega), hk 7 (by omega), hk 8 (by omega), hk 9 (by omega), hk 10 (by omega), hk 11 (by omega), hk 12 (by omega)]; exact h
theorem cW.kept {μ ν : aMem} {X : aX} (h : cW μ X) (hk : ∀ k, k = 2 ∨ (13 ≤ k ∧ k ≤ 17) → ν.1 k = μ.1 k) : cW ν X := by
  unfold cW; rw [hk 2 (by omega), hk 13 (by omega), hk 14 (by omega), hk 15 (by omega), hk 16 (by omega), hk 17 (by omega)]; exact h
theorem cY.kept {μ ν : aMem} {X : aX} (h : cY μ X) (hk : ∀ k, 18 ≤ k ∧ k ≤ 20 → ν.1 k = μ.1 k) : cY ν X := by
  unfold cY; rw [hk 18 (by omega), hk 19 (by omega), hk 20 (by omega)]; exact h
theorem cA.kept {μ ν : aMem} {X : aX} (h : cA μ X) (hk : ν.1 21 = μ.1 21) : cA ν X := by unfold cA; rw [hk]; exact h
theorem cN.kept {μ ν : aMem} {X : aX} (h : cN μ X) (hk : ν.1 35 = μ.1 35) : cN ν X := by unfold cN; rw [hk]; exact h
theorem mR.kept {μ ν : aMem} {X : aX} (h : mR μ X) (hk : ∀ k, 36 ≤ k → ν.1 k = μ.1 k) : mR ν X := by
  unfold mR mD mW mY mA mO mN
  rw [hk 36 (by omega), hk 37 (by omega), hk 38 (by omega), hk 39 (by omega), hk 40 (by omega), hk 41 (by omega), hk 42 (by omega), hk 43 (by omega), hk 44 (by omega), hk 45 (by omega), hk 46 (by omega), hk 47 (by omega), hk 48 (by omega), hk 57 (by omega), hk 58 (by omega), hk 62 (by omega)]
  exact h
/-- cells that reference calls leave; that class calls leave -/
def loS (μ ν : aMem) : Prop := ∀ k, k < 36 → ν.1 k = μ.1 k ∧ ν.2 k = μ.2 k
def hiS (μ ν : aMem) : Prop := ∀ k, 36 ≤ k → ν.1 k = μ.1 k ∧ ν.2 k = μ.2 k
theorem a_self1 (f : Nat → Nat → Int32) (k : Nat) : va_up f k (f k) = f := by
  funext j
  by_cases e : j = k
  · rw [e, va_up_self]
  · rw [va_up_ne _ _ e]
theorem a_self (μ : aMem) (k : Nat) : μ = (va_up μ.1 k (μ.1 k), μ.2) := by rw [a_self1]
section SORT
variable {G : aG} {μ : aMem}
theorem r_X0_sortIn {l f : Nat → Nat} {d : Nat} (hd : d < 16) (hl : rp (μ.1 10) l (d + 1)) (hf : ∀ i, i < d → μ.1 12 i = nI (f i)) (hfl : ∀ i, i < d → f i < d) (hlb : ∀ i, i ≤ d → l i < 2 ^ 31) :
    a_Spec G sX0_sortIn [.ref 1, .int (nI d)] μ (fun v ν => v = none ∧ ∃ g, ν = (va_up μ.1 12 g, μ.2) ∧ rp g (insS l d d f) (d + 1)) := by
  refine w_X0_sortIn_0 _ ?_
  have key : ∀ (s : Nat) (f : Nat → Nat) (c : Nat → Int32), s ≤ d → (∀ i, i ≤ d → i ≠ s → c i = nI (f i)) → (∀ i, i ≤ d → i ≠ s → f i < d) → ∀ (post : aPost), (∀ g, rp g (insS l d s f) (d + 1) → post none (va_up μ.1 12 g, μ.2)) → a_Runs G sX0_sortIn 2 [(0, .ref 1), (1, .int (nI d)), (2, .int (nI s))] [] (va_up μ.1 12 c, μ.2) post := by
    intro s
    induction s with
    | zero =>
      intro f c _ hc hfl post hp
      refine w_X0_sortIn_2 _ _ ⟨fun _ => ?_, fun h => absurd (by rw [q_le0] <;> omega) h⟩
      rw [q_in (by omega), q_cl (by omega)]
      refine ⟨by omega, ?_⟩
      have e : (va_up (va_up μ.1 12 c) 12 (upd ((va_up μ.1 12 c) 12) 0 (nI d)), μ.2) = ((va_up μ.1 12 (upd c 0 (nI d)), μ.2) : aMem) := by rw [bx_uu, va_up_self]
      rw [e]
      refine hp _ (fun i hi => ?_)
      unfold insS
      by_cases ei : i = 0
      · subst ei; rw [pk_us, upN_s]
      · rw [pk_un ei, upN_n _ _ ei]; exact hc i (by omega) ei
    | succ s ih =>
      intro f c hs hc hfl post hp
      have e10 : (va_up μ.1 12 c) 10 = μ.1 10 := va_up_ne _ _ (by omega)
      have e12 : (va_up μ.1 12 c) 12 = c := va_up_self _ _ _
      have hfs := hfl s (by omega) (by omega)
      refine w_X0_sortIn_2 _ _ ⟨fun h => ?_, fun _ => ?_⟩
      · rw [q_le0 (by omega)] at h; omega
      show _ ∧ _
      simp only [e10, e12]
      rw [q_sub (by omega), Nat.add_sub_cancel, q_in (by omega), q_cl (by omega), hc s (by omega) (by omega), q_in (by omega), q_in (by omega), q_cl (by omega), q_cl (by omega), hl _ (by omega), hl d (by omega), q_le (hlb _ (by omega)) (hlb _ (by omega)), q_in (by omega), q_cl (by omega), q_m1 (by omega), Nat.add_sub_cancel]
      refine ⟨by omega, by omega, by omega, fun h => ⟨by omega, ?_⟩, fun h => ⟨by omega, by omega, ?_⟩⟩
      · have e : (va_up (va_up μ.1 12 c) 12 (upd c (s + 1) (nI d)), μ.2) = ((va_up μ.1 12 (upd c (s + 1) (nI d)), μ.2) : aMem) := by rw [bx_uu]
        rw [e]
        refine hp _ (fun i hi => ?_)
        unfold insS
        rw [if_neg (by omega)]
        by_cases ei : i = s + 1
        · subst ei; rw [pk_us, upN_s]
        · rw [pk_un ei, upN_n _ _ ei]; exact hc i (by omega) ei
      · have e : (va_up (va_up μ.1 12 c) 12 (upd c (s + 1) (nI (f s))), μ.2) = ((va_up μ.1 12 (upd c (s + 1) (nI (f s))), μ.2) : aMem) := by rw [bx_uu]
        rw [e]
        refine ih (upN f (s + 1) (f s)) _ (by omega) (fun i hi his => ?_) (fun i hi his => ?_) post (fun g hg => hp g ?_)
        · by_cases ei : i = s + 1
          · subst ei; rw [pk_us, upN_s]
          · rw [pk_un ei, upN_n _ _ ei]; exact hc i hi ei
        · by_cases ei : i = s + 1
          · subst ei; rw [upN_s]; exact hfs
          · rw [upN_n _ _ ei]; exact hfl i hi ei
        · unfold insS; rw [if_pos (by omega)]; exact hg
  have e0 : μ = (va_up μ.1 12 (μ.1 12), μ.2) := a_self μ 12
  rw [e0]
  exact key d f (μ.1 12) (by omega) (fun i hi his => hf i (by omega)) (fun i hi his => hfl i (by omega)) _ (fun g hg => ⟨rfl, g, by rw [← e0], hg⟩)
end SORT
