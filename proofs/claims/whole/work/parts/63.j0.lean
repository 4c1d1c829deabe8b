/-! ===== the start ===== -/
def μ0 : aMem := (fun k => match k with
  | 4 => (fun j => match j with | 3 => 1000000 | _ => 0)
  | 5 => (fun j => match j with | 1 => 1000 | 2 => 1 | _ => 0)
  | 36 => (fun j => match j with | 25 => 1000 | _ => 0)
  | _ => (fun _ => 0), fun _ _ => 0)
def X0s : aX := fun r => if r = 17 then (fun _ => 1000) else (fun _ => 0)
theorem z_rp {c : Nat → Int32} {f : Nat → Nat} {N : Nat} (hc : ∀ i, c i = 0) (hf : ∀ i, i < N → f i = 0) : rp c f N := fun i hi => by rw [hc i, hf i hi]; rfl
theorem J0 : J μ0 X0s := by
  have zz : ∀ {f : Nat → Nat}, (∀ i, f i = 0) → ∀ n, orF f n = 0 := fun {f} hf n => by
    induction n with
    | zero => rfl
    | succ n ih => show orF f n ||| f n = 0; rw [ih, hf]; rfl
  refine ⟨⟨⟨by decide, fun d h => ?_⟩, ⟨by decide, fun w h => ?_, fun w h => by show (0 : Nat) < 256; decide⟩, fun w h => ⟨by show (0 : Nat) ≤ 9; decide, fun _ => rfl, fun i hi => ?_, fun i j _ hj => ?_⟩, fun a b _ _ => ⟨by show (0 : Nat) ≤ 1; decide, rfl⟩, ⟨by decide, fun o h => ?_, by decide⟩, fun p h => by show (0 : Nat) < 8; decide⟩, ⟨?_, ?_, ?_, ?_, ?_, ?_, ?_⟩, ?_, ?_, ?_, ?_, ?_, ?_⟩
  · exact absurd h (Nat.not_lt_zero _)
  · exact absurd h (Nat.not_lt_zero _)
  · exact absurd hi (Nat.not_lt_zero _)
  · exact absurd hj (Nat.not_lt_zero _)
  · exact absurd h (Nat.not_lt_zero _)
  · exact ⟨rfl, fun i h => absurd h (Nat.not_lt_zero _), fun i h => absurd h (Nat.not_lt_zero _), fun i h => absurd h (Nat.not_lt_zero _), fun i h => absurd h (Nat.not_lt_zero _), fun i h => absurd h (Nat.not_lt_zero _), fun i h => absurd h (Nat.not_lt_zero _)⟩
  · exact ⟨rfl, fun i h => absurd h (Nat.not_lt_zero _), fun i h => absurd h (Nat.not_lt_zero _), fun i h => absurd h (Nat.not_lt_zero _), fun i h => absurd h (Nat.not_lt_zero _), z_rp (fun _ => rfl) (fun _ _ => rfl)⟩
  · exact ⟨z_rp (fun _ => rfl) (fun _ _ => rfl), z_rp (fun _ => rfl) (fun _ _ => rfl), fun w _ i hi => absurd hi (Nat.not_lt_zero _)⟩
  · exact z_rp (fun _ => rfl) (fun a _ => zz (fun b => Nat.zero_mul _) 4)
  · exact ⟨rfl, rfl, fun i h => absurd h (Nat.not_lt_zero _), fun i h => absurd h (Nat.not_lt_zero _)⟩
  · exact z_rp (fun _ => rfl) (fun _ _ => rfl)
  · exact ⟨rfl, rfl, rfl, fun h => absurd h (by decide)⟩
  · exact ⟨rfl, fun i h => absurd h (Nat.not_lt_zero _), fun i h => absurd h (Nat.not_lt_zero _), fun i h => absurd h (Nat.not_lt_zero _), fun i h => absurd h (Nat.not_lt_zero _)⟩
  · exact ⟨rfl, fun i h => absurd h (Nat.not_lt_zero _), fun i h => absurd h (Nat.not_lt_zero _), fun i h => absurd h (Nat.not_lt_zero _), fun i h => absurd h (Nat.not_lt_zero _), z_rp (fun _ => rfl) (fun _ _ => rfl)⟩
  · exact ⟨z_rp (fun _ => rfl) (fun _ _ => rfl), fun w _ i hi => absurd hi (Nat.not_lt_zero _)⟩
  · exact z_rp (fun _ => rfl) (fun _ _ => rfl)
  · exact ⟨rfl, rfl, fun i h => absurd h (Nat.not_lt_zero _), fun i h => absurd h (Nat.not_lt_zero _)⟩
  · exact z_rp (fun _ => rfl) (fun _ _ => rfl)
