/-! ===== the law's loop ===== -/
section LOOP
variable {G : aG} {L : Nat} {xs : Nat → Int32} {μ : aMem} {X : aX} {i : Nat}
theorem lc_156 (hi : i + 5 ≤ L) (hL : L ≤ 2560) (hJ : J μ X) (go : ∀ ξ Y, J ξ Y → a_LR G L xs 950 [(0, .ref 99), (1, .ref 0), (2, .ref 36), (3, .int (nI i))] [] ξ) : a_LR G L xs 156 [(0, .ref 99), (1, .ref 0), (2, .ref 36), (3, .int (nI i))] [] μ := by
  have v1 : vp_in (nI i + nI 1) L := by rw [nI_add, q_in (by omega)]; omega
  have v2 : vp_in (nI i + nI 2) L := by rw [nI_add, q_in (by omega)]; omega
  have v3 : vp_in (nI i + nI 3) L := by rw [nI_add, q_in (by omega)]; omega
  have v4 : vp_in (nI i + nI 4) L := by rw [nI_add, q_in (by omega)]; omega
  refine wl_156 _ ⟨v1, v2, v3, v4, (kc_duct hJ _ _ _ _).mono ?_⟩
  rintro v ν ⟨rfl, h1, h2⟩
  refine ⟨_, rfl, v1, v2, v3, v4, (km_duct hJ.1 (hJ.2.2.hi h2) _ _ _ _).mono ?_⟩
  rintro v ξ ⟨rfl, h3, h4⟩
  exact ⟨_, rfl, fun _ => go ξ _ ⟨(fDuct_j hJ.1 _ _ _ _).1, h1.lo h4, h3⟩, fun h => absurd rfl h⟩
theorem lc_209 (hi : i + 5 ≤ L) (hL : L ≤ 2560) (hJ : J μ X) (go : ∀ ξ Y, J ξ Y → a_LR G L xs 950 [(0, .ref 99), (1, .ref 0), (2, .ref 36), (3, .int (nI i))] [] ξ) : a_LR G L xs 209 [(0, .ref 99), (1, .ref 0), (2, .ref 36), (3, .int (nI i))] [] μ := by
  have v1 : vp_in (nI i + nI 1) L := by rw [nI_add, q_in (by omega)]; omega
  have v2 : vp_in (nI i + nI 2) L := by rw [nI_add, q_in (by omega)]; omega
  have v3 : vp_in (nI i + nI 3) L := by rw [nI_add, q_in (by omega)]; omega
  have v4 : vp_in (nI i + nI 4) L := by rw [nI_add, q_in (by omega)]; omega
  refine wl_209 _ ⟨v1, v2, v3, v4, (kc_wire hJ _ _ _ _).mono ?_⟩
  rintro v ν ⟨rfl, h1, h2⟩
  refine ⟨_, rfl, v1, v2, v3, v4, (km_wire hJ.1 (hJ.2.2.hi h2) _ _ _ _).mono ?_⟩
  rintro v ξ ⟨rfl, h3, h4⟩
  exact ⟨_, rfl, fun _ => go ξ _ ⟨(fWire_j hJ.1 _ _ _ _).1, h1.lo h4, h3⟩, fun h => absurd rfl h⟩
theorem lc_262 (hi : i + 5 ≤ L) (hL : L ≤ 2560) (hJ : J μ X) (go : ∀ ξ Y, J ξ Y → a_LR G L xs 950 [(0, .ref 99), (1, .ref 0), (2, .ref 36), (3, .int (nI i))] [] ξ) : a_LR G L xs 262 [(0, .ref 99), (1, .ref 0), (2, .ref 36), (3, .int (nI i))] [] μ := by
  have v1 : vp_in (nI i + nI 1) L := by rw [nI_add, q_in (by omega)]; omega
  have v2 : vp_in (nI i + nI 2) L := by rw [nI_add, q_in (by omega)]; omega
  have v3 : vp_in (nI i + nI 3) L := by rw [nI_add, q_in (by omega)]; omega
  refine wl_262 _ ⟨v1, v2, v3, fun h0 => (kc_apart hJ _ _ false).mono ?_, fun h0 => (kc_apart hJ _ _ true).mono ?_⟩
  · rintro v ν ⟨rfl, h1, h2⟩
    refine ⟨_, rfl, v1, v2, v3, fun _ => (km_apart hJ.1 (hJ.2.2.hi h2) _ _ false).mono ?_, fun h => absurd h0 h⟩
    rintro v ξ ⟨rfl, h3, h4⟩
    exact ⟨_, rfl, fun _ => go ξ _ ⟨(fApart_j hJ.1 _ _ false).1, h1.lo h4, h3⟩, fun h => absurd rfl h⟩
  · rintro v ν ⟨rfl, h1, h2⟩
    refine ⟨_, rfl, v1, v2, v3, fun h => absurd h h0, fun _ => (km_apart hJ.1 (hJ.2.2.hi h2) _ _ true).mono ?_⟩
    rintro v ξ ⟨rfl, h3, h4⟩
    exact ⟨_, rfl, fun _ => go ξ _ ⟨(fApart_j hJ.1 _ _ true).1, h1.lo h4, h3⟩, fun h => absurd rfl h⟩
theorem lc_321 (hi : i + 5 ≤ L) (hL : L ≤ 2560) (hJ : J μ X) (go : ∀ ξ Y, J ξ Y → a_LR G L xs 950 [(0, .ref 99), (1, .ref 0), (2, .ref 36), (3, .int (nI i))] [] ξ) : a_LR G L xs 321 [(0, .ref 99), (1, .ref 0), (2, .ref 36), (3, .int (nI i))] [] μ := by
  have v1 : vp_in (nI i + nI 1) L := by rw [nI_add, q_in (by omega)]; omega
  refine wl_321 _ ⟨v1, (kc_lay hJ _).mono ?_⟩
  rintro v ν ⟨rfl, h1, h2⟩
  refine ⟨_, rfl, v1, (km_lay hJ.1 (hJ.2.2.hi h2) _).mono ?_⟩
  rintro v ξ ⟨rfl, h3, h4⟩
  exact ⟨_, rfl, fun _ => go ξ _ ⟨(fLay_j hJ.1 _).1, h1.lo h4, h3⟩, fun h => absurd rfl h⟩
theorem lc_344 (hi : i + 5 ≤ L) (hL : L ≤ 2560) (hJ : J μ X) (go : ∀ ξ Y, J ξ Y → a_LR G L xs 950 [(0, .ref 99), (1, .ref 0), (2, .ref 36), (3, .int (nI i))] [] ξ) : a_LR G L xs 344 [(0, .ref 99), (1, .ref 0), (2, .ref 36), (3, .int (nI i))] [] μ := by
  have v1 : vp_in (nI i + nI 1) L := by rw [nI_add, q_in (by omega)]; omega
  refine wl_344 _ ⟨v1, (kc_lift hJ _).mono ?_⟩
  rintro v ν ⟨rfl, h1, h2⟩
  refine ⟨_, rfl, v1, (km_lift hJ.1 (hJ.2.2.hi h2) _).mono ?_⟩
  rintro v ξ ⟨rfl, h3, h4⟩
  exact ⟨_, rfl, fun _ => go ξ _ ⟨(fLift_j hJ.1 _).1, h1.lo h4, h3⟩, fun h => absurd rfl h⟩
theorem lc_367 (hi : i + 5 ≤ L) (hL : L ≤ 2560) (hJ : J μ X) (go : ∀ ξ Y, J ξ Y → a_LR G L xs 950 [(0, .ref 99), (1, .ref 0), (2, .ref 36), (3, .int (nI i))] [] ξ) : a_LR G L xs 367 [(0, .ref 99), (1, .ref 0), (2, .ref 36), (3, .int (nI i))] [] μ := by
  have v1 : vp_in (nI i + nI 1) L := by rw [nI_add, q_in (by omega)]; omega
  have v2 : vp_in (nI i + nI 2) L := by rw [nI_add, q_in (by omega)]; omega
  refine wl_367 _ ⟨v1, v2, (kc_way hJ _ _).mono ?_⟩
  rintro v ν ⟨rfl, h1, h2⟩
  refine ⟨_, rfl, v1, v2, (km_way hJ.1 (hJ.2.2.hi h2) _ _).mono ?_⟩
  rintro v ξ ⟨rfl, h3, h4⟩
  exact ⟨_, rfl, fun _ => go ξ _ ⟨hJ.1, h1.lo h4, h3⟩, fun h => absurd rfl h⟩
theorem lc_400 (hi : i + 5 ≤ L) (hL : L ≤ 2560) (hJ : J μ X) (go : ∀ ξ Y, J ξ Y → a_LR G L xs 950 [(0, .ref 99), (1, .ref 0), (2, .ref 36), (3, .int (nI i))] [] ξ) : a_LR G L xs 400 [(0, .ref 99), (1, .ref 0), (2, .ref 36), (3, .int (nI i))] [] μ := by
  have v1 : vp_in (nI i + nI 1) L := by rw [nI_add, q_in (by omega)]; omega
  refine wl_400 _ ⟨v1, (kc_length hJ _).mono ?_⟩
  rintro v ν ⟨rfl, h1, h2⟩
  refine ⟨_, rfl, v1, (km_length hJ.1 (hJ.2.2.hi h2) _).mono ?_⟩
  rintro v ξ ⟨rfl, h3, h4⟩
  exact ⟨_, rfl, fun _ => go ξ _ ⟨hJ.1, h1.lo h4, h3⟩, fun h => absurd rfl h⟩
theorem lc_423 (hi : i + 5 ≤ L) (hL : L ≤ 2560) (hJ : J μ X) (go : ∀ ξ Y, J ξ Y → a_LR G L xs 950 [(0, .ref 99), (1, .ref 0), (2, .ref 36), (3, .int (nI i))] [] ξ) : a_LR G L xs 423 [(0, .ref 99), (1, .ref 0), (2, .ref 36), (3, .int (nI i))] [] μ := by
  have v1 : vp_in (nI i + nI 1) L := by rw [nI_add, q_in (by omega)]; omega
  have v2 : vp_in (nI i + nI 2) L := by rw [nI_add, q_in (by omega)]; omega
  refine wl_423 _ ⟨v1, v2, fun h0 => (kc_left hJ _ false).mono ?_, fun h0 => (kc_left hJ _ true).mono ?_⟩
  · rintro v ν ⟨rfl, h1, h2⟩
    refine ⟨_, rfl, v1, v2, fun _ => (km_left hJ.1 (hJ.2.2.hi h2) _ false).mono ?_, fun h => absurd h0 h⟩
    rintro v ξ ⟨rfl, h3, h4⟩
    exact ⟨_, rfl, fun _ => go ξ _ ⟨hJ.1, h1.lo h4, h3⟩, fun h => absurd rfl h⟩
  · rintro v ν ⟨rfl, h1, h2⟩
    refine ⟨_, rfl, v1, v2, fun h => absurd h h0, fun _ => (km_left hJ.1 (hJ.2.2.hi h2) _ true).mono ?_⟩
    rintro v ξ ⟨rfl, h3, h4⟩
    exact ⟨_, rfl, fun _ => go ξ _ ⟨hJ.1, h1.lo h4, h3⟩, fun h => absurd rfl h⟩
theorem lc_472 (hi : i + 5 ≤ L) (hL : L ≤ 2560) (hJ : J μ X) (go : ∀ ξ Y, J ξ Y → a_LR G L xs 950 [(0, .ref 99), (1, .ref 0), (2, .ref 36), (3, .int (nI i))] [] ξ) : a_LR G L xs 472 [(0, .ref 99), (1, .ref 0), (2, .ref 36), (3, .int (nI i))] [] μ := by
  have v1 : vp_in (nI i + nI 1) L := by rw [nI_add, q_in (by omega)]; omega
  have v2 : vp_in (nI i + nI 2) L := by rw [nI_add, q_in (by omega)]; omega
  refine wl_472 _ ⟨v1, v2, (kc_loss hJ _ _).mono ?_⟩
  rintro v ν ⟨rfl, h1, h2⟩
  refine ⟨_, rfl, v1, v2, (km_loss hJ.1 (hJ.2.2.hi h2) _ _).mono ?_⟩
  rintro v ξ ⟨rfl, h3, h4⟩
  exact ⟨_, rfl, fun _ => go ξ _ ⟨hJ.1, h1.lo h4, h3⟩, fun h => absurd rfl h⟩
theorem lc_505 (hi : i + 5 ≤ L) (hL : L ≤ 2560) (hJ : J μ X) (go : ∀ ξ Y, J ξ Y → a_LR G L xs 950 [(0, .ref 99), (1, .ref 0), (2, .ref 36), (3, .int (nI i))] [] ξ) : a_LR G L xs 505 [(0, .ref 99), (1, .ref 0), (2, .ref 36), (3, .int (nI i))] [] μ := by
  refine wl_505 _ ((kc_clashes hJ).mono ?_)
  rintro v ν ⟨rfl, h1, h2⟩
  refine ⟨_, rfl, (km_clashes hJ.1 (hJ.2.2.hi h2)).mono ?_⟩
  rintro v ξ ⟨rfl, h3, h4⟩
  exact ⟨_, rfl, fun _ => go ξ _ ⟨hJ.1, h1.lo h4, h3⟩, fun h => absurd rfl h⟩
theorem lc_518 (hi : i + 5 ≤ L) (hL : L ≤ 2560) (hJ : J μ X) (go : ∀ ξ Y, J ξ Y → a_LR G L xs 950 [(0, .ref 99), (1, .ref 0), (2, .ref 36), (3, .int (nI i))] [] ξ) : a_LR G L xs 518 [(0, .ref 99), (1, .ref 0), (2, .ref 36), (3, .int (nI i))] [] μ := by
  have v1 : vp_in (nI i + nI 1) L := by rw [nI_add, q_in (by omega)]; omega
  have v2 : vp_in (nI i + nI 2) L := by rw [nI_add, q_in (by omega)]; omega
  refine wl_518 _ ⟨v1, v2, (kc_far hJ _ _).mono ?_⟩
  rintro v ν ⟨rfl, h1, h2⟩
  refine ⟨_, rfl, v1, v2, (km_far hJ.1 (hJ.2.2.hi h2) _ _).mono ?_⟩
  rintro v ξ ⟨rfl, h3, h4⟩
  exact ⟨_, rfl, fun _ => go ξ _ ⟨hJ.1, h1.lo h4, h3⟩, fun h => absurd rfl h⟩
theorem lc_551 (hi : i + 5 ≤ L) (hL : L ≤ 2560) (hJ : J μ X) (go : ∀ ξ Y, J ξ Y → a_LR G L xs 950 [(0, .ref 99), (1, .ref 0), (2, .ref 36), (3, .int (nI i))] [] ξ) : a_LR G L xs 551 [(0, .ref 99), (1, .ref 0), (2, .ref 36), (3, .int (nI i))] [] μ := by
  have v1 : vp_in (nI i + nI 1) L := by rw [nI_add, q_in (by omega)]; omega
  have v2 : vp_in (nI i + nI 2) L := by rw [nI_add, q_in (by omega)]; omega
  refine wl_551 _ ⟨v1, v2, (kc_two hJ _ _).mono ?_⟩
  rintro v ν ⟨rfl, h1, h2⟩
  refine ⟨_, rfl, v1, v2, (km_two hJ.1 (hJ.2.2.hi h2) _ _).mono ?_⟩
  rintro v ξ ⟨rfl, h3, h4⟩
  exact ⟨_, rfl, fun _ => go ξ _ ⟨hJ.1, h1.lo h4, h3⟩, fun h => absurd rfl h⟩
theorem lc_584 (hi : i + 5 ≤ L) (hL : L ≤ 2560) (hJ : J μ X) (go : ∀ ξ Y, J ξ Y → a_LR G L xs 950 [(0, .ref 99), (1, .ref 0), (2, .ref 36), (3, .int (nI i))] [] ξ) : a_LR G L xs 584 [(0, .ref 99), (1, .ref 0), (2, .ref 36), (3, .int (nI i))] [] μ := by
  have v1 : vp_in (nI i + nI 1) L := by rw [nI_add, q_in (by omega)]; omega
  refine wl_584 _ ⟨v1, (kc_net hJ _).mono ?_⟩
  rintro v ν ⟨rfl, h1, h2⟩
  refine ⟨_, rfl, v1, (km_net hJ.1 (hJ.2.2.hi h2) _).mono ?_⟩
  rintro v ξ ⟨rfl, h3, h4⟩
  exact ⟨_, rfl, fun _ => go ξ _ ⟨hJ.1, h1.lo h4, h3⟩, fun h => absurd rfl h⟩
theorem lc_607 (hi : i + 5 ≤ L) (hL : L ≤ 2560) (hJ : J μ X) (go : ∀ ξ Y, J ξ Y → a_LR G L xs 950 [(0, .ref 99), (1, .ref 0), (2, .ref 36), (3, .int (nI i))] [] ξ) : a_LR G L xs 607 [(0, .ref 99), (1, .ref 0), (2, .ref 36), (3, .int (nI i))] [] μ := by
  have v1 : vp_in (nI i + nI 1) L := by rw [nI_add, q_in (by omega)]; omega
  refine wl_607 _ ⟨v1, (kc_splice hJ _).mono ?_⟩
  rintro v ν ⟨rfl, h1, h2⟩
  refine ⟨_, rfl, v1, (km_splice hJ.1 (hJ.2.2.hi h2) _).mono ?_⟩
  rintro v ξ ⟨rfl, h3, h4⟩
  exact ⟨_, rfl, fun _ => go ξ _ ⟨hJ.1, h1.lo h4, h3⟩, fun h => absurd rfl h⟩
theorem lc_630 (hi : i + 5 ≤ L) (hL : L ≤ 2560) (hJ : J μ X) (go : ∀ ξ Y, J ξ Y → a_LR G L xs 950 [(0, .ref 99), (1, .ref 0), (2, .ref 36), (3, .int (nI i))] [] ξ) : a_LR G L xs 630 [(0, .ref 99), (1, .ref 0), (2, .ref 36), (3, .int (nI i))] [] μ := by
  have v1 : vp_in (nI i + nI 1) L := by rw [nI_add, q_in (by omega)]; omega
  have v2 : vp_in (nI i + nI 2) L := by rw [nI_add, q_in (by omega)]; omega
  refine wl_630 _ ⟨v1, v2, (kc_option hJ _ _).mono ?_⟩
  rintro v ν ⟨rfl, h1, h2⟩
  refine ⟨_, rfl, v1, v2, (km_option hJ.1 (hJ.2.2.hi h2) _ _).mono ?_⟩
  rintro v ξ ⟨rfl, h3, h4⟩
  exact ⟨_, rfl, fun _ => go ξ _ ⟨(fOption_j hJ.1 _ _).1, h1.lo h4, h3⟩, fun h => absurd rfl h⟩
theorem lc_663 (hi : i + 5 ≤ L) (hL : L ≤ 2560) (hJ : J μ X) (go : ∀ ξ Y, J ξ Y → a_LR G L xs 950 [(0, .ref 99), (1, .ref 0), (2, .ref 36), (3, .int (nI i))] [] ξ) : a_LR G L xs 663 [(0, .ref 99), (1, .ref 0), (2, .ref 36), (3, .int (nI i))] [] μ := by
  have v1 : vp_in (nI i + nI 1) L := by rw [nI_add, q_in (by omega)]; omega
  have v2 : vp_in (nI i + nI 2) L := by rw [nI_add, q_in (by omega)]; omega
  refine wl_663 _ ⟨v1, v2, (kc_order hJ _ _).mono ?_⟩
  rintro v ν ⟨rfl, h1, h2⟩
  refine ⟨_, rfl, v1, v2, (km_order hJ.1 (hJ.2.2.hi h2) _ _).mono ?_⟩
  rintro v ξ ⟨rfl, h3, h4⟩
  exact ⟨_, rfl, fun _ => go ξ _ ⟨(fOrder_j hJ.1 _ _).1, h1.lo h4, h3⟩, fun h => absurd rfl h⟩
theorem lc_696 (hi : i + 5 ≤ L) (hL : L ≤ 2560) (hJ : J μ X) (go : ∀ ξ Y, J ξ Y → a_LR G L xs 950 [(0, .ref 99), (1, .ref 0), (2, .ref 36), (3, .int (nI i))] [] ξ) : a_LR G L xs 696 [(0, .ref 99), (1, .ref 0), (2, .ref 36), (3, .int (nI i))] [] μ := by
  have v1 : vp_in (nI i + nI 1) L := by rw [nI_add, q_in (by omega)]; omega
  refine wl_696 _ ⟨v1, (kc_setup hJ _).mono ?_⟩
  rintro v ν ⟨rfl, h1, h2⟩
  refine ⟨_, rfl, v1, (km_setup hJ.1 (hJ.2.2.hi h2) _).mono ?_⟩
  rintro v ξ ⟨rfl, h3, h4⟩
  exact ⟨_, rfl, fun _ => go ξ _ ⟨(fSetup_j hJ.1 _).1, h1.lo h4, h3⟩, fun h => absurd rfl h⟩
theorem lc_719 (hi : i + 5 ≤ L) (hL : L ≤ 2560) (hJ : J μ X) (go : ∀ ξ Y, J ξ Y → a_LR G L xs 950 [(0, .ref 99), (1, .ref 0), (2, .ref 36), (3, .int (nI i))] [] ξ) : a_LR G L xs 719 [(0, .ref 99), (1, .ref 0), (2, .ref 36), (3, .int (nI i))] [] μ := by
  have v1 : vp_in (nI i + nI 1) L := by rw [nI_add, q_in (by omega)]; omega
  refine wl_719 _ ⟨v1, (kc_weight hJ _).mono ?_⟩
  rintro v ν ⟨rfl, h1, h2⟩
  refine ⟨_, rfl, v1, (km_weight hJ.1 (hJ.2.2.hi h2) _).mono ?_⟩
  rintro v ξ ⟨rfl, h3, h4⟩
  exact ⟨_, rfl, fun _ => go ξ _ ⟨hJ.1, h1.lo h4, h3⟩, fun h => absurd rfl h⟩
theorem lc_742 (hi : i + 5 ≤ L) (hL : L ≤ 2560) (hJ : J μ X) (go : ∀ ξ Y, J ξ Y → a_LR G L xs 950 [(0, .ref 99), (1, .ref 0), (2, .ref 36), (3, .int (nI i))] [] ξ) : a_LR G L xs 742 [(0, .ref 99), (1, .ref 0), (2, .ref 36), (3, .int (nI i))] [] μ := by
  refine wl_742 _ ((kc_best hJ).mono ?_)
  rintro v ν ⟨rfl, h1, h2⟩
  refine ⟨_, rfl, (km_best hJ.1 (hJ.2.2.hi h2)).mono ?_⟩
  rintro v ξ ⟨rfl, h3, h4⟩
  exact ⟨_, rfl, fun _ => go ξ _ ⟨hJ.1, h1.lo h4, h3⟩, fun h => absurd ((lg_cmp_eq _ _).mpr rfl) h⟩
theorem lc_756 (hi : i + 5 ≤ L) (hL : L ≤ 2560) (hJ : J μ X) (go : ∀ ξ Y, J ξ Y → a_LR G L xs 950 [(0, .ref 99), (1, .ref 0), (2, .ref 36), (3, .int (nI i))] [] ξ) : a_LR G L xs 756 [(0, .ref 99), (1, .ref 0), (2, .ref 36), (3, .int (nI i))] [] μ := by
  have v1 : vp_in (nI i + nI 1) L := by rw [nI_add, q_in (by omega)]; omega
  refine wl_756 _ ⟨v1, (kc_loom hJ _).mono ?_⟩
  rintro v ν ⟨rfl, h1, h2⟩
  refine ⟨_, rfl, v1, (km_loom hJ.1 (hJ.2.2.hi h2) _).mono ?_⟩
  rintro v ξ ⟨rfl, h3, h4⟩
  exact ⟨_, rfl, fun _ => go ξ _ ⟨hJ.1, h1.lo h4, h3⟩, fun h => absurd rfl h⟩
theorem lc_779 (hi : i + 5 ≤ L) (hL : L ≤ 2560) (hJ : J μ X) (go : ∀ ξ Y, J ξ Y → a_LR G L xs 950 [(0, .ref 99), (1, .ref 0), (2, .ref 36), (3, .int (nI i))] [] ξ) : a_LR G L xs 779 [(0, .ref 99), (1, .ref 0), (2, .ref 36), (3, .int (nI i))] [] μ := by
  refine wl_779 _ ((kc_alike hJ).mono ?_)
  rintro v ν ⟨rfl, h1, h2⟩
  refine ⟨_, rfl, (km_alike hJ.1 (hJ.2.2.hi h2)).mono ?_⟩
  rintro v ξ ⟨rfl, h3, h4⟩
  exact ⟨_, rfl, fun _ => go ξ _ ⟨hJ.1, h1.lo h4, h3⟩, fun h => absurd rfl h⟩
theorem lc_792 (hi : i + 5 ≤ L) (hL : L ≤ 2560) (hJ : J μ X) (go : ∀ ξ Y, J ξ Y → a_LR G L xs 950 [(0, .ref 99), (1, .ref 0), (2, .ref 36), (3, .int (nI i))] [] ξ) : a_LR G L xs 792 [(0, .ref 99), (1, .ref 0), (2, .ref 36), (3, .int (nI i))] [] μ := by
  have v1 : vp_in (nI i + nI 1) L := by rw [nI_add, q_in (by omega)]; omega
  have v2 : vp_in (nI i + nI 2) L := by rw [nI_add, q_in (by omega)]; omega
  refine wl_792 _ ⟨v1, v2, (kc_pin hJ _ _).mono ?_⟩
  rintro v ν ⟨rfl, h1, h2⟩
  refine ⟨_, rfl, v1, v2, (km_pin hJ.1 (hJ.2.2.hi h2) _ _).mono ?_⟩
  rintro v ξ ⟨rfl, h3, h4⟩
  exact ⟨_, rfl, fun _ => go ξ _ ⟨(fPin_j hJ.1 _ _).1, h1.lo h4, h3⟩, fun h => absurd rfl h⟩
theorem lc_825 (hi : i + 5 ≤ L) (hL : L ≤ 2560) (hJ : J μ X) (go : ∀ ξ Y, J ξ Y → a_LR G L xs 950 [(0, .ref 99), (1, .ref 0), (2, .ref 36), (3, .int (nI i))] [] ξ) : a_LR G L xs 825 [(0, .ref 99), (1, .ref 0), (2, .ref 36), (3, .int (nI i))] [] μ := by
  refine wl_825 _ ((kc_tests hJ).mono ?_)
  rintro v ν ⟨rfl, h1, h2⟩
  refine ⟨_, rfl, (km_tests hJ.1 (hJ.2.2.hi h2)).mono ?_⟩
  rintro v ξ ⟨rfl, h3, h4⟩
  exact ⟨_, rfl, fun _ => go ξ _ ⟨hJ.1, h1.lo h4, h3⟩, fun h => absurd rfl h⟩
theorem lc_838 (hi : i + 5 ≤ L) (hL : L ≤ 2560) (hJ : J μ X) (go : ∀ ξ Y, J ξ Y → a_LR G L xs 950 [(0, .ref 99), (1, .ref 0), (2, .ref 36), (3, .int (nI i))] [] ξ) : a_LR G L xs 838 [(0, .ref 99), (1, .ref 0), (2, .ref 36), (3, .int (nI i))] [] μ := by
  have v1 : vp_in (nI i + nI 1) L := by rw [nI_add, q_in (by omega)]; omega
  have v2 : vp_in (nI i + nI 2) L := by rw [nI_add, q_in (by omega)]; omega
  refine wl_838 _ ⟨v1, v2, (kc_side hJ _ _).mono ?_⟩
  rintro v ν ⟨rfl, h1, h2⟩
  refine ⟨_, rfl, v1, v2, (km_side hJ.1 (hJ.2.2.hi h2) _ _).mono ?_⟩
  rintro v ξ ⟨rfl, h3, h4⟩
  exact ⟨_, rfl, fun _ => go ξ _ ⟨hJ.1, h1.lo h4, h3⟩, fun h => absurd rfl h⟩
theorem lc_871 (hi : i + 5 ≤ L) (hL : L ≤ 2560) (hJ : J μ X) (go : ∀ ξ Y, J ξ Y → a_LR G L xs 950 [(0, .ref 99), (1, .ref 0), (2, .ref 36), (3, .int (nI i))] [] ξ) : a_LR G L xs 871 [(0, .ref 99), (1, .ref 0), (2, .ref 36), (3, .int (nI i))] [] μ := by
  have v1 : vp_in (nI i + nI 1) L := by rw [nI_add, q_in (by omega)]; omega
  have v2 : vp_in (nI i + nI 2) L := by rw [nI_add, q_in (by omega)]; omega
  refine wl_871 _ ⟨v1, v2, (kc_shows hJ _ _).mono ?_⟩
  rintro v ν ⟨rfl, h1, h2⟩
  refine ⟨_, rfl, v1, v2, (km_shows hJ.1 (hJ.2.2.hi h2) _ _).mono ?_⟩
  rintro v ξ ⟨rfl, h3, h4⟩
  exact ⟨_, rfl, fun _ => go ξ _ ⟨hJ.1, h1.lo h4, h3⟩, fun h => absurd rfl h⟩
theorem lc_904 (hi : i + 5 ≤ L) (hL : L ≤ 2560) (hJ : J μ X) (go : ∀ ξ Y, J ξ Y → a_LR G L xs 950 [(0, .ref 99), (1, .ref 0), (2, .ref 36), (3, .int (nI i))] [] ξ) : a_LR G L xs 904 [(0, .ref 99), (1, .ref 0), (2, .ref 36), (3, .int (nI i))] [] μ := by
  have v1 : vp_in (nI i + nI 1) L := by rw [nI_add, q_in (by omega)]; omega
  refine wl_904 _ ⟨v1, (kc_pairs hJ _).mono ?_⟩
  rintro v ν ⟨rfl, h1, h2⟩
  refine ⟨_, rfl, v1, (km_pairs hJ.1 (hJ.2.2.hi h2) _).mono ?_⟩
  rintro v ξ ⟨rfl, h3, h4⟩
  exact ⟨_, rfl, fun _ => go ξ _ ⟨hJ.1, h1.lo h4, h3⟩, fun h => absurd rfl h⟩
theorem lc_927 (hi : i + 5 ≤ L) (hL : L ≤ 2560) (hJ : J μ X) (go : ∀ ξ Y, J ξ Y → a_LR G L xs 950 [(0, .ref 99), (1, .ref 0), (2, .ref 36), (3, .int (nI i))] [] ξ) : a_LR G L xs 927 [(0, .ref 99), (1, .ref 0), (2, .ref 36), (3, .int (nI i))] [] μ := by
  have v1 : vp_in (nI i + nI 1) L := by rw [nI_add, q_in (by omega)]; omega
  refine wl_927 _ ⟨v1, (kc_count hJ _).mono ?_⟩
  rintro v ν ⟨rfl, h1, h2⟩
  refine ⟨_, rfl, v1, (km_count hJ.1 (hJ.2.2.hi h2) _).mono ?_⟩
  rintro v ξ ⟨rfl, h3, h4⟩
  exact ⟨_, rfl, fun _ => go ξ _ ⟨hJ.1, h1.lo h4, h3⟩, fun h => absurd rfl h⟩
theorem law_loop (hL : L ≤ 2560) : ∀ (n i : Nat) (μ : aMem) (X : aX), 2565 - i ≤ n → i ≤ 2560 → J μ X → a_LR G L xs 18 [(0, .ref 99), (1, .ref 0), (2, .ref 36), (3, .int (nI i))] [] μ := by
  intro n
  induction n with
  | zero => intro i μ X h1 h2; omega
  | succ n ih =>
    intro i μ X hn hi hJ
    have el : (Int32.ofNat L - nI 5).toInt = (L : Int) - 5 := by
      show (nI L - nI 5).toInt = _
      rw [fb_subI (by rw [z_nI (by omega), z_nI (by decide)]; omega) (by rw [z_nI (by omega), z_nI (by decide)]; omega), z_nI (by omega), z_nI (by decide)]; rfl
    refine wl_18 _ ?_
    rw [z_ltI, el, z_nI (by omega), q_in (by omega)]
    refine ⟨fun _ => wl_956 ⟨nI_11, rfl⟩, fun h => ⟨by omega, ?_⟩⟩
    have hi5 : i + 5 ≤ L := by omega
    have go : ∀ ξ Y, J ξ Y → a_LR G L xs 950 [(0, .ref 99), (1, .ref 0), (2, .ref 36), (3, .int (nI i))] [] ξ := fun ξ Y hY => wl_950 _ (by rw [nI_add]; exact ih (i + 5) ξ Y (by omega) (by omega) hY)
    exact ⟨fun _ => go μ X hJ, fun _ => lc_156 hi5 hL hJ go, fun _ => lc_209 hi5 hL hJ go, fun _ => lc_262 hi5 hL hJ go, fun _ => lc_321 hi5 hL hJ go, fun _ => lc_344 hi5 hL hJ go, fun _ => lc_367 hi5 hL hJ go, fun _ => lc_400 hi5 hL hJ go, fun _ => lc_423 hi5 hL hJ go, fun _ => lc_472 hi5 hL hJ go, fun _ => lc_505 hi5 hL hJ go, fun _ => lc_518 hi5 hL hJ go, fun _ => lc_551 hi5 hL hJ go, fun _ => lc_584 hi5 hL hJ go, fun _ => lc_607 hi5 hL hJ go, fun _ => lc_630 hi5 hL hJ go, fun _ => lc_663 hi5 hL hJ go, fun _ => lc_696 hi5 hL hJ go, fun _ => lc_719 hi5 hL hJ go, fun _ => lc_742 hi5 hL hJ go, fun _ => lc_756 hi5 hL hJ go, fun _ => lc_779 hi5 hL hJ go, fun _ => lc_792 hi5 hL hJ go, fun _ => lc_825 hi5 hL hJ go, fun _ => lc_838 hi5 hL hJ go, fun _ => lc_871 hi5 hL hJ go, fun _ => lc_904 hi5 hL hJ go, fun _ => lc_927 hi5 hL hJ go, trivial⟩
end LOOP
