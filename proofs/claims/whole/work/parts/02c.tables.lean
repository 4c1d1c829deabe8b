theorem a_all2_cut {α β : Type} {f : α → β → Bool} : ∀ (k : Nat) {l : List α} {m : List β}, a_all2 f (l.take k) (m.take k) = true → a_all2 f (l.drop k) (m.drop k) = true → a_all2 f l m = true
  | 0, l, m, _, h => h
  | k + 1, [], m, _, _ => by cases m <;> rfl
  | k + 1, a :: l, [], h, _ => h
  | k + 1, a :: l, b :: m, h1, h2 => by
    have h1 : (f a b && a_all2 f (l.take k) (m.take k)) = true := h1
    rw [Bool.and_eq_true] at h1
    show (f a b && a_all2 f l m) = true
    rw [Bool.and_eq_true]
    exact ⟨h1.1, a_all2_cut k h1.2 h2⟩
theorem a_okT_i {own : String} {t : aTab} {pF : List Nat} {pC : List (Nat × Nat × Nat × Nat)} {pK pL : List Nat} (h1 : a_all2 (a_okF own) t.1 pF = true) (h2 : a_all2 (a_okC own) t.2.1 pC = true) (h3 : a_all2 (fun q p => a_w p (Jvm.Cond.constant own q.1 q.2)) t.2.2.1 pK = true) (h4 : a_all2 (fun q p => a_w p (Jvm.Cond.constantLong own q.1 q.2)) t.2.2.2 pL = true) : a_okT own t pF pC pK pL = true := by
  unfold a_okT; rw [h1, h2, h3, h4]; rfl
def tX7_pF : List Nat := [641, 642, 643, 644, 646, 647, 648, 649, 650, 651, 652, 653, 654, 655, 656, 657, 658, 659, 660, 661, 663, 664, 665, 666, 667, 668, 670, 640, 645, 662, 669]
def tX7_pC : List (Nat × Nat × Nat × Nat) := [(49, 742, 743, 0), (49, 739, 740, 0), (49, 769, 771, 18), (49, 765, 767, 17), (49, 778, 780, 20), (49, 786, 788, 22), (49, 757, 759, 15), (49, 761, 763, 16), (49, 773, 775, 19), (49, 782, 784, 21), (49, 790, 792, 23), (49, 810, 812, 24), (49, 822, 824, 25), (49, 830, 832, 26), (49, 842, 844, 28), (49, 838, 840, 27), (49, 853, 854, 0), (49, 860, 862, 30), (49, 850, 851, 0), (49, 856, 858, 29), (49, 864, 866, 31), (49, 893, 895, 33), (49, 889, 891, 32), (49, 906, 908, 35), (49, 910, 912, 36), (49, 901, 903, 34), (49, 922, 924, 37), (49, 930, 931, 0), (49, 937, 939, 38), (49, 953, 955, 40), (49, 949, 951, 39)]
set_option maxRecDepth 100000 in
theorem tX7_F_0 : a_all2 (a_okF RX7) ((tX7.1.drop 0).take 8) ((tX7_pF.drop 0).take 8) = true := by decide +kernel
set_option maxRecDepth 100000 in
theorem tX7_F_1 : a_all2 (a_okF RX7) ((tX7.1.drop 8).take 8) ((tX7_pF.drop 8).take 8) = true := by decide +kernel
set_option maxRecDepth 100000 in
theorem tX7_F_2 : a_all2 (a_okF RX7) ((tX7.1.drop 16).take 8) ((tX7_pF.drop 16).take 8) = true := by decide +kernel
set_option maxRecDepth 100000 in
theorem tX7_F_3 : a_all2 (a_okF RX7) ((tX7.1.drop 24).take 8) ((tX7_pF.drop 24).take 8) = true := by decide +kernel
set_option maxRecDepth 100000 in
theorem tX7_F_d3 : a_all2 (a_okF RX7) (tX7.1.drop 24) (tX7_pF.drop 24) = true := a_all2_cut 8 tX7_F_3 (by rw [List.drop_drop, List.drop_drop]; decide +kernel)
theorem tX7_F_d2 : a_all2 (a_okF RX7) (tX7.1.drop 16) (tX7_pF.drop 16) = true := a_all2_cut 8 tX7_F_2 (by rw [List.drop_drop, List.drop_drop]; exact tX7_F_d3)
theorem tX7_F_d1 : a_all2 (a_okF RX7) (tX7.1.drop 8) (tX7_pF.drop 8) = true := a_all2_cut 8 tX7_F_1 (by rw [List.drop_drop, List.drop_drop]; exact tX7_F_d2)
theorem tX7_F_d0 : a_all2 (a_okF RX7) (tX7.1.drop 0) (tX7_pF.drop 0) = true := a_all2_cut 8 tX7_F_0 (by rw [List.drop_drop, List.drop_drop]; exact tX7_F_d1)
set_option maxRecDepth 100000 in
theorem tX7_C_0 : a_all2 (a_okC RX7) ((tX7.2.1.drop 0).take 6) ((tX7_pC.drop 0).take 6) = true := by decide +kernel
set_option maxRecDepth 100000 in
theorem tX7_C_1 : a_all2 (a_okC RX7) ((tX7.2.1.drop 6).take 6) ((tX7_pC.drop 6).take 6) = true := by decide +kernel
set_option maxRecDepth 100000 in
theorem tX7_C_2 : a_all2 (a_okC RX7) ((tX7.2.1.drop 12).take 6) ((tX7_pC.drop 12).take 6) = true := by decide +kernel
set_option maxRecDepth 100000 in
theorem tX7_C_3 : a_all2 (a_okC RX7) ((tX7.2.1.drop 18).take 6) ((tX7_pC.drop 18).take 6) = true := by decide +kernel
set_option maxRecDepth 100000 in
theorem tX7_C_4 : a_all2 (a_okC RX7) ((tX7.2.1.drop 24).take 6) ((tX7_pC.drop 24).take 6) = true := by decide +kernel
set_option maxRecDepth 100000 in
theorem tX7_C_5 : a_all2 (a_okC RX7) ((tX7.2.1.drop 30).take 6) ((tX7_pC.drop 30).take 6) = true := by decide +kernel
set_option maxRecDepth 100000 in
theorem tX7_C_d5 : a_all2 (a_okC RX7) (tX7.2.1.drop 30) (tX7_pC.drop 30) = true := a_all2_cut 6 tX7_C_5 (by rw [List.drop_drop, List.drop_drop]; decide +kernel)
theorem tX7_C_d4 : a_all2 (a_okC RX7) (tX7.2.1.drop 24) (tX7_pC.drop 24) = true := a_all2_cut 6 tX7_C_4 (by rw [List.drop_drop, List.drop_drop]; exact tX7_C_d5)
theorem tX7_C_d3 : a_all2 (a_okC RX7) (tX7.2.1.drop 18) (tX7_pC.drop 18) = true := a_all2_cut 6 tX7_C_3 (by rw [List.drop_drop, List.drop_drop]; exact tX7_C_d4)
theorem tX7_C_d2 : a_all2 (a_okC RX7) (tX7.2.1.drop 12) (tX7_pC.drop 12) = true := a_all2_cut 6 tX7_C_2 (by rw [List.drop_drop, List.drop_drop]; exact tX7_C_d3)
theorem tX7_C_d1 : a_all2 (a_okC RX7) (tX7.2.1.drop 6) (tX7_pC.drop 6) = true := a_all2_cut 6 tX7_C_1 (by rw [List.drop_drop, List.drop_drop]; exact tX7_C_d2)
theorem tX7_C_d0 : a_all2 (a_okC RX7) (tX7.2.1.drop 0) (tX7_pC.drop 0) = true := a_all2_cut 6 tX7_C_0 (by rw [List.drop_drop, List.drop_drop]; exact tX7_C_d1)
set_option maxRecDepth 100000 in
theorem tX7_K : a_all2 (fun q p => a_w p (Jvm.Cond.constant RX7 q.1 q.2)) tX7.2.2.1 [777, 884] = true := by decide +kernel
set_option maxRecDepth 100000 in
theorem tX7_L : a_all2 (fun q p => a_w p (Jvm.Cond.constantLong RX7 q.1 q.2)) tX7.2.2.2 [905] = true := by decide +kernel
theorem tX7_ok : a_okT RX7 tX7 [641, 642, 643, 644, 646, 647, 648, 649, 650, 651, 652, 653, 654, 655, 656, 657, 658, 659, 660, 661, 663, 664, 665, 666, 667, 668, 670, 640, 645, 662, 669] [(49, 742, 743, 0), (49, 739, 740, 0), (49, 769, 771, 18), (49, 765, 767, 17), (49, 778, 780, 20), (49, 786, 788, 22), (49, 757, 759, 15), (49, 761, 763, 16), (49, 773, 775, 19), (49, 782, 784, 21), (49, 790, 792, 23), (49, 810, 812, 24), (49, 822, 824, 25), (49, 830, 832, 26), (49, 842, 844, 28), (49, 838, 840, 27), (49, 853, 854, 0), (49, 860, 862, 30), (49, 850, 851, 0), (49, 856, 858, 29), (49, 864, 866, 31), (49, 893, 895, 33), (49, 889, 891, 32), (49, 906, 908, 35), (49, 910, 912, 36), (49, 901, 903, 34), (49, 922, 924, 37), (49, 930, 931, 0), (49, 937, 939, 38), (49, 953, 955, 40), (49, 949, 951, 39)] [777, 884] [905] = true := a_okT_i (pF := tX7_pF) (pC := tX7_pC) tX7_F_d0 tX7_C_d0 tX7_K tX7_L
