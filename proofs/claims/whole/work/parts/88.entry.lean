/-! the law's start: two objects are made, then its loop -/
set_option maxRecDepth 20000 in
theorem l_start {N : Nat} {xs : Nat → Int32} (hN : N ≤ 3072) : GoL N xs 0 0 0 [some (.retAddr 998), none, none, none] [] zz0 := by
  refine GoL.st (k_new (M := M_law) (q := 0) (h1 := zz1) (kc1 := 1) (ks1 := 14) (N := 14) dL_law_0 rfl (by decide) (r := (RX9, TX9, 14)) rfl rfl tyX9_ok df9 q20 q21 q1 ⟨Nat.le_of_ble_eq_true rfl, Nat.le_of_ble_eq_true rfl⟩ rfl rfl (by decide +kernel) rfl) ?_
  refine GoL.st (r_dup dL_law_3 rfl rfl) ?_
  refine GoL.st (r_callI (M := M_law) (as := []) (st := [.ref 0]) (kc1 := 75) (ks1 := 1349) mk19_X9_init mi_X9_init q22 ⟨Nat.le_of_ble_eq_true rfl, Nat.le_of_ble_eq_true rfl⟩ ⟨Nat.le_of_ble_eq_true rfl, Nat.le_of_ble_eq_true rfl⟩ (by decide) dL_law_4 rfl rfl rfl rfl rfl) ?_
  refine GoL.st (r_astore_n (M := M_law) (i := 1) dL_law_7 rfl rfl (Nat.le_of_ble_eq_true rfl) rfl) ?_
  refine GoL.st (k_new (M := M_law) (q := 75) (h1 := zz212) (kc1 := 76) (ks1 := 1378) (N := 29) dL_law_8 rfl (by decide) (r := (RX10, TX10, 29)) rfl rfl tyX10_ok df10 q981 q982 q12 ⟨Nat.le_of_ble_eq_true rfl, Nat.le_of_ble_eq_true rfl⟩ rfl rfl (by decide +kernel) rfl) ?_
  refine GoL.st (r_dup dL_law_11 rfl rfl) ?_
  refine GoL.st (r_callI (M := M_law) (as := []) (st := [.ref 75]) (kc1 := 88) (ks1 := 2098) mk20_X10_init mi_X10_init q983 ⟨Nat.le_of_ble_eq_true rfl, Nat.le_of_ble_eq_true rfl⟩ ⟨Nat.le_of_ble_eq_true rfl, Nat.le_of_ble_eq_true rfl⟩ (by decide) dL_law_12 rfl rfl rfl rfl rfl) ?_
  refine GoL.st (r_astore_n (M := M_law) (i := 2) dL_law_15 rfl rfl (Nat.le_of_ble_eq_true rfl) rfl) ?_
  refine GoL.st (r_iconst (v := 0) dL_law_16 rfl kI_0) ?_
  refine GoL.st (r_istore_n (M := M_law) (i := 3) dL_law_17 rfl rfl (Nat.le_of_ble_eq_true rfl) rfl) ?_
  rw [zz_mk]
  exact l_loop hN (N + 6) 0 s0 t0 (Nat.le_refl _) (Nat.zero_le _) inv0
