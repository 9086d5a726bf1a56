def M_X7_init : Ms := (yX7_init, cX7_init, 1, none, 1, 23, 8, 138)
theorem mi_X7_init : MI M_X7_init 0 := ⟨⟨q32, q2, by decide, by decide, by decide +kernel⟩, q31, rfl, rfl⟩
set_option maxRecDepth 20000 in
theorem mk1_X7_init : EvD M_X7_init [.ref 1] zz2 none zz23 := by
  refine EvM.of (by decide +kernel) (Nat.le_of_ble_eq_true rfl) ?_
  show Go M_X7_init _ 0 0 0 [some (.ref 1)] [] zz2
  refine Go.st (r_aload_n (i := 0) dX7_init_0 rfl rfl rfl) ?_
  refine Go.st (r_objInit q33 q26 q27 (by decide) (by decide) dX7_init_1 rfl) ?_
  refine Go.st (r_aload_n (i := 0) dX7_init_4 rfl rfl rfl) ?_
  refine Go.st (r_bipush (v := 7) dX7_init_5 rfl kB_7) ?_
  refine Go.st (k_newI (q := 2) (h1 := zz3) (kc1 := 1) (ks1 := 7) (N := 7) dX7_init_7 rfl q106 (by decide) rfl (by decide) ⟨by decide, by decide⟩ rfl rfl (by decide +kernel) rfl) ?_
  refine Go.st (k_put (h1 := zz4) (r_putRF dX7_init_9 rfl fl_X7_9 (n := 0) (by decide +kernel) (by decide +kernel) rfl fwF_7_0 (fun _ => rfl) (fun _ => rfl) rfl (fun r hr => by cases hr; rfl)) rfl) ?_
  refine Go.st (r_aload_n (i := 0) dX7_init_12 rfl rfl rfl) ?_
  refine Go.st (r_bipush (v := 7) dX7_init_13 rfl kB_7) ?_
  refine Go.st (k_newI (q := 3) (h1 := zz5) (kc1 := 2) (ks1 := 14) (N := 7) dX7_init_15 rfl q106 (by decide) rfl (by decide) ⟨by decide, by decide⟩ rfl rfl (by decide +kernel) rfl) ?_
  refine Go.st (k_put (h1 := zz6) (r_putRF dX7_init_17 rfl fl_X7_15 (n := 0) (by decide +kernel) (by decide +kernel) rfl fwF_7_1 (fun _ => rfl) (fun _ => rfl) rfl (fun r hr => by cases hr; rfl)) rfl) ?_
  refine Go.st (r_aload_n (i := 0) dX7_init_20 rfl rfl rfl) ?_
  refine Go.st (r_iconst (v := 0) dX7_init_21 rfl kI_0) ?_
  refine Go.st (k_put (h1 := zz7) (r_putI dX7_init_22 rfl fl_X7_18 (n := 0) (by decide +kernel) (by decide +kernel) rfl fw_7_2 rfl rfl) rfl) ?_
  refine Go.st (r_aload_n (i := 0) dX7_init_25 rfl rfl rfl) ?_
  refine Go.st (r_iconst (v := 4) dX7_init_26 rfl kI_4) ?_
  refine Go.st (k_newI (q := 4) (h1 := zz8) (kc1 := 3) (ks1 := 18) (N := 4) dX7_init_27 rfl q106 (by decide) rfl (by decide) ⟨by decide, by decide⟩ rfl rfl (by decide +kernel) rfl) ?_
  refine Go.st (k_put (h1 := zz9) (r_putRF dX7_init_29 rfl fl_X7_22 (n := 0) (by decide +kernel) (by decide +kernel) rfl fwF_7_3 (fun _ => rfl) (fun _ => rfl) rfl (fun r hr => by cases hr; rfl)) rfl) ?_
  refine Go.st (r_aload_n (i := 0) dX7_init_32 rfl rfl rfl) ?_
  refine Go.st (r_iconst (v := 0) dX7_init_33 rfl kI_0) ?_
  refine Go.st (k_put (h1 := zz10) (r_putI dX7_init_34 rfl fl_X7_25 (n := 0) (by decide +kernel) (by decide +kernel) rfl fw_7_4 rfl rfl) rfl) ?_
  refine Go.st (r_aload_n (i := 0) dX7_init_37 rfl rfl rfl) ?_
  refine Go.st (r_iconst (v := 4) dX7_init_38 rfl kI_4) ?_
  refine Go.st (k_newI (q := 5) (h1 := zz11) (kc1 := 4) (ks1 := 22) (N := 4) dX7_init_39 rfl q106 (by decide) rfl (by decide) ⟨by decide, by decide⟩ rfl rfl (by decide +kernel) rfl) ?_
  refine Go.st (k_put (h1 := zz12) (r_putRF dX7_init_41 rfl fl_X7_28 (n := 0) (by decide +kernel) (by decide +kernel) rfl fwF_7_5 (fun _ => rfl) (fun _ => rfl) rfl (fun r hr => by cases hr; rfl)) rfl) ?_
  refine Go.st (r_aload_n (i := 0) dX7_init_44 rfl rfl rfl) ?_
  refine Go.st (r_iconst (v := 4) dX7_init_45 rfl kI_4) ?_
  refine Go.st (k_newI (q := 6) (h1 := zz13) (kc1 := 5) (ks1 := 26) (N := 4) dX7_init_46 rfl q106 (by decide) rfl (by decide) ⟨by decide, by decide⟩ rfl rfl (by decide +kernel) rfl) ?_
  refine Go.st (k_put (h1 := zz14) (r_putRF dX7_init_48 rfl fl_X7_31 (n := 0) (by decide +kernel) (by decide +kernel) rfl fwF_7_6 (fun _ => rfl) (fun _ => rfl) rfl (fun r hr => by cases hr; rfl)) rfl) ?_
  refine Go.st (r_aload_n (i := 0) dX7_init_51 rfl rfl rfl) ?_
  refine Go.st (r_iconst (v := 0) dX7_init_52 rfl kI_0) ?_
  refine Go.st (k_put (h1 := zz15) (r_putI dX7_init_53 rfl fl_X7_34 (n := 0) (by decide +kernel) (by decide +kernel) rfl fw_7_7 rfl rfl) rfl) ?_
  refine Go.st (r_aload_n (i := 0) dX7_init_56 rfl rfl rfl) ?_
  refine Go.st (r_bipush (v := 6) dX7_init_57 rfl kB_6) ?_
  refine Go.st (k_newI (q := 7) (h1 := zz16) (kc1 := 6) (ks1 := 32) (N := 6) dX7_init_59 rfl q106 (by decide) rfl (by decide) ⟨by decide, by decide⟩ rfl rfl (by decide +kernel) rfl) ?_
  refine Go.st (k_put (h1 := zz17) (r_putRF dX7_init_61 rfl fl_X7_37 (n := 0) (by decide +kernel) (by decide +kernel) rfl fwF_7_8 (fun _ => rfl) (fun _ => rfl) rfl (fun r hr => by cases hr; rfl)) rfl) ?_
  refine Go.st (r_aload_n (i := 0) dX7_init_64 rfl rfl rfl) ?_
  refine Go.st (r_bipush (v := 6) dX7_init_65 rfl kB_6) ?_
  refine Go.st (k_newI (q := 8) (h1 := zz18) (kc1 := 7) (ks1 := 38) (N := 6) dX7_init_67 rfl q106 (by decide) rfl (by decide) ⟨by decide, by decide⟩ rfl rfl (by decide +kernel) rfl) ?_
  refine Go.st (k_put (h1 := zz19) (r_putRF dX7_init_69 rfl fl_X7_40 (n := 0) (by decide +kernel) (by decide +kernel) rfl fwF_7_9 (fun _ => rfl) (fun _ => rfl) rfl (fun r hr => by cases hr; rfl)) rfl) ?_
  refine Go.st (r_aload_n (i := 0) dX7_init_72 rfl rfl rfl) ?_
  refine Go.st (r_iconst (v := 0) dX7_init_73 rfl kI_0) ?_
  refine Go.st (k_put (h1 := zz20) (r_putI dX7_init_74 rfl fl_X7_43 (n := 0) (by decide +kernel) (by decide +kernel) rfl fw_7_10 rfl rfl) rfl) ?_
  refine Go.st (r_aload_n (i := 0) dX7_init_77 rfl rfl rfl) ?_
  refine Go.st (r_bipush (v := 100) dX7_init_78 rfl kB_100) ?_
  refine Go.st (k_newI (q := 9) (h1 := zz21) (kc1 := 8) (ks1 := 138) (N := 100) dX7_init_80 rfl q106 (by decide) rfl (by decide) ⟨by decide, by decide⟩ rfl rfl (by decide +kernel) rfl) ?_
  refine Go.st (k_put (h1 := zz22) (r_putRF dX7_init_82 rfl fl_X7_46 (n := 0) (by decide +kernel) (by decide +kernel) rfl fwF_7_11 (fun _ => rfl) (fun _ => rfl) rfl (fun r hr => by cases hr; rfl)) rfl) ?_
  refine Go.st (r_aload_n (i := 0) dX7_init_85 rfl rfl rfl) ?_
  refine Go.st (r_getR (b := 9) dX7_init_86 rfl fl_X7_46 (n := 0) (by decide +kernel) (by decide +kernel) rfl (by decide +kernel)) ?_
  refine Go.st (r_iconst (v := -1) dX7_init_89 rfl kI_m1) ?_
  refine Go.st (r_callS (as := [.ref 9, .int (-1 : Int32)]) (st := []) (h' := zz23) (r := none) (kc1 := 8) (ks1 := 138) (e_J7_fill_53178 (a := 9) (n := 100) (h := zz22) (by decide +kernel) (by decide +kernel) (by decide)) ms_J7_fill_53178 lk_X7_49 ⟨by decide, by decide⟩ ⟨by decide, by decide⟩ (by decide) dX7_init_90 rfl rfl rfl rfl rfl) ?_
  exact g_vret rfl rfl rfl dX7_init_93 ⟨rfl, rfl⟩
def M_X1_init : Ms := (yX1_init, cX1_init, 1, none, 1, 12, 1, 10)
theorem mi_X1_init : MI M_X1_init 0 := ⟨⟨q117, q5, by decide, by decide, by decide +kernel⟩, q116, rfl, rfl⟩
set_option maxRecDepth 20000 in
theorem mk2_X1_init : EvD M_X1_init [.ref 11] zz26 none zz33 := by
  refine EvM.of (by decide +kernel) (Nat.le_of_ble_eq_true rfl) ?_
  show Go M_X1_init _ 0 0 0 [some (.ref 11)] [] zz26
  refine Go.st (r_aload_n (i := 0) dX1_init_0 rfl rfl rfl) ?_
  refine Go.st (r_objInit q118 q26 q27 (by decide) (by decide) dX1_init_1 rfl) ?_
  refine Go.st (r_aload_n (i := 0) dX1_init_4 rfl rfl rfl) ?_
  refine Go.st (r_bipush (v := -4) dX1_init_5 rfl kB_m4) ?_
  refine Go.st (k_put (h1 := zz27) (r_putI dX1_init_7 rfl fl_X1_9 (n := 0) (by decide +kernel) (by decide +kernel) rfl fw_1_0 rfl rfl) rfl) ?_
  refine Go.st (r_aload_n (i := 0) dX1_init_10 rfl rfl rfl) ?_
  refine Go.st (r_bipush (v := -4) dX1_init_11 rfl kB_m4) ?_
  refine Go.st (k_put (h1 := zz28) (r_putI dX1_init_13 rfl fl_X1_15 (n := 0) (by decide +kernel) (by decide +kernel) rfl fw_1_1 rfl rfl) rfl) ?_
  refine Go.st (r_aload_n (i := 0) dX1_init_16 rfl rfl rfl) ?_
  refine Go.st (r_iconst (v := 0) dX1_init_17 rfl kI_0) ?_
  refine Go.st (k_put (h1 := zz29) (r_putI dX1_init_18 rfl fl_X1_18 (n := 0) (by decide +kernel) (by decide +kernel) rfl fw_1_2 rfl rfl) rfl) ?_
  refine Go.st (r_aload_n (i := 0) dX1_init_21 rfl rfl rfl) ?_
  refine Go.st (r_iconst (v := 0) dX1_init_22 rfl kI_0) ?_
  refine Go.st (k_put (h1 := zz30) (r_putI dX1_init_23 rfl fl_X1_21 (n := 0) (by decide +kernel) (by decide +kernel) rfl fw_1_3 rfl rfl) rfl) ?_
  refine Go.st (r_aload_n (i := 0) dX1_init_26 rfl rfl rfl) ?_
  refine Go.st (r_iconst (v := 0) dX1_init_27 rfl kI_0) ?_
  refine Go.st (k_put (h1 := zz31) (r_putI dX1_init_28 rfl fl_X1_24 (n := 0) (by decide +kernel) (by decide +kernel) rfl fw_1_4 rfl rfl) rfl) ?_
  refine Go.st (r_aload_n (i := 0) dX1_init_31 rfl rfl rfl) ?_
  refine Go.st (r_bipush (v := 10) dX1_init_32 rfl kB_10) ?_
  refine Go.st (k_newI (q := 12) (h1 := zz32) (kc1 := 1) (ks1 := 10) (N := 10) dX1_init_34 rfl q106 (by decide) rfl (by decide) ⟨by decide, by decide⟩ rfl rfl (by decide +kernel) rfl) ?_
  refine Go.st (k_put (h1 := zz33) (r_putRF dX1_init_36 rfl fl_X1_28 (n := 0) (by decide +kernel) (by decide +kernel) rfl fwF_1_5 (fun _ => rfl) (fun _ => rfl) rfl (fun r hr => by cases hr; rfl)) rfl) ?_
  exact g_vret rfl rfl rfl dX1_init_39 ⟨rfl, rfl⟩
def M_X2_init : Ms := (yX2_init, cX2_init, 2, none, 2, 32, 2, 16)
theorem mi_X2_init : MI M_X2_init 1 := ⟨⟨q111, q4, by decide, by decide, by decide +kernel⟩, q110, rfl, rfl⟩
set_option maxRecDepth 20000 in
theorem mk3_X2_init : EvD M_X2_init [.ref 10, .ref 1] zz25 none zz35 := by
  refine EvM.of (by decide +kernel) (Nat.le_of_ble_eq_true rfl) ?_
  show Go M_X2_init _ 0 0 0 [some (.ref 10), some (.ref 1)] [] zz25
  refine Go.st (r_aload_n (i := 0) dX2_init_0 rfl rfl rfl) ?_
  refine Go.st (r_objInit q112 q26 q27 (by decide) (by decide) dX2_init_1 rfl) ?_
  refine Go.st (r_aload_n (i := 0) dX2_init_4 rfl rfl rfl) ?_
  refine Go.st (k_new (q := 11) (h1 := zz26) (kc1 := 1) (ks1 := 6) (N := 6) dX2_init_5 rfl (by decide) (r := (RX1, TX1, 6)) rfl rfl tyX1_ok df1 q113 q114 q5 ⟨by decide, by decide⟩ rfl rfl (by decide +kernel) rfl) ?_
  refine Go.st (r_dup dX2_init_8 rfl rfl) ?_
  refine Go.st (r_callIN (as := []) (st := [.ref 11, .ref 10]) (kc1 := 2) (ks1 := 16) mk2_X1_init mi_X1_init (List.mem_of_getElem? (i := 0) rfl) ⟨by decide, by decide⟩ ⟨by decide, by decide⟩ (by decide) dX2_init_9 rfl rfl rfl rfl rfl) ?_
  refine Go.st (k_put (h1 := zz34) (r_putRF dX2_init_12 rfl fl_X2_12 (n := 0) (by decide +kernel) (by decide +kernel) rfl fwF_2_1 (fun _ => rfl) (fun _ => rfl) rfl (fun r hr => by cases hr; rfl)) rfl) ?_
  refine Go.st (r_aload_n (i := 0) dX2_init_15 rfl rfl rfl) ?_
  refine Go.st (r_aload_n (i := 1) dX2_init_16 rfl rfl rfl) ?_
  refine Go.st (k_put (h1 := zz35) (r_putRF dX2_init_17 rfl fl_X2_18 (n := 0) (by decide +kernel) (by decide +kernel) rfl fwF_2_0 (fun _ => rfl) (fun _ => rfl) rfl (fun r hr => by cases hr; rfl)) rfl) ?_
  exact g_vret rfl rfl rfl dX2_init_20 ⟨rfl, rfl⟩
set_option maxRecDepth 20000 in
theorem mk4_X7_init : EvD M_X7_init [.ref 13] zz37 none zz58 := by
  refine EvM.of (by decide +kernel) (Nat.le_of_ble_eq_true rfl) ?_
  show Go M_X7_init _ 0 0 0 [some (.ref 13)] [] zz37
  refine Go.st (r_aload_n (i := 0) dX7_init_0 rfl rfl rfl) ?_
  refine Go.st (r_objInit q33 q26 q27 (by decide) (by decide) dX7_init_1 rfl) ?_
  refine Go.st (r_aload_n (i := 0) dX7_init_4 rfl rfl rfl) ?_
  refine Go.st (r_bipush (v := 7) dX7_init_5 rfl kB_7) ?_
  refine Go.st (k_newI (q := 14) (h1 := zz38) (kc1 := 1) (ks1 := 7) (N := 7) dX7_init_7 rfl q106 (by decide) rfl (by decide) ⟨by decide, by decide⟩ rfl rfl (by decide +kernel) rfl) ?_
  refine Go.st (k_put (h1 := zz39) (r_putRF dX7_init_9 rfl fl_X7_9 (n := 0) (by decide +kernel) (by decide +kernel) rfl fwF_7_0 (fun _ => rfl) (fun _ => rfl) rfl (fun r hr => by cases hr; rfl)) rfl) ?_
  refine Go.st (r_aload_n (i := 0) dX7_init_12 rfl rfl rfl) ?_
  refine Go.st (r_bipush (v := 7) dX7_init_13 rfl kB_7) ?_
  refine Go.st (k_newI (q := 15) (h1 := zz40) (kc1 := 2) (ks1 := 14) (N := 7) dX7_init_15 rfl q106 (by decide) rfl (by decide) ⟨by decide, by decide⟩ rfl rfl (by decide +kernel) rfl) ?_
  refine Go.st (k_put (h1 := zz41) (r_putRF dX7_init_17 rfl fl_X7_15 (n := 0) (by decide +kernel) (by decide +kernel) rfl fwF_7_1 (fun _ => rfl) (fun _ => rfl) rfl (fun r hr => by cases hr; rfl)) rfl) ?_
  refine Go.st (r_aload_n (i := 0) dX7_init_20 rfl rfl rfl) ?_
  refine Go.st (r_iconst (v := 0) dX7_init_21 rfl kI_0) ?_
  refine Go.st (k_put (h1 := zz42) (r_putI dX7_init_22 rfl fl_X7_18 (n := 0) (by decide +kernel) (by decide +kernel) rfl fw_7_2 rfl rfl) rfl) ?_
  refine Go.st (r_aload_n (i := 0) dX7_init_25 rfl rfl rfl) ?_
  refine Go.st (r_iconst (v := 4) dX7_init_26 rfl kI_4) ?_
  refine Go.st (k_newI (q := 16) (h1 := zz43) (kc1 := 3) (ks1 := 18) (N := 4) dX7_init_27 rfl q106 (by decide) rfl (by decide) ⟨by decide, by decide⟩ rfl rfl (by decide +kernel) rfl) ?_
  refine Go.st (k_put (h1 := zz44) (r_putRF dX7_init_29 rfl fl_X7_22 (n := 0) (by decide +kernel) (by decide +kernel) rfl fwF_7_3 (fun _ => rfl) (fun _ => rfl) rfl (fun r hr => by cases hr; rfl)) rfl) ?_
  refine Go.st (r_aload_n (i := 0) dX7_init_32 rfl rfl rfl) ?_
  refine Go.st (r_iconst (v := 0) dX7_init_33 rfl kI_0) ?_
  refine Go.st (k_put (h1 := zz45) (r_putI dX7_init_34 rfl fl_X7_25 (n := 0) (by decide +kernel) (by decide +kernel) rfl fw_7_4 rfl rfl) rfl) ?_
  refine Go.st (r_aload_n (i := 0) dX7_init_37 rfl rfl rfl) ?_
  refine Go.st (r_iconst (v := 4) dX7_init_38 rfl kI_4) ?_
  refine Go.st (k_newI (q := 17) (h1 := zz46) (kc1 := 4) (ks1 := 22) (N := 4) dX7_init_39 rfl q106 (by decide) rfl (by decide) ⟨by decide, by decide⟩ rfl rfl (by decide +kernel) rfl) ?_
  refine Go.st (k_put (h1 := zz47) (r_putRF dX7_init_41 rfl fl_X7_28 (n := 0) (by decide +kernel) (by decide +kernel) rfl fwF_7_5 (fun _ => rfl) (fun _ => rfl) rfl (fun r hr => by cases hr; rfl)) rfl) ?_
  refine Go.st (r_aload_n (i := 0) dX7_init_44 rfl rfl rfl) ?_
  refine Go.st (r_iconst (v := 4) dX7_init_45 rfl kI_4) ?_
  refine Go.st (k_newI (q := 18) (h1 := zz48) (kc1 := 5) (ks1 := 26) (N := 4) dX7_init_46 rfl q106 (by decide) rfl (by decide) ⟨by decide, by decide⟩ rfl rfl (by decide +kernel) rfl) ?_
  refine Go.st (k_put (h1 := zz49) (r_putRF dX7_init_48 rfl fl_X7_31 (n := 0) (by decide +kernel) (by decide +kernel) rfl fwF_7_6 (fun _ => rfl) (fun _ => rfl) rfl (fun r hr => by cases hr; rfl)) rfl) ?_
  refine Go.st (r_aload_n (i := 0) dX7_init_51 rfl rfl rfl) ?_
  refine Go.st (r_iconst (v := 0) dX7_init_52 rfl kI_0) ?_
  refine Go.st (k_put (h1 := zz50) (r_putI dX7_init_53 rfl fl_X7_34 (n := 0) (by decide +kernel) (by decide +kernel) rfl fw_7_7 rfl rfl) rfl) ?_
  refine Go.st (r_aload_n (i := 0) dX7_init_56 rfl rfl rfl) ?_
  refine Go.st (r_bipush (v := 6) dX7_init_57 rfl kB_6) ?_
  refine Go.st (k_newI (q := 19) (h1 := zz51) (kc1 := 6) (ks1 := 32) (N := 6) dX7_init_59 rfl q106 (by decide) rfl (by decide) ⟨by decide, by decide⟩ rfl rfl (by decide +kernel) rfl) ?_
  refine Go.st (k_put (h1 := zz52) (r_putRF dX7_init_61 rfl fl_X7_37 (n := 0) (by decide +kernel) (by decide +kernel) rfl fwF_7_8 (fun _ => rfl) (fun _ => rfl) rfl (fun r hr => by cases hr; rfl)) rfl) ?_
  refine Go.st (r_aload_n (i := 0) dX7_init_64 rfl rfl rfl) ?_
  refine Go.st (r_bipush (v := 6) dX7_init_65 rfl kB_6) ?_
  refine Go.st (k_newI (q := 20) (h1 := zz53) (kc1 := 7) (ks1 := 38) (N := 6) dX7_init_67 rfl q106 (by decide) rfl (by decide) ⟨by decide, by decide⟩ rfl rfl (by decide +kernel) rfl) ?_
  refine Go.st (k_put (h1 := zz54) (r_putRF dX7_init_69 rfl fl_X7_40 (n := 0) (by decide +kernel) (by decide +kernel) rfl fwF_7_9 (fun _ => rfl) (fun _ => rfl) rfl (fun r hr => by cases hr; rfl)) rfl) ?_
  refine Go.st (r_aload_n (i := 0) dX7_init_72 rfl rfl rfl) ?_
  refine Go.st (r_iconst (v := 0) dX7_init_73 rfl kI_0) ?_
  refine Go.st (k_put (h1 := zz55) (r_putI dX7_init_74 rfl fl_X7_43 (n := 0) (by decide +kernel) (by decide +kernel) rfl fw_7_10 rfl rfl) rfl) ?_
  refine Go.st (r_aload_n (i := 0) dX7_init_77 rfl rfl rfl) ?_
  refine Go.st (r_bipush (v := 100) dX7_init_78 rfl kB_100) ?_
  refine Go.st (k_newI (q := 21) (h1 := zz56) (kc1 := 8) (ks1 := 138) (N := 100) dX7_init_80 rfl q106 (by decide) rfl (by decide) ⟨by decide, by decide⟩ rfl rfl (by decide +kernel) rfl) ?_
  refine Go.st (k_put (h1 := zz57) (r_putRF dX7_init_82 rfl fl_X7_46 (n := 0) (by decide +kernel) (by decide +kernel) rfl fwF_7_11 (fun _ => rfl) (fun _ => rfl) rfl (fun r hr => by cases hr; rfl)) rfl) ?_
  refine Go.st (r_aload_n (i := 0) dX7_init_85 rfl rfl rfl) ?_
  refine Go.st (r_getR (b := 21) dX7_init_86 rfl fl_X7_46 (n := 0) (by decide +kernel) (by decide +kernel) rfl (by decide +kernel)) ?_
  refine Go.st (r_iconst (v := -1) dX7_init_89 rfl kI_m1) ?_
  refine Go.st (r_callS (as := [.ref 21, .int (-1 : Int32)]) (st := []) (h' := zz58) (r := none) (kc1 := 8) (ks1 := 138) (e_J7_fill_53178 (a := 21) (n := 100) (h := zz57) (by decide +kernel) (by decide +kernel) (by decide)) ms_J7_fill_53178 lk_X7_49 ⟨by decide, by decide⟩ ⟨by decide, by decide⟩ (by decide) dX7_init_90 rfl rfl rfl rfl rfl) ?_
  exact g_vret rfl rfl rfl dX7_init_93 ⟨rfl, rfl⟩
set_option maxRecDepth 20000 in
theorem mk5_X1_init : EvD M_X1_init [.ref 23] zz61 none zz68 := by
  refine EvM.of (by decide +kernel) (Nat.le_of_ble_eq_true rfl) ?_
  show Go M_X1_init _ 0 0 0 [some (.ref 23)] [] zz61
  refine Go.st (r_aload_n (i := 0) dX1_init_0 rfl rfl rfl) ?_
  refine Go.st (r_objInit q118 q26 q27 (by decide) (by decide) dX1_init_1 rfl) ?_
  refine Go.st (r_aload_n (i := 0) dX1_init_4 rfl rfl rfl) ?_
  refine Go.st (r_bipush (v := -4) dX1_init_5 rfl kB_m4) ?_
  refine Go.st (k_put (h1 := zz62) (r_putI dX1_init_7 rfl fl_X1_9 (n := 0) (by decide +kernel) (by decide +kernel) rfl fw_1_0 rfl rfl) rfl) ?_
  refine Go.st (r_aload_n (i := 0) dX1_init_10 rfl rfl rfl) ?_
  refine Go.st (r_bipush (v := -4) dX1_init_11 rfl kB_m4) ?_
  refine Go.st (k_put (h1 := zz63) (r_putI dX1_init_13 rfl fl_X1_15 (n := 0) (by decide +kernel) (by decide +kernel) rfl fw_1_1 rfl rfl) rfl) ?_
  refine Go.st (r_aload_n (i := 0) dX1_init_16 rfl rfl rfl) ?_
  refine Go.st (r_iconst (v := 0) dX1_init_17 rfl kI_0) ?_
  refine Go.st (k_put (h1 := zz64) (r_putI dX1_init_18 rfl fl_X1_18 (n := 0) (by decide +kernel) (by decide +kernel) rfl fw_1_2 rfl rfl) rfl) ?_
  refine Go.st (r_aload_n (i := 0) dX1_init_21 rfl rfl rfl) ?_
  refine Go.st (r_iconst (v := 0) dX1_init_22 rfl kI_0) ?_
  refine Go.st (k_put (h1 := zz65) (r_putI dX1_init_23 rfl fl_X1_21 (n := 0) (by decide +kernel) (by decide +kernel) rfl fw_1_3 rfl rfl) rfl) ?_
  refine Go.st (r_aload_n (i := 0) dX1_init_26 rfl rfl rfl) ?_
  refine Go.st (r_iconst (v := 0) dX1_init_27 rfl kI_0) ?_
  refine Go.st (k_put (h1 := zz66) (r_putI dX1_init_28 rfl fl_X1_24 (n := 0) (by decide +kernel) (by decide +kernel) rfl fw_1_4 rfl rfl) rfl) ?_
  refine Go.st (r_aload_n (i := 0) dX1_init_31 rfl rfl rfl) ?_
  refine Go.st (r_bipush (v := 10) dX1_init_32 rfl kB_10) ?_
  refine Go.st (k_newI (q := 24) (h1 := zz67) (kc1 := 1) (ks1 := 10) (N := 10) dX1_init_34 rfl q106 (by decide) rfl (by decide) ⟨by decide, by decide⟩ rfl rfl (by decide +kernel) rfl) ?_
  refine Go.st (k_put (h1 := zz68) (r_putRF dX1_init_36 rfl fl_X1_28 (n := 0) (by decide +kernel) (by decide +kernel) rfl fwF_1_5 (fun _ => rfl) (fun _ => rfl) rfl (fun r hr => by cases hr; rfl)) rfl) ?_
  exact g_vret rfl rfl rfl dX1_init_39 ⟨rfl, rfl⟩
set_option maxRecDepth 20000 in
theorem mk6_X2_init : EvD M_X2_init [.ref 22, .ref 13] zz60 none zz70 := by
  refine EvM.of (by decide +kernel) (Nat.le_of_ble_eq_true rfl) ?_
  show Go M_X2_init _ 0 0 0 [some (.ref 22), some (.ref 13)] [] zz60
  refine Go.st (r_aload_n (i := 0) dX2_init_0 rfl rfl rfl) ?_
  refine Go.st (r_objInit q112 q26 q27 (by decide) (by decide) dX2_init_1 rfl) ?_
  refine Go.st (r_aload_n (i := 0) dX2_init_4 rfl rfl rfl) ?_
  refine Go.st (k_new (q := 23) (h1 := zz61) (kc1 := 1) (ks1 := 6) (N := 6) dX2_init_5 rfl (by decide) (r := (RX1, TX1, 6)) rfl rfl tyX1_ok df1 q113 q114 q5 ⟨by decide, by decide⟩ rfl rfl (by decide +kernel) rfl) ?_
  refine Go.st (r_dup dX2_init_8 rfl rfl) ?_
  refine Go.st (r_callIN (as := []) (st := [.ref 23, .ref 22]) (kc1 := 2) (ks1 := 16) mk5_X1_init mi_X1_init (List.mem_of_getElem? (i := 0) rfl) ⟨by decide, by decide⟩ ⟨by decide, by decide⟩ (by decide) dX2_init_9 rfl rfl rfl rfl rfl) ?_
  refine Go.st (k_put (h1 := zz69) (r_putRF dX2_init_12 rfl fl_X2_12 (n := 0) (by decide +kernel) (by decide +kernel) rfl fwF_2_1 (fun _ => rfl) (fun _ => rfl) rfl (fun r hr => by cases hr; rfl)) rfl) ?_
  refine Go.st (r_aload_n (i := 0) dX2_init_15 rfl rfl rfl) ?_
  refine Go.st (r_aload_n (i := 1) dX2_init_16 rfl rfl rfl) ?_
  refine Go.st (k_put (h1 := zz70) (r_putRF dX2_init_17 rfl fl_X2_18 (n := 0) (by decide +kernel) (by decide +kernel) rfl fwF_2_0 (fun _ => rfl) (fun _ => rfl) rfl (fun r hr => by cases hr; rfl)) rfl) ?_
  exact g_vret rfl rfl rfl dX2_init_20 ⟨rfl, rfl⟩
def M_X0_init : Ms := (yX0_init, cX0_init, 2, none, 1, 12, 1, 8)
theorem mi_X0_init : MI M_X0_init 1 := ⟨⟨q162, q6, by decide, by decide, by decide +kernel⟩, q161, rfl, rfl⟩
set_option maxRecDepth 20000 in
theorem mk7_X0_init : EvD M_X0_init [.ref 25, .ref 22] zz72 none zz78 := by
  refine EvM.of (by decide +kernel) (Nat.le_of_ble_eq_true rfl) ?_
  show Go M_X0_init _ 0 0 0 [some (.ref 25), some (.ref 22)] [] zz72
  refine Go.st (r_aload_n (i := 0) dX0_init_0 rfl rfl rfl) ?_
  refine Go.st (r_objInit q163 q26 q27 (by decide) (by decide) dX0_init_1 rfl) ?_
  refine Go.st (r_aload_n (i := 0) dX0_init_4 rfl rfl rfl) ?_
  refine Go.st (r_bipush (v := -4) dX0_init_5 rfl kB_m4) ?_
  refine Go.st (k_put (h1 := zz73) (r_putI dX0_init_7 rfl fl_X0_9 (n := 0) (by decide +kernel) (by decide +kernel) rfl fw_0_2 rfl rfl) rfl) ?_
  refine Go.st (r_aload_n (i := 0) dX0_init_10 rfl rfl rfl) ?_
  refine Go.st (r_iconst (v := 0) dX0_init_11 rfl kI_0) ?_
  refine Go.st (k_put (h1 := zz74) (r_putI dX0_init_12 rfl fl_X0_15 (n := 0) (by decide +kernel) (by decide +kernel) rfl fw_0_3 rfl rfl) rfl) ?_
  refine Go.st (r_aload_n (i := 0) dX0_init_15 rfl rfl rfl) ?_
  refine Go.st (r_bipush (v := 8) dX0_init_16 rfl kB_8) ?_
  refine Go.st (k_newI (q := 26) (h1 := zz75) (kc1 := 1) (ks1 := 8) (N := 8) dX0_init_18 rfl q106 (by decide) rfl (by decide) ⟨by decide, by decide⟩ rfl rfl (by decide +kernel) rfl) ?_
  refine Go.st (k_put (h1 := zz76) (r_putRF dX0_init_20 rfl fl_X0_18 (n := 0) (by decide +kernel) (by decide +kernel) rfl fwF_0_4 (fun _ => rfl) (fun _ => rfl) rfl (fun r hr => by cases hr; rfl)) rfl) ?_
  refine Go.st (r_aload_n (i := 0) dX0_init_23 rfl rfl rfl) ?_
  refine Go.st (r_aload_n (i := 1) dX0_init_24 rfl rfl rfl) ?_
  refine Go.st (k_put (h1 := zz77) (r_putRF dX0_init_25 rfl fl_X0_22 (n := 0) (by decide +kernel) (by decide +kernel) rfl fwF_0_0 (fun _ => rfl) (fun _ => rfl) rfl (fun r hr => by cases hr; rfl)) rfl) ?_
  refine Go.st (r_aload_n (i := 0) dX0_init_28 rfl rfl rfl) ?_
  refine Go.st (r_aload_n (i := 1) dX0_init_29 rfl rfl rfl) ?_
  refine Go.st (r_getR (b := 13) dX0_init_30 rfl fl_X0_26 (n := 0) (by decide +kernel) (by decide +kernel) rfl (by decide +kernel)) ?_
  refine Go.st (k_put (h1 := zz78) (r_putRF dX0_init_33 rfl fl_X0_32 (n := 0) (by decide +kernel) (by decide +kernel) rfl fwF_0_1 (fun _ => rfl) (fun _ => rfl) rfl (fun r hr => by cases hr; rfl)) rfl) ?_
  exact g_vret rfl rfl rfl dX0_init_36 ⟨rfl, rfl⟩
def M_X3_init : Ms := (yX3_init, cX3_init, 1, none, 1, 12, 2, 160)
theorem mi_X3_init : MI M_X3_init 0 := ⟨⟨q184, q7, by decide, by decide, by decide +kernel⟩, q183, rfl, rfl⟩
set_option maxRecDepth 20000 in
theorem mk8_X3_init : EvD M_X3_init [.ref 27] zz80 none zz86 := by
  refine EvM.of (by decide +kernel) (Nat.le_of_ble_eq_true rfl) ?_
  show Go M_X3_init _ 0 0 0 [some (.ref 27)] [] zz80
  refine Go.st (r_aload_n (i := 0) dX3_init_0 rfl rfl rfl) ?_
  refine Go.st (r_objInit q185 q26 q27 (by decide) (by decide) dX3_init_1 rfl) ?_
  refine Go.st (r_aload_n (i := 0) dX3_init_4 rfl rfl rfl) ?_
  refine Go.st (r_lconst (v := 0) dX3_init_5 rfl rfl) ?_
  refine Go.st (k_put (h1 := zz81) (r_putJ dX3_init_6 rfl fl_X3_9 (n := 0) (by decide +kernel) (by decide +kernel) rfl fw_3_0 rfl rfl) rfl) ?_
  refine Go.st (r_aload_n (i := 0) dX3_init_9 rfl rfl rfl) ?_
  refine Go.st (r_lconst (v := 0) dX3_init_10 rfl rfl) ?_
  refine Go.st (k_put (h1 := zz82) (r_putJ dX3_init_11 rfl fl_X3_15 (n := 0) (by decide +kernel) (by decide +kernel) rfl fw_3_1 rfl rfl) rfl) ?_
  refine Go.st (r_aload_n (i := 0) dX3_init_14 rfl rfl rfl) ?_
  refine Go.st (r_bipush (v := 80) dX3_init_15 rfl kB_80) ?_
  refine Go.st (k_newJ (q := 28) (h1 := zz83) (kc1 := 1) (ks1 := 80) (N := 80) dX3_init_17 rfl q201 (by decide) rfl (by decide) ⟨by decide, by decide⟩ rfl rfl (by decide +kernel) rfl) ?_
  refine Go.st (k_put (h1 := zz84) (r_putRF dX3_init_19 rfl fl_X3_18 (n := 0) (by decide +kernel) (by decide +kernel) rfl fwF_3_2 (fun _ => rfl) (fun _ => rfl) rfl (fun r hr => by cases hr; rfl)) rfl) ?_
  refine Go.st (r_aload_n (i := 0) dX3_init_22 rfl rfl rfl) ?_
  refine Go.st (r_bipush (v := 80) dX3_init_23 rfl kB_80) ?_
  refine Go.st (k_newJ (q := 29) (h1 := zz85) (kc1 := 2) (ks1 := 160) (N := 80) dX3_init_25 rfl q201 (by decide) rfl (by decide) ⟨by decide, by decide⟩ rfl rfl (by decide +kernel) rfl) ?_
  refine Go.st (k_put (h1 := zz86) (r_putRF dX3_init_27 rfl fl_X3_22 (n := 0) (by decide +kernel) (by decide +kernel) rfl fwF_3_3 (fun _ => rfl) (fun _ => rfl) rfl (fun r hr => by cases hr; rfl)) rfl) ?_
  exact g_vret rfl rfl rfl dX3_init_30 ⟨rfl, rfl⟩
def M_X5_init : Ms := (yX5_init, cX5_init, 1, none, 1, 12, 3, 18)
theorem mi_X5_init : MI M_X5_init 0 := ⟨⟨q206, q8, by decide, by decide, by decide +kernel⟩, q205, rfl, rfl⟩
set_option maxRecDepth 20000 in
theorem mk9_X5_init : EvD M_X5_init [.ref 30] zz88 none zz95 := by
  refine EvM.of (by decide +kernel) (Nat.le_of_ble_eq_true rfl) ?_
  show Go M_X5_init _ 0 0 0 [some (.ref 30)] [] zz88
  refine Go.st (r_aload_n (i := 0) dX5_init_0 rfl rfl rfl) ?_
  refine Go.st (r_objInit q207 q26 q27 (by decide) (by decide) dX5_init_1 rfl) ?_
  refine Go.st (r_aload_n (i := 0) dX5_init_4 rfl rfl rfl) ?_
  refine Go.st (r_bipush (v := 6) dX5_init_5 rfl kB_6) ?_
  refine Go.st (k_newI (q := 31) (h1 := zz89) (kc1 := 1) (ks1 := 6) (N := 6) dX5_init_7 rfl q106 (by decide) rfl (by decide) ⟨by decide, by decide⟩ rfl rfl (by decide +kernel) rfl) ?_
  refine Go.st (k_put (h1 := zz90) (r_putRF dX5_init_9 rfl fl_X5_9 (n := 0) (by decide +kernel) (by decide +kernel) rfl fwF_5_0 (fun _ => rfl) (fun _ => rfl) rfl (fun r hr => by cases hr; rfl)) rfl) ?_
  refine Go.st (r_aload_n (i := 0) dX5_init_12 rfl rfl rfl) ?_
  refine Go.st (r_bipush (v := 6) dX5_init_13 rfl kB_6) ?_
  refine Go.st (k_newI (q := 32) (h1 := zz91) (kc1 := 2) (ks1 := 12) (N := 6) dX5_init_15 rfl q106 (by decide) rfl (by decide) ⟨by decide, by decide⟩ rfl rfl (by decide +kernel) rfl) ?_
  refine Go.st (k_put (h1 := zz92) (r_putRF dX5_init_17 rfl fl_X5_15 (n := 0) (by decide +kernel) (by decide +kernel) rfl fwF_5_1 (fun _ => rfl) (fun _ => rfl) rfl (fun r hr => by cases hr; rfl)) rfl) ?_
  refine Go.st (r_aload_n (i := 0) dX5_init_20 rfl rfl rfl) ?_
  refine Go.st (r_bipush (v := 6) dX5_init_21 rfl kB_6) ?_
  refine Go.st (k_newI (q := 33) (h1 := zz93) (kc1 := 3) (ks1 := 18) (N := 6) dX5_init_23 rfl q106 (by decide) rfl (by decide) ⟨by decide, by decide⟩ rfl rfl (by decide +kernel) rfl) ?_
  refine Go.st (k_put (h1 := zz94) (r_putRF dX5_init_25 rfl fl_X5_18 (n := 0) (by decide +kernel) (by decide +kernel) rfl fwF_5_2 (fun _ => rfl) (fun _ => rfl) rfl (fun r hr => by cases hr; rfl)) rfl) ?_
  refine Go.st (r_aload_n (i := 0) dX5_init_28 rfl rfl rfl) ?_
  refine Go.st (r_iconst (v := 0) dX5_init_29 rfl kI_0) ?_
  refine Go.st (k_put (h1 := zz95) (r_putI dX5_init_30 rfl fl_X5_21 (n := 0) (by decide +kernel) (by decide +kernel) rfl fw_5_3 rfl rfl) rfl) ?_
  exact g_vret rfl rfl rfl dX5_init_33 ⟨rfl, rfl⟩
set_option maxRecDepth 20000 in
theorem mk10_X7_init : EvD M_X7_init [.ref 36] zz101 none zz122 := by
  refine EvM.of (by decide +kernel) (Nat.le_of_ble_eq_true rfl) ?_
  show Go M_X7_init _ 0 0 0 [some (.ref 36)] [] zz101
  refine Go.st (r_aload_n (i := 0) dX7_init_0 rfl rfl rfl) ?_
  refine Go.st (r_objInit q33 q26 q27 (by decide) (by decide) dX7_init_1 rfl) ?_
  refine Go.st (r_aload_n (i := 0) dX7_init_4 rfl rfl rfl) ?_
  refine Go.st (r_bipush (v := 7) dX7_init_5 rfl kB_7) ?_
  refine Go.st (k_newI (q := 37) (h1 := zz102) (kc1 := 1) (ks1 := 7) (N := 7) dX7_init_7 rfl q106 (by decide) rfl (by decide) ⟨by decide, by decide⟩ rfl rfl (by decide +kernel) rfl) ?_
  refine Go.st (k_put (h1 := zz103) (r_putRF dX7_init_9 rfl fl_X7_9 (n := 0) (by decide +kernel) (by decide +kernel) rfl fwF_7_0 (fun _ => rfl) (fun _ => rfl) rfl (fun r hr => by cases hr; rfl)) rfl) ?_
  refine Go.st (r_aload_n (i := 0) dX7_init_12 rfl rfl rfl) ?_
  refine Go.st (r_bipush (v := 7) dX7_init_13 rfl kB_7) ?_
  refine Go.st (k_newI (q := 38) (h1 := zz104) (kc1 := 2) (ks1 := 14) (N := 7) dX7_init_15 rfl q106 (by decide) rfl (by decide) ⟨by decide, by decide⟩ rfl rfl (by decide +kernel) rfl) ?_
  refine Go.st (k_put (h1 := zz105) (r_putRF dX7_init_17 rfl fl_X7_15 (n := 0) (by decide +kernel) (by decide +kernel) rfl fwF_7_1 (fun _ => rfl) (fun _ => rfl) rfl (fun r hr => by cases hr; rfl)) rfl) ?_
  refine Go.st (r_aload_n (i := 0) dX7_init_20 rfl rfl rfl) ?_
  refine Go.st (r_iconst (v := 0) dX7_init_21 rfl kI_0) ?_
  refine Go.st (k_put (h1 := zz106) (r_putI dX7_init_22 rfl fl_X7_18 (n := 0) (by decide +kernel) (by decide +kernel) rfl fw_7_2 rfl rfl) rfl) ?_
  refine Go.st (r_aload_n (i := 0) dX7_init_25 rfl rfl rfl) ?_
  refine Go.st (r_iconst (v := 4) dX7_init_26 rfl kI_4) ?_
  refine Go.st (k_newI (q := 39) (h1 := zz107) (kc1 := 3) (ks1 := 18) (N := 4) dX7_init_27 rfl q106 (by decide) rfl (by decide) ⟨by decide, by decide⟩ rfl rfl (by decide +kernel) rfl) ?_
  refine Go.st (k_put (h1 := zz108) (r_putRF dX7_init_29 rfl fl_X7_22 (n := 0) (by decide +kernel) (by decide +kernel) rfl fwF_7_3 (fun _ => rfl) (fun _ => rfl) rfl (fun r hr => by cases hr; rfl)) rfl) ?_
  refine Go.st (r_aload_n (i := 0) dX7_init_32 rfl rfl rfl) ?_
  refine Go.st (r_iconst (v := 0) dX7_init_33 rfl kI_0) ?_
  refine Go.st (k_put (h1 := zz109) (r_putI dX7_init_34 rfl fl_X7_25 (n := 0) (by decide +kernel) (by decide +kernel) rfl fw_7_4 rfl rfl) rfl) ?_
  refine Go.st (r_aload_n (i := 0) dX7_init_37 rfl rfl rfl) ?_
  refine Go.st (r_iconst (v := 4) dX7_init_38 rfl kI_4) ?_
  refine Go.st (k_newI (q := 40) (h1 := zz110) (kc1 := 4) (ks1 := 22) (N := 4) dX7_init_39 rfl q106 (by decide) rfl (by decide) ⟨by decide, by decide⟩ rfl rfl (by decide +kernel) rfl) ?_
  refine Go.st (k_put (h1 := zz111) (r_putRF dX7_init_41 rfl fl_X7_28 (n := 0) (by decide +kernel) (by decide +kernel) rfl fwF_7_5 (fun _ => rfl) (fun _ => rfl) rfl (fun r hr => by cases hr; rfl)) rfl) ?_
  refine Go.st (r_aload_n (i := 0) dX7_init_44 rfl rfl rfl) ?_
  refine Go.st (r_iconst (v := 4) dX7_init_45 rfl kI_4) ?_
  refine Go.st (k_newI (q := 41) (h1 := zz112) (kc1 := 5) (ks1 := 26) (N := 4) dX7_init_46 rfl q106 (by decide) rfl (by decide) ⟨by decide, by decide⟩ rfl rfl (by decide +kernel) rfl) ?_
  refine Go.st (k_put (h1 := zz113) (r_putRF dX7_init_48 rfl fl_X7_31 (n := 0) (by decide +kernel) (by decide +kernel) rfl fwF_7_6 (fun _ => rfl) (fun _ => rfl) rfl (fun r hr => by cases hr; rfl)) rfl) ?_
  refine Go.st (r_aload_n (i := 0) dX7_init_51 rfl rfl rfl) ?_
  refine Go.st (r_iconst (v := 0) dX7_init_52 rfl kI_0) ?_
  refine Go.st (k_put (h1 := zz114) (r_putI dX7_init_53 rfl fl_X7_34 (n := 0) (by decide +kernel) (by decide +kernel) rfl fw_7_7 rfl rfl) rfl) ?_
  refine Go.st (r_aload_n (i := 0) dX7_init_56 rfl rfl rfl) ?_
  refine Go.st (r_bipush (v := 6) dX7_init_57 rfl kB_6) ?_
  refine Go.st (k_newI (q := 42) (h1 := zz115) (kc1 := 6) (ks1 := 32) (N := 6) dX7_init_59 rfl q106 (by decide) rfl (by decide) ⟨by decide, by decide⟩ rfl rfl (by decide +kernel) rfl) ?_
  refine Go.st (k_put (h1 := zz116) (r_putRF dX7_init_61 rfl fl_X7_37 (n := 0) (by decide +kernel) (by decide +kernel) rfl fwF_7_8 (fun _ => rfl) (fun _ => rfl) rfl (fun r hr => by cases hr; rfl)) rfl) ?_
  refine Go.st (r_aload_n (i := 0) dX7_init_64 rfl rfl rfl) ?_
  refine Go.st (r_bipush (v := 6) dX7_init_65 rfl kB_6) ?_
  refine Go.st (k_newI (q := 43) (h1 := zz117) (kc1 := 7) (ks1 := 38) (N := 6) dX7_init_67 rfl q106 (by decide) rfl (by decide) ⟨by decide, by decide⟩ rfl rfl (by decide +kernel) rfl) ?_
  refine Go.st (k_put (h1 := zz118) (r_putRF dX7_init_69 rfl fl_X7_40 (n := 0) (by decide +kernel) (by decide +kernel) rfl fwF_7_9 (fun _ => rfl) (fun _ => rfl) rfl (fun r hr => by cases hr; rfl)) rfl) ?_
  refine Go.st (r_aload_n (i := 0) dX7_init_72 rfl rfl rfl) ?_
  refine Go.st (r_iconst (v := 0) dX7_init_73 rfl kI_0) ?_
  refine Go.st (k_put (h1 := zz119) (r_putI dX7_init_74 rfl fl_X7_43 (n := 0) (by decide +kernel) (by decide +kernel) rfl fw_7_10 rfl rfl) rfl) ?_
  refine Go.st (r_aload_n (i := 0) dX7_init_77 rfl rfl rfl) ?_
  refine Go.st (r_bipush (v := 100) dX7_init_78 rfl kB_100) ?_
  refine Go.st (k_newI (q := 44) (h1 := zz120) (kc1 := 8) (ks1 := 138) (N := 100) dX7_init_80 rfl q106 (by decide) rfl (by decide) ⟨by decide, by decide⟩ rfl rfl (by decide +kernel) rfl) ?_
  refine Go.st (k_put (h1 := zz121) (r_putRF dX7_init_82 rfl fl_X7_46 (n := 0) (by decide +kernel) (by decide +kernel) rfl fwF_7_11 (fun _ => rfl) (fun _ => rfl) rfl (fun r hr => by cases hr; rfl)) rfl) ?_
  refine Go.st (r_aload_n (i := 0) dX7_init_85 rfl rfl rfl) ?_
  refine Go.st (r_getR (b := 44) dX7_init_86 rfl fl_X7_46 (n := 0) (by decide +kernel) (by decide +kernel) rfl (by decide +kernel)) ?_
  refine Go.st (r_iconst (v := -1) dX7_init_89 rfl kI_m1) ?_
  refine Go.st (r_callS (as := [.ref 44, .int (-1 : Int32)]) (st := []) (h' := zz122) (r := none) (kc1 := 8) (ks1 := 138) (e_J7_fill_53178 (a := 44) (n := 100) (h := zz121) (by decide +kernel) (by decide +kernel) (by decide)) ms_J7_fill_53178 lk_X7_49 ⟨by decide, by decide⟩ ⟨by decide, by decide⟩ (by decide) dX7_init_90 rfl rfl rfl rfl rfl) ?_
  exact g_vret rfl rfl rfl dX7_init_93 ⟨rfl, rfl⟩
set_option maxRecDepth 20000 in
theorem mk11_X7_init : EvD M_X7_init [.ref 45] zz124 none zz145 := by
  refine EvM.of (by decide +kernel) (Nat.le_of_ble_eq_true rfl) ?_
  show Go M_X7_init _ 0 0 0 [some (.ref 45)] [] zz124
  refine Go.st (r_aload_n (i := 0) dX7_init_0 rfl rfl rfl) ?_
  refine Go.st (r_objInit q33 q26 q27 (by decide) (by decide) dX7_init_1 rfl) ?_
  refine Go.st (r_aload_n (i := 0) dX7_init_4 rfl rfl rfl) ?_
  refine Go.st (r_bipush (v := 7) dX7_init_5 rfl kB_7) ?_
  refine Go.st (k_newI (q := 46) (h1 := zz125) (kc1 := 1) (ks1 := 7) (N := 7) dX7_init_7 rfl q106 (by decide) rfl (by decide) ⟨by decide, by decide⟩ rfl rfl (by decide +kernel) rfl) ?_
  refine Go.st (k_put (h1 := zz126) (r_putRF dX7_init_9 rfl fl_X7_9 (n := 0) (by decide +kernel) (by decide +kernel) rfl fwF_7_0 (fun _ => rfl) (fun _ => rfl) rfl (fun r hr => by cases hr; rfl)) rfl) ?_
  refine Go.st (r_aload_n (i := 0) dX7_init_12 rfl rfl rfl) ?_
  refine Go.st (r_bipush (v := 7) dX7_init_13 rfl kB_7) ?_
  refine Go.st (k_newI (q := 47) (h1 := zz127) (kc1 := 2) (ks1 := 14) (N := 7) dX7_init_15 rfl q106 (by decide) rfl (by decide) ⟨by decide, by decide⟩ rfl rfl (by decide +kernel) rfl) ?_
  refine Go.st (k_put (h1 := zz128) (r_putRF dX7_init_17 rfl fl_X7_15 (n := 0) (by decide +kernel) (by decide +kernel) rfl fwF_7_1 (fun _ => rfl) (fun _ => rfl) rfl (fun r hr => by cases hr; rfl)) rfl) ?_
  refine Go.st (r_aload_n (i := 0) dX7_init_20 rfl rfl rfl) ?_
  refine Go.st (r_iconst (v := 0) dX7_init_21 rfl kI_0) ?_
  refine Go.st (k_put (h1 := zz129) (r_putI dX7_init_22 rfl fl_X7_18 (n := 0) (by decide +kernel) (by decide +kernel) rfl fw_7_2 rfl rfl) rfl) ?_
  refine Go.st (r_aload_n (i := 0) dX7_init_25 rfl rfl rfl) ?_
  refine Go.st (r_iconst (v := 4) dX7_init_26 rfl kI_4) ?_
  refine Go.st (k_newI (q := 48) (h1 := zz130) (kc1 := 3) (ks1 := 18) (N := 4) dX7_init_27 rfl q106 (by decide) rfl (by decide) ⟨by decide, by decide⟩ rfl rfl (by decide +kernel) rfl) ?_
  refine Go.st (k_put (h1 := zz131) (r_putRF dX7_init_29 rfl fl_X7_22 (n := 0) (by decide +kernel) (by decide +kernel) rfl fwF_7_3 (fun _ => rfl) (fun _ => rfl) rfl (fun r hr => by cases hr; rfl)) rfl) ?_
  refine Go.st (r_aload_n (i := 0) dX7_init_32 rfl rfl rfl) ?_
  refine Go.st (r_iconst (v := 0) dX7_init_33 rfl kI_0) ?_
  refine Go.st (k_put (h1 := zz132) (r_putI dX7_init_34 rfl fl_X7_25 (n := 0) (by decide +kernel) (by decide +kernel) rfl fw_7_4 rfl rfl) rfl) ?_
  refine Go.st (r_aload_n (i := 0) dX7_init_37 rfl rfl rfl) ?_
  refine Go.st (r_iconst (v := 4) dX7_init_38 rfl kI_4) ?_
  refine Go.st (k_newI (q := 49) (h1 := zz133) (kc1 := 4) (ks1 := 22) (N := 4) dX7_init_39 rfl q106 (by decide) rfl (by decide) ⟨by decide, by decide⟩ rfl rfl (by decide +kernel) rfl) ?_
  refine Go.st (k_put (h1 := zz134) (r_putRF dX7_init_41 rfl fl_X7_28 (n := 0) (by decide +kernel) (by decide +kernel) rfl fwF_7_5 (fun _ => rfl) (fun _ => rfl) rfl (fun r hr => by cases hr; rfl)) rfl) ?_
  refine Go.st (r_aload_n (i := 0) dX7_init_44 rfl rfl rfl) ?_
  refine Go.st (r_iconst (v := 4) dX7_init_45 rfl kI_4) ?_
  refine Go.st (k_newI (q := 50) (h1 := zz135) (kc1 := 5) (ks1 := 26) (N := 4) dX7_init_46 rfl q106 (by decide) rfl (by decide) ⟨by decide, by decide⟩ rfl rfl (by decide +kernel) rfl) ?_
  refine Go.st (k_put (h1 := zz136) (r_putRF dX7_init_48 rfl fl_X7_31 (n := 0) (by decide +kernel) (by decide +kernel) rfl fwF_7_6 (fun _ => rfl) (fun _ => rfl) rfl (fun r hr => by cases hr; rfl)) rfl) ?_
  refine Go.st (r_aload_n (i := 0) dX7_init_51 rfl rfl rfl) ?_
  refine Go.st (r_iconst (v := 0) dX7_init_52 rfl kI_0) ?_
  refine Go.st (k_put (h1 := zz137) (r_putI dX7_init_53 rfl fl_X7_34 (n := 0) (by decide +kernel) (by decide +kernel) rfl fw_7_7 rfl rfl) rfl) ?_
  refine Go.st (r_aload_n (i := 0) dX7_init_56 rfl rfl rfl) ?_
  refine Go.st (r_bipush (v := 6) dX7_init_57 rfl kB_6) ?_
  refine Go.st (k_newI (q := 51) (h1 := zz138) (kc1 := 6) (ks1 := 32) (N := 6) dX7_init_59 rfl q106 (by decide) rfl (by decide) ⟨by decide, by decide⟩ rfl rfl (by decide +kernel) rfl) ?_
  refine Go.st (k_put (h1 := zz139) (r_putRF dX7_init_61 rfl fl_X7_37 (n := 0) (by decide +kernel) (by decide +kernel) rfl fwF_7_8 (fun _ => rfl) (fun _ => rfl) rfl (fun r hr => by cases hr; rfl)) rfl) ?_
  refine Go.st (r_aload_n (i := 0) dX7_init_64 rfl rfl rfl) ?_
  refine Go.st (r_bipush (v := 6) dX7_init_65 rfl kB_6) ?_
  refine Go.st (k_newI (q := 52) (h1 := zz140) (kc1 := 7) (ks1 := 38) (N := 6) dX7_init_67 rfl q106 (by decide) rfl (by decide) ⟨by decide, by decide⟩ rfl rfl (by decide +kernel) rfl) ?_
  refine Go.st (k_put (h1 := zz141) (r_putRF dX7_init_69 rfl fl_X7_40 (n := 0) (by decide +kernel) (by decide +kernel) rfl fwF_7_9 (fun _ => rfl) (fun _ => rfl) rfl (fun r hr => by cases hr; rfl)) rfl) ?_
  refine Go.st (r_aload_n (i := 0) dX7_init_72 rfl rfl rfl) ?_
  refine Go.st (r_iconst (v := 0) dX7_init_73 rfl kI_0) ?_
  refine Go.st (k_put (h1 := zz142) (r_putI dX7_init_74 rfl fl_X7_43 (n := 0) (by decide +kernel) (by decide +kernel) rfl fw_7_10 rfl rfl) rfl) ?_
  refine Go.st (r_aload_n (i := 0) dX7_init_77 rfl rfl rfl) ?_
  refine Go.st (r_bipush (v := 100) dX7_init_78 rfl kB_100) ?_
  refine Go.st (k_newI (q := 53) (h1 := zz143) (kc1 := 8) (ks1 := 138) (N := 100) dX7_init_80 rfl q106 (by decide) rfl (by decide) ⟨by decide, by decide⟩ rfl rfl (by decide +kernel) rfl) ?_
  refine Go.st (k_put (h1 := zz144) (r_putRF dX7_init_82 rfl fl_X7_46 (n := 0) (by decide +kernel) (by decide +kernel) rfl fwF_7_11 (fun _ => rfl) (fun _ => rfl) rfl (fun r hr => by cases hr; rfl)) rfl) ?_
  refine Go.st (r_aload_n (i := 0) dX7_init_85 rfl rfl rfl) ?_
  refine Go.st (r_getR (b := 53) dX7_init_86 rfl fl_X7_46 (n := 0) (by decide +kernel) (by decide +kernel) rfl (by decide +kernel)) ?_
  refine Go.st (r_iconst (v := -1) dX7_init_89 rfl kI_m1) ?_
  refine Go.st (r_callS (as := [.ref 53, .int (-1 : Int32)]) (st := []) (h' := zz145) (r := none) (kc1 := 8) (ks1 := 138) (e_J7_fill_53178 (a := 53) (n := 100) (h := zz144) (by decide +kernel) (by decide +kernel) (by decide)) ms_J7_fill_53178 lk_X7_49 ⟨by decide, by decide⟩ ⟨by decide, by decide⟩ (by decide) dX7_init_90 rfl rfl rfl rfl rfl) ?_
  exact g_vret rfl rfl rfl dX7_init_93 ⟨rfl, rfl⟩
def M_X8_init : Ms := (yX8_init, cX8_init, 1, none, 1, 12, 1, 160)
theorem mi_X8_init : MI M_X8_init 0 := ⟨⟨q227, q9, by decide, by decide, by decide +kernel⟩, q226, rfl, rfl⟩
set_option maxRecDepth 20000 in
theorem mk12_X8_init : EvD M_X8_init [.ref 54] zz147 none zz150 := by
  refine EvM.of (by decide +kernel) (Nat.le_of_ble_eq_true rfl) ?_
  show Go M_X8_init _ 0 0 0 [some (.ref 54)] [] zz147
  refine Go.st (r_aload_n (i := 0) dX8_init_0 rfl rfl rfl) ?_
  refine Go.st (r_objInit q228 q26 q27 (by decide) (by decide) dX8_init_1 rfl) ?_
  refine Go.st (r_aload_n (i := 0) dX8_init_4 rfl rfl rfl) ?_
  refine Go.st (r_sipush (v := 160) dX8_init_5 rfl kS_160) ?_
  refine Go.st (k_newI (q := 55) (h1 := zz148) (kc1 := 1) (ks1 := 160) (N := 160) dX8_init_8 rfl q106 (by decide) rfl (by decide) ⟨by decide, by decide⟩ rfl rfl (by decide +kernel) rfl) ?_
  refine Go.st (k_put (h1 := zz149) (r_putRF dX8_init_10 rfl fl_X8_9 (n := 0) (by decide +kernel) (by decide +kernel) rfl fwF_8_0 (fun _ => rfl) (fun _ => rfl) rfl (fun r hr => by cases hr; rfl)) rfl) ?_
  refine Go.st (r_aload_n (i := 0) dX8_init_13 rfl rfl rfl) ?_
  refine Go.st (r_iconst (v := 0) dX8_init_14 rfl kI_0) ?_
  refine Go.st (k_put (h1 := zz150) (r_putI dX8_init_15 rfl fl_X8_15 (n := 0) (by decide +kernel) (by decide +kernel) rfl fw_8_1 rfl rfl) rfl) ?_
  exact g_vret rfl rfl rfl dX8_init_18 ⟨rfl, rfl⟩
set_option maxRecDepth 20000 in
theorem mk13_X7_init : EvD M_X7_init [.ref 57] zz153 none zz174 := by
  refine EvM.of (by decide +kernel) (Nat.le_of_ble_eq_true rfl) ?_
  show Go M_X7_init _ 0 0 0 [some (.ref 57)] [] zz153
  refine Go.st (r_aload_n (i := 0) dX7_init_0 rfl rfl rfl) ?_
  refine Go.st (r_objInit q33 q26 q27 (by decide) (by decide) dX7_init_1 rfl) ?_
  refine Go.st (r_aload_n (i := 0) dX7_init_4 rfl rfl rfl) ?_
  refine Go.st (r_bipush (v := 7) dX7_init_5 rfl kB_7) ?_
  refine Go.st (k_newI (q := 58) (h1 := zz154) (kc1 := 1) (ks1 := 7) (N := 7) dX7_init_7 rfl q106 (by decide) rfl (by decide) ⟨by decide, by decide⟩ rfl rfl (by decide +kernel) rfl) ?_
  refine Go.st (k_put (h1 := zz155) (r_putRF dX7_init_9 rfl fl_X7_9 (n := 0) (by decide +kernel) (by decide +kernel) rfl fwF_7_0 (fun _ => rfl) (fun _ => rfl) rfl (fun r hr => by cases hr; rfl)) rfl) ?_
  refine Go.st (r_aload_n (i := 0) dX7_init_12 rfl rfl rfl) ?_
  refine Go.st (r_bipush (v := 7) dX7_init_13 rfl kB_7) ?_
  refine Go.st (k_newI (q := 59) (h1 := zz156) (kc1 := 2) (ks1 := 14) (N := 7) dX7_init_15 rfl q106 (by decide) rfl (by decide) ⟨by decide, by decide⟩ rfl rfl (by decide +kernel) rfl) ?_
  refine Go.st (k_put (h1 := zz157) (r_putRF dX7_init_17 rfl fl_X7_15 (n := 0) (by decide +kernel) (by decide +kernel) rfl fwF_7_1 (fun _ => rfl) (fun _ => rfl) rfl (fun r hr => by cases hr; rfl)) rfl) ?_
  refine Go.st (r_aload_n (i := 0) dX7_init_20 rfl rfl rfl) ?_
  refine Go.st (r_iconst (v := 0) dX7_init_21 rfl kI_0) ?_
  refine Go.st (k_put (h1 := zz158) (r_putI dX7_init_22 rfl fl_X7_18 (n := 0) (by decide +kernel) (by decide +kernel) rfl fw_7_2 rfl rfl) rfl) ?_
  refine Go.st (r_aload_n (i := 0) dX7_init_25 rfl rfl rfl) ?_
  refine Go.st (r_iconst (v := 4) dX7_init_26 rfl kI_4) ?_
  refine Go.st (k_newI (q := 60) (h1 := zz159) (kc1 := 3) (ks1 := 18) (N := 4) dX7_init_27 rfl q106 (by decide) rfl (by decide) ⟨by decide, by decide⟩ rfl rfl (by decide +kernel) rfl) ?_
  refine Go.st (k_put (h1 := zz160) (r_putRF dX7_init_29 rfl fl_X7_22 (n := 0) (by decide +kernel) (by decide +kernel) rfl fwF_7_3 (fun _ => rfl) (fun _ => rfl) rfl (fun r hr => by cases hr; rfl)) rfl) ?_
  refine Go.st (r_aload_n (i := 0) dX7_init_32 rfl rfl rfl) ?_
  refine Go.st (r_iconst (v := 0) dX7_init_33 rfl kI_0) ?_
  refine Go.st (k_put (h1 := zz161) (r_putI dX7_init_34 rfl fl_X7_25 (n := 0) (by decide +kernel) (by decide +kernel) rfl fw_7_4 rfl rfl) rfl) ?_
  refine Go.st (r_aload_n (i := 0) dX7_init_37 rfl rfl rfl) ?_
  refine Go.st (r_iconst (v := 4) dX7_init_38 rfl kI_4) ?_
  refine Go.st (k_newI (q := 61) (h1 := zz162) (kc1 := 4) (ks1 := 22) (N := 4) dX7_init_39 rfl q106 (by decide) rfl (by decide) ⟨by decide, by decide⟩ rfl rfl (by decide +kernel) rfl) ?_
  refine Go.st (k_put (h1 := zz163) (r_putRF dX7_init_41 rfl fl_X7_28 (n := 0) (by decide +kernel) (by decide +kernel) rfl fwF_7_5 (fun _ => rfl) (fun _ => rfl) rfl (fun r hr => by cases hr; rfl)) rfl) ?_
  refine Go.st (r_aload_n (i := 0) dX7_init_44 rfl rfl rfl) ?_
  refine Go.st (r_iconst (v := 4) dX7_init_45 rfl kI_4) ?_
  refine Go.st (k_newI (q := 62) (h1 := zz164) (kc1 := 5) (ks1 := 26) (N := 4) dX7_init_46 rfl q106 (by decide) rfl (by decide) ⟨by decide, by decide⟩ rfl rfl (by decide +kernel) rfl) ?_
  refine Go.st (k_put (h1 := zz165) (r_putRF dX7_init_48 rfl fl_X7_31 (n := 0) (by decide +kernel) (by decide +kernel) rfl fwF_7_6 (fun _ => rfl) (fun _ => rfl) rfl (fun r hr => by cases hr; rfl)) rfl) ?_
  refine Go.st (r_aload_n (i := 0) dX7_init_51 rfl rfl rfl) ?_
  refine Go.st (r_iconst (v := 0) dX7_init_52 rfl kI_0) ?_
  refine Go.st (k_put (h1 := zz166) (r_putI dX7_init_53 rfl fl_X7_34 (n := 0) (by decide +kernel) (by decide +kernel) rfl fw_7_7 rfl rfl) rfl) ?_
  refine Go.st (r_aload_n (i := 0) dX7_init_56 rfl rfl rfl) ?_
  refine Go.st (r_bipush (v := 6) dX7_init_57 rfl kB_6) ?_
  refine Go.st (k_newI (q := 63) (h1 := zz167) (kc1 := 6) (ks1 := 32) (N := 6) dX7_init_59 rfl q106 (by decide) rfl (by decide) ⟨by decide, by decide⟩ rfl rfl (by decide +kernel) rfl) ?_
  refine Go.st (k_put (h1 := zz168) (r_putRF dX7_init_61 rfl fl_X7_37 (n := 0) (by decide +kernel) (by decide +kernel) rfl fwF_7_8 (fun _ => rfl) (fun _ => rfl) rfl (fun r hr => by cases hr; rfl)) rfl) ?_
  refine Go.st (r_aload_n (i := 0) dX7_init_64 rfl rfl rfl) ?_
  refine Go.st (r_bipush (v := 6) dX7_init_65 rfl kB_6) ?_
  refine Go.st (k_newI (q := 64) (h1 := zz169) (kc1 := 7) (ks1 := 38) (N := 6) dX7_init_67 rfl q106 (by decide) rfl (by decide) ⟨by decide, by decide⟩ rfl rfl (by decide +kernel) rfl) ?_
  refine Go.st (k_put (h1 := zz170) (r_putRF dX7_init_69 rfl fl_X7_40 (n := 0) (by decide +kernel) (by decide +kernel) rfl fwF_7_9 (fun _ => rfl) (fun _ => rfl) rfl (fun r hr => by cases hr; rfl)) rfl) ?_
  refine Go.st (r_aload_n (i := 0) dX7_init_72 rfl rfl rfl) ?_
  refine Go.st (r_iconst (v := 0) dX7_init_73 rfl kI_0) ?_
  refine Go.st (k_put (h1 := zz171) (r_putI dX7_init_74 rfl fl_X7_43 (n := 0) (by decide +kernel) (by decide +kernel) rfl fw_7_10 rfl rfl) rfl) ?_
  refine Go.st (r_aload_n (i := 0) dX7_init_77 rfl rfl rfl) ?_
  refine Go.st (r_bipush (v := 100) dX7_init_78 rfl kB_100) ?_
  refine Go.st (k_newI (q := 65) (h1 := zz172) (kc1 := 8) (ks1 := 138) (N := 100) dX7_init_80 rfl q106 (by decide) rfl (by decide) ⟨by decide, by decide⟩ rfl rfl (by decide +kernel) rfl) ?_
  refine Go.st (k_put (h1 := zz173) (r_putRF dX7_init_82 rfl fl_X7_46 (n := 0) (by decide +kernel) (by decide +kernel) rfl fwF_7_11 (fun _ => rfl) (fun _ => rfl) rfl (fun r hr => by cases hr; rfl)) rfl) ?_
  refine Go.st (r_aload_n (i := 0) dX7_init_85 rfl rfl rfl) ?_
  refine Go.st (r_getR (b := 65) dX7_init_86 rfl fl_X7_46 (n := 0) (by decide +kernel) (by decide +kernel) rfl (by decide +kernel)) ?_
  refine Go.st (r_iconst (v := -1) dX7_init_89 rfl kI_m1) ?_
  refine Go.st (r_callS (as := [.ref 65, .int (-1 : Int32)]) (st := []) (h' := zz174) (r := none) (kc1 := 8) (ks1 := 138) (e_J7_fill_53178 (a := 65) (n := 100) (h := zz173) (by decide +kernel) (by decide +kernel) (by decide)) ms_J7_fill_53178 lk_X7_49 ⟨by decide, by decide⟩ ⟨by decide, by decide⟩ (by decide) dX7_init_90 rfl rfl rfl rfl rfl) ?_
  exact g_vret rfl rfl rfl dX7_init_93 ⟨rfl, rfl⟩
def M_X4_init : Ms := (yX4_init, cX4_init, 2, none, 2, 43, 9, 150)
theorem mi_X4_init : MI M_X4_init 1 := ⟨⟨q243, q10, by decide, by decide, by decide +kernel⟩, q242, rfl, rfl⟩
set_option maxRecDepth 20000 in
theorem mk14_X4_init : EvD M_X4_init [.ref 56, .ref 54] zz152 none zz182 := by
  refine EvM.of (by decide +kernel) (Nat.le_of_ble_eq_true rfl) ?_
  show Go M_X4_init _ 0 0 0 [some (.ref 56), some (.ref 54)] [] zz152
  refine Go.st (r_aload_n (i := 0) dX4_init_0 rfl rfl rfl) ?_
  refine Go.st (r_objInit q244 q26 q27 (by decide) (by decide) dX4_init_1 rfl) ?_
  refine Go.st (r_aload_n (i := 0) dX4_init_4 rfl rfl rfl) ?_
  refine Go.st (k_new (q := 57) (h1 := zz153) (kc1 := 1) (ks1 := 12) (N := 12) dX4_init_5 rfl (by decide) (r := (RX7, TX7, 12)) rfl rfl tyX7_ok df7 q245 q29 q2 ⟨by decide, by decide⟩ rfl rfl (by decide +kernel) rfl) ?_
  refine Go.st (r_dup dX4_init_8 rfl rfl) ?_
  refine Go.st (r_callI (as := []) (st := [.ref 57, .ref 56]) (kc1 := 9) (ks1 := 150) mk13_X7_init mi_X7_init q246 ⟨by decide, by decide⟩ ⟨by decide, by decide⟩ (by decide) dX4_init_9 rfl rfl rfl rfl rfl) ?_
  refine Go.st (k_put (h1 := zz175) (r_putRF dX4_init_12 rfl fl_X4_12 (n := 0) (by decide +kernel) (by decide +kernel) rfl fwF_4_0 (fun _ => rfl) (fun _ => rfl) rfl (fun r hr => by cases hr; rfl)) rfl) ?_
  refine Go.st (r_aload_n (i := 0) dX4_init_15 rfl rfl rfl) ?_
  refine Go.st (r_iconst (v := 0) dX4_init_16 rfl kI_0) ?_
  refine Go.st (k_put (h1 := zz176) (r_putI dX4_init_17 rfl fl_X4_18 (n := 0) (by decide +kernel) (by decide +kernel) rfl fw_4_1 rfl rfl) rfl) ?_
  refine Go.st (r_aload_n (i := 0) dX4_init_20 rfl rfl rfl) ?_
  refine Go.st (r_iconst (v := 0) dX4_init_21 rfl kI_0) ?_
  refine Go.st (k_put (h1 := zz177) (r_putI dX4_init_22 rfl fl_X4_22 (n := 0) (by decide +kernel) (by decide +kernel) rfl fw_4_3 rfl rfl) rfl) ?_
  refine Go.st (r_aload_n (i := 0) dX4_init_25 rfl rfl rfl) ?_
  refine Go.st (r_iconst (v := 4) dX4_init_26 rfl kI_4) ?_
  refine Go.st (k_put (h1 := zz178) (r_putI dX4_init_27 rfl fl_X4_25 (n := 0) (by decide +kernel) (by decide +kernel) rfl fw_4_4 rfl rfl) rfl) ?_
  refine Go.st (r_aload_n (i := 0) dX4_init_30 rfl rfl rfl) ?_
  refine Go.st (r_iconst (v := 0) dX4_init_31 rfl kI_0) ?_
  refine Go.st (k_put (h1 := zz179) (r_putI dX4_init_32 rfl fl_X4_28 (n := 0) (by decide +kernel) (by decide +kernel) rfl fw_4_5 rfl rfl) rfl) ?_
  refine Go.st (r_aload_n (i := 0) dX4_init_35 rfl rfl rfl) ?_
  refine Go.st (r_iconst (v := 0) dX4_init_36 rfl kI_0) ?_
  refine Go.st (k_put (h1 := zz180) (r_putI dX4_init_37 rfl fl_X4_31 (n := 0) (by decide +kernel) (by decide +kernel) rfl fw_4_6 rfl rfl) rfl) ?_
  refine Go.st (r_aload_n (i := 0) dX4_init_40 rfl rfl rfl) ?_
  refine Go.st (r_iconst (v := 0) dX4_init_41 rfl kI_0) ?_
  refine Go.st (k_put (h1 := zz181) (r_putI dX4_init_42 rfl fl_X4_34 (n := 0) (by decide +kernel) (by decide +kernel) rfl fw_4_7 rfl rfl) rfl) ?_
  refine Go.st (r_aload_n (i := 0) dX4_init_45 rfl rfl rfl) ?_
  refine Go.st (r_aload_n (i := 1) dX4_init_46 rfl rfl rfl) ?_
  refine Go.st (k_put (h1 := zz182) (r_putRF dX4_init_47 rfl fl_X4_37 (n := 0) (by decide +kernel) (by decide +kernel) rfl fwF_4_2 (fun _ => rfl) (fun _ => rfl) rfl (fun r hr => by cases hr; rfl)) rfl) ?_
  exact g_vret rfl rfl rfl dX4_init_50 ⟨rfl, rfl⟩
def M_X6_init : Ms := (yX6_init, cX6_init, 1, none, 1, 12, 1, 40)
theorem mi_X6_init : MI M_X6_init 0 := ⟨⟨q279, q11, by decide, by decide, by decide +kernel⟩, q278, rfl, rfl⟩
set_option maxRecDepth 20000 in
theorem mk15_X6_init : EvD M_X6_init [.ref 67] zz187 none zz191 := by
  refine EvM.of (by decide +kernel) (Nat.le_of_ble_eq_true rfl) ?_
  show Go M_X6_init _ 0 0 0 [some (.ref 67)] [] zz187
  refine Go.st (r_aload_n (i := 0) dX6_init_0 rfl rfl rfl) ?_
  refine Go.st (r_objInit q280 q26 q27 (by decide) (by decide) dX6_init_1 rfl) ?_
  refine Go.st (r_aload_n (i := 0) dX6_init_4 rfl rfl rfl) ?_
  refine Go.st (r_iconst (v := -1) dX6_init_5 rfl kI_m1) ?_
  refine Go.st (k_put (h1 := zz188) (r_putI dX6_init_6 rfl fl_X6_11 (n := 0) (by decide +kernel) (by decide +kernel) rfl fw_6_0 rfl rfl) rfl) ?_
  refine Go.st (r_aload_n (i := 0) dX6_init_9 rfl rfl rfl) ?_
  refine Go.st (r_iconst (v := 0) dX6_init_10 rfl kI_0) ?_
  refine Go.st (k_put (h1 := zz189) (r_putI dX6_init_11 rfl fl_X6_15 (n := 0) (by decide +kernel) (by decide +kernel) rfl fw_6_1 rfl rfl) rfl) ?_
  refine Go.st (r_aload_n (i := 0) dX6_init_14 rfl rfl rfl) ?_
  refine Go.st (r_bipush (v := 40) dX6_init_15 rfl kB_40) ?_
  refine Go.st (k_newI (q := 68) (h1 := zz190) (kc1 := 1) (ks1 := 40) (N := 40) dX6_init_17 rfl q106 (by decide) rfl (by decide) ⟨by decide, by decide⟩ rfl rfl (by decide +kernel) rfl) ?_
  refine Go.st (k_put (h1 := zz191) (r_putRF dX6_init_19 rfl fl_X6_18 (n := 0) (by decide +kernel) (by decide +kernel) rfl fwF_6_2 (fun _ => rfl) (fun _ => rfl) rfl (fun r hr => by cases hr; rfl)) rfl) ?_
  exact g_vret rfl rfl rfl dX6_init_22 ⟨rfl, rfl⟩
set_option maxRecDepth 20000 in
theorem mk16_X6_init : EvD M_X6_init [.ref 69] zz193 none zz197 := by
  refine EvM.of (by decide +kernel) (Nat.le_of_ble_eq_true rfl) ?_
  show Go M_X6_init _ 0 0 0 [some (.ref 69)] [] zz193
  refine Go.st (r_aload_n (i := 0) dX6_init_0 rfl rfl rfl) ?_
  refine Go.st (r_objInit q280 q26 q27 (by decide) (by decide) dX6_init_1 rfl) ?_
  refine Go.st (r_aload_n (i := 0) dX6_init_4 rfl rfl rfl) ?_
  refine Go.st (r_iconst (v := -1) dX6_init_5 rfl kI_m1) ?_
  refine Go.st (k_put (h1 := zz194) (r_putI dX6_init_6 rfl fl_X6_11 (n := 0) (by decide +kernel) (by decide +kernel) rfl fw_6_0 rfl rfl) rfl) ?_
  refine Go.st (r_aload_n (i := 0) dX6_init_9 rfl rfl rfl) ?_
  refine Go.st (r_iconst (v := 0) dX6_init_10 rfl kI_0) ?_
  refine Go.st (k_put (h1 := zz195) (r_putI dX6_init_11 rfl fl_X6_15 (n := 0) (by decide +kernel) (by decide +kernel) rfl fw_6_1 rfl rfl) rfl) ?_
  refine Go.st (r_aload_n (i := 0) dX6_init_14 rfl rfl rfl) ?_
  refine Go.st (r_bipush (v := 40) dX6_init_15 rfl kB_40) ?_
  refine Go.st (k_newI (q := 70) (h1 := zz196) (kc1 := 1) (ks1 := 40) (N := 40) dX6_init_17 rfl q106 (by decide) rfl (by decide) ⟨by decide, by decide⟩ rfl rfl (by decide +kernel) rfl) ?_
  refine Go.st (k_put (h1 := zz197) (r_putRF dX6_init_19 rfl fl_X6_18 (n := 0) (by decide +kernel) (by decide +kernel) rfl fwF_6_2 (fun _ => rfl) (fun _ => rfl) rfl (fun r hr => by cases hr; rfl)) rfl) ?_
  exact g_vret rfl rfl rfl dX6_init_22 ⟨rfl, rfl⟩
set_option maxRecDepth 20000 in
theorem mk17_X6_init : EvD M_X6_init [.ref 71] zz199 none zz203 := by
  refine EvM.of (by decide +kernel) (Nat.le_of_ble_eq_true rfl) ?_
  show Go M_X6_init _ 0 0 0 [some (.ref 71)] [] zz199
  refine Go.st (r_aload_n (i := 0) dX6_init_0 rfl rfl rfl) ?_
  refine Go.st (r_objInit q280 q26 q27 (by decide) (by decide) dX6_init_1 rfl) ?_
  refine Go.st (r_aload_n (i := 0) dX6_init_4 rfl rfl rfl) ?_
  refine Go.st (r_iconst (v := -1) dX6_init_5 rfl kI_m1) ?_
  refine Go.st (k_put (h1 := zz200) (r_putI dX6_init_6 rfl fl_X6_11 (n := 0) (by decide +kernel) (by decide +kernel) rfl fw_6_0 rfl rfl) rfl) ?_
  refine Go.st (r_aload_n (i := 0) dX6_init_9 rfl rfl rfl) ?_
  refine Go.st (r_iconst (v := 0) dX6_init_10 rfl kI_0) ?_
  refine Go.st (k_put (h1 := zz201) (r_putI dX6_init_11 rfl fl_X6_15 (n := 0) (by decide +kernel) (by decide +kernel) rfl fw_6_1 rfl rfl) rfl) ?_
  refine Go.st (r_aload_n (i := 0) dX6_init_14 rfl rfl rfl) ?_
  refine Go.st (r_bipush (v := 40) dX6_init_15 rfl kB_40) ?_
  refine Go.st (k_newI (q := 72) (h1 := zz202) (kc1 := 1) (ks1 := 40) (N := 40) dX6_init_17 rfl q106 (by decide) rfl (by decide) ⟨by decide, by decide⟩ rfl rfl (by decide +kernel) rfl) ?_
  refine Go.st (k_put (h1 := zz203) (r_putRF dX6_init_19 rfl fl_X6_18 (n := 0) (by decide +kernel) (by decide +kernel) rfl fwF_6_2 (fun _ => rfl) (fun _ => rfl) rfl (fun r hr => by cases hr; rfl)) rfl) ?_
  exact g_vret rfl rfl rfl dX6_init_22 ⟨rfl, rfl⟩
set_option maxRecDepth 20000 in
theorem mk18_X6_init : EvD M_X6_init [.ref 73] zz205 none zz209 := by
  refine EvM.of (by decide +kernel) (Nat.le_of_ble_eq_true rfl) ?_
  show Go M_X6_init _ 0 0 0 [some (.ref 73)] [] zz205
  refine Go.st (r_aload_n (i := 0) dX6_init_0 rfl rfl rfl) ?_
  refine Go.st (r_objInit q280 q26 q27 (by decide) (by decide) dX6_init_1 rfl) ?_
  refine Go.st (r_aload_n (i := 0) dX6_init_4 rfl rfl rfl) ?_
  refine Go.st (r_iconst (v := -1) dX6_init_5 rfl kI_m1) ?_
  refine Go.st (k_put (h1 := zz206) (r_putI dX6_init_6 rfl fl_X6_11 (n := 0) (by decide +kernel) (by decide +kernel) rfl fw_6_0 rfl rfl) rfl) ?_
  refine Go.st (r_aload_n (i := 0) dX6_init_9 rfl rfl rfl) ?_
  refine Go.st (r_iconst (v := 0) dX6_init_10 rfl kI_0) ?_
  refine Go.st (k_put (h1 := zz207) (r_putI dX6_init_11 rfl fl_X6_15 (n := 0) (by decide +kernel) (by decide +kernel) rfl fw_6_1 rfl rfl) rfl) ?_
  refine Go.st (r_aload_n (i := 0) dX6_init_14 rfl rfl rfl) ?_
  refine Go.st (r_bipush (v := 40) dX6_init_15 rfl kB_40) ?_
  refine Go.st (k_newI (q := 74) (h1 := zz208) (kc1 := 1) (ks1 := 40) (N := 40) dX6_init_17 rfl q106 (by decide) rfl (by decide) ⟨by decide, by decide⟩ rfl rfl (by decide +kernel) rfl) ?_
  refine Go.st (k_put (h1 := zz209) (r_putRF dX6_init_19 rfl fl_X6_18 (n := 0) (by decide +kernel) (by decide +kernel) rfl fwF_6_2 (fun _ => rfl) (fun _ => rfl) rfl (fun r hr => by cases hr; rfl)) rfl) ?_
  exact g_vret rfl rfl rfl dX6_init_22 ⟨rfl, rfl⟩
def M_X9_init : Ms := (yX9_init, cX9_init, 2, none, 3, 64, 74, 1335)
theorem mi_X9_init : MI M_X9_init 0 := ⟨⟨q24, q1, by decide, by decide, by decide +kernel⟩, q23, rfl, rfl⟩
set_option maxRecDepth 20000 in
theorem mk19_X9_init : EvD M_X9_init [.ref 0] zz1 none zz211 := by
  refine EvM.of (by decide +kernel) (Nat.le_of_ble_eq_true rfl) ?_
  show Go M_X9_init _ 0 0 0 [some (.ref 0), none] [] zz1
  refine Go.st (r_aload_n (i := 0) dX9_init_0 rfl rfl rfl) ?_
  refine Go.st (r_objInit q25 q26 q27 (by decide) (by decide) dX9_init_1 rfl) ?_
  refine Go.st (r_aload_n (i := 0) dX9_init_4 rfl rfl rfl) ?_
  refine Go.st (k_new (q := 1) (h1 := zz2) (kc1 := 1) (ks1 := 12) (N := 12) dX9_init_5 rfl (by decide) (r := (RX7, TX7, 12)) rfl rfl tyX7_ok df7 q28 q29 q2 ⟨by decide, by decide⟩ rfl rfl (by decide +kernel) rfl) ?_
  refine Go.st (r_dup dX9_init_8 rfl rfl) ?_
  refine Go.st (r_callI (as := []) (st := [.ref 1, .ref 0]) (kc1 := 9) (ks1 := 150) mk1_X7_init mi_X7_init q30 ⟨by decide, by decide⟩ ⟨by decide, by decide⟩ (by decide) dX9_init_9 rfl rfl rfl rfl rfl) ?_
  refine Go.st (k_put (h1 := zz24) (r_putRF dX9_init_12 rfl fl_X9_10 (n := 0) (by decide +kernel) (by decide +kernel) rfl fwF_9_0 (fun _ => rfl) (fun _ => rfl) rfl (fun r hr => by cases hr; rfl)) rfl) ?_
  refine Go.st (r_aload_n (i := 0) dX9_init_15 rfl rfl rfl) ?_
  refine Go.st (k_new (q := 10) (h1 := zz25) (kc1 := 10) (ks1 := 152) (N := 2) dX9_init_16 rfl (by decide) (r := (RX2, TX2, 2)) rfl rfl tyX2_ok df2 q107 q108 q4 ⟨by decide, by decide⟩ rfl rfl (by decide +kernel) rfl) ?_
  refine Go.st (r_dup dX9_init_19 rfl rfl) ?_
  refine Go.st (r_aload_n (i := 0) dX9_init_20 rfl rfl rfl) ?_
  refine Go.st (r_getR (b := 1) dX9_init_21 rfl fl_X9_10 (n := 0) (by decide +kernel) (by decide +kernel) rfl (by decide +kernel)) ?_
  refine Go.st (r_callI (as := [.ref 1]) (st := [.ref 10, .ref 0]) (kc1 := 12) (ks1 := 168) mk3_X2_init mi_X2_init q109 ⟨by decide, by decide⟩ ⟨by decide, by decide⟩ (by decide) dX9_init_24 rfl rfl rfl rfl rfl) ?_
  refine Go.st (k_put (h1 := zz36) (r_putRF dX9_init_27 rfl fl_X9_21 (n := 0) (by decide +kernel) (by decide +kernel) rfl fwF_9_1 (fun _ => rfl) (fun _ => rfl) rfl (fun r hr => by cases hr; rfl)) rfl) ?_
  refine Go.st (r_aload_n (i := 0) dX9_init_30 rfl rfl rfl) ?_
  refine Go.st (k_new (q := 13) (h1 := zz37) (kc1 := 13) (ks1 := 180) (N := 12) dX9_init_31 rfl (by decide) (r := (RX7, TX7, 12)) rfl rfl tyX7_ok df7 q28 q29 q2 ⟨by decide, by decide⟩ rfl rfl (by decide +kernel) rfl) ?_
  refine Go.st (r_dup dX9_init_34 rfl rfl) ?_
  refine Go.st (r_callI (as := []) (st := [.ref 13, .ref 0]) (kc1 := 21) (ks1 := 318) mk4_X7_init mi_X7_init q30 ⟨by decide, by decide⟩ ⟨by decide, by decide⟩ (by decide) dX9_init_35 rfl rfl rfl rfl rfl) ?_
  refine Go.st (k_put (h1 := zz59) (r_putRF dX9_init_38 rfl fl_X9_25 (n := 0) (by decide +kernel) (by decide +kernel) rfl fwF_9_2 (fun _ => rfl) (fun _ => rfl) rfl (fun r hr => by cases hr; rfl)) rfl) ?_
  refine Go.st (r_aload_n (i := 0) dX9_init_41 rfl rfl rfl) ?_
  refine Go.st (k_new (q := 22) (h1 := zz60) (kc1 := 22) (ks1 := 320) (N := 2) dX9_init_42 rfl (by decide) (r := (RX2, TX2, 2)) rfl rfl tyX2_ok df2 q107 q108 q4 ⟨by decide, by decide⟩ rfl rfl (by decide +kernel) rfl) ?_
  refine Go.st (r_dup dX9_init_45 rfl rfl) ?_
  refine Go.st (r_aload_n (i := 0) dX9_init_46 rfl rfl rfl) ?_
  refine Go.st (r_getR (b := 13) dX9_init_47 rfl fl_X9_25 (n := 0) (by decide +kernel) (by decide +kernel) rfl (by decide +kernel)) ?_
  refine Go.st (r_callI (as := [.ref 13]) (st := [.ref 22, .ref 0]) (kc1 := 24) (ks1 := 336) mk6_X2_init mi_X2_init q109 ⟨by decide, by decide⟩ ⟨by decide, by decide⟩ (by decide) dX9_init_50 rfl rfl rfl rfl rfl) ?_
  refine Go.st (k_put (h1 := zz71) (r_putRF dX9_init_53 rfl fl_X9_28 (n := 0) (by decide +kernel) (by decide +kernel) rfl fwF_9_3 (fun _ => rfl) (fun _ => rfl) rfl (fun r hr => by cases hr; rfl)) rfl) ?_
  refine Go.st (r_aload_n (i := 0) dX9_init_56 rfl rfl rfl) ?_
  refine Go.st (k_new (q := 25) (h1 := zz72) (kc1 := 25) (ks1 := 341) (N := 5) dX9_init_57 rfl (by decide) (r := (RX0, TX0, 5)) rfl rfl tyX0_ok df0 q158 q159 q6 ⟨by decide, by decide⟩ rfl rfl (by decide +kernel) rfl) ?_
  refine Go.st (r_dup dX9_init_60 rfl rfl) ?_
  refine Go.st (r_aload_n (i := 0) dX9_init_61 rfl rfl rfl) ?_
  refine Go.st (r_getR (b := 22) dX9_init_62 rfl fl_X9_28 (n := 0) (by decide +kernel) (by decide +kernel) rfl (by decide +kernel)) ?_
  refine Go.st (r_callI (as := [.ref 22]) (st := [.ref 25, .ref 0]) (kc1 := 26) (ks1 := 349) mk7_X0_init mi_X0_init q160 ⟨by decide, by decide⟩ ⟨by decide, by decide⟩ (by decide) dX9_init_65 rfl rfl rfl rfl rfl) ?_
  refine Go.st (k_put (h1 := zz79) (r_putRF dX9_init_68 rfl fl_X9_36 (n := 0) (by decide +kernel) (by decide +kernel) rfl fwF_9_4 (fun _ => rfl) (fun _ => rfl) rfl (fun r hr => by cases hr; rfl)) rfl) ?_
  refine Go.st (r_aload_n (i := 0) dX9_init_71 rfl rfl rfl) ?_
  refine Go.st (k_new (q := 27) (h1 := zz80) (kc1 := 27) (ks1 := 353) (N := 4) dX9_init_72 rfl (by decide) (r := (RX3, TX3, 4)) rfl rfl tyX3_ok df3 q180 q181 q7 ⟨by decide, by decide⟩ rfl rfl (by decide +kernel) rfl) ?_
  refine Go.st (r_dup dX9_init_75 rfl rfl) ?_
  refine Go.st (r_callIN (as := []) (st := [.ref 27, .ref 0]) (kc1 := 29) (ks1 := 513) mk8_X3_init mi_X3_init (List.mem_of_getElem? (i := 1) rfl) ⟨by decide, by decide⟩ ⟨by decide, by decide⟩ (by decide) dX9_init_76 rfl rfl rfl rfl rfl) ?_
  refine Go.st (k_put (h1 := zz87) (r_putRF dX9_init_79 rfl fl_X9_43 (n := 0) (by decide +kernel) (by decide +kernel) rfl fwF_9_5 (fun _ => rfl) (fun _ => rfl) rfl (fun r hr => by cases hr; rfl)) rfl) ?_
  refine Go.st (r_aload_n (i := 0) dX9_init_82 rfl rfl rfl) ?_
  refine Go.st (k_new (q := 30) (h1 := zz88) (kc1 := 30) (ks1 := 517) (N := 4) dX9_init_83 rfl (by decide) (r := (RX5, TX5, 4)) rfl rfl tyX5_ok df5 q202 q203 q8 ⟨by decide, by decide⟩ rfl rfl (by decide +kernel) rfl) ?_
  refine Go.st (r_dup dX9_init_86 rfl rfl) ?_
  refine Go.st (r_callIN (as := []) (st := [.ref 30, .ref 0]) (kc1 := 33) (ks1 := 535) mk9_X5_init mi_X5_init (List.mem_of_getElem? (i := 2) rfl) ⟨by decide, by decide⟩ ⟨by decide, by decide⟩ (by decide) dX9_init_87 rfl rfl rfl rfl rfl) ?_
  refine Go.st (k_put (h1 := zz96) (r_putRF dX9_init_90 rfl fl_X9_50 (n := 0) (by decide +kernel) (by decide +kernel) rfl fwF_9_6 (fun _ => rfl) (fun _ => rfl) rfl (fun r hr => by cases hr; rfl)) rfl) ?_
  refine Go.st (r_aload_n (i := 0) dX9_init_93 rfl rfl rfl) ?_
  refine Go.st (r_iconst (v := 2) dX9_init_94 rfl kI_2) ?_
  refine Go.st (k_newR (C := RX7) (tag := 14) (t0 := 3) (q := 34) (h1 := zz97) (kc1 := 34) (ks1 := 537) (N := 2) dX9_init_95 rfl (by decide) (fun _ => rfl) (Or.inl rfl) q28 (by decide) rfl (by decide) ⟨by decide, by decide⟩ rfl rfl (by decide +kernel) rfl) ?_
  refine Go.st (k_put (h1 := zz98) (r_putRF dX9_init_98 rfl fl_X9_54 (n := 0) (by decide +kernel) (by decide +kernel) rfl fwF_9_7 (fun _ => rfl) (fun _ => rfl) rfl (fun r hr => by cases hr; rfl)) rfl) ?_
  refine Go.st (r_aload_n (i := 0) dX9_init_101 rfl rfl rfl) ?_
  refine Go.st (r_iconst (v := 2) dX9_init_102 rfl kI_2) ?_
  refine Go.st (k_newZ (q := 35) (h1 := zz99) (kc1 := 35) (ks1 := 539) (N := 2) dX9_init_103 rfl q238 (by decide) rfl (by decide) ⟨by decide, by decide⟩ rfl rfl (by decide +kernel) rfl) ?_
  refine Go.st (k_put (h1 := zz100) (r_putRF dX9_init_105 rfl fl_X9_58 (n := 0) (by decide +kernel) (by decide +kernel) rfl fwF_9_8 (fun _ => rfl) (fun _ => rfl) rfl (fun r hr => by cases hr; rfl)) rfl) ?_
  refine Go.st (r_iconst (v := 0) dX9_init_108 rfl kI_0) ?_
  refine Go.st (r_istore_n (i := 1) (L1 := [some (.ref 0), some (.int (0 : Int32))]) dX9_init_109 rfl rfl (by decide) rfl) ?_
  refine Go.st (r_iload_n (i := 1) dX9_init_110 rfl rfl rfl) ?_
  refine Go.st (r_iconst (v := 2) dX9_init_111 rfl kI_2) ?_
  refine Go.br (r_icmp_ge (tgt := 134) dX9_init_112 rfl (by decide)) (fun c => absurd c (by decide)) (fun _ => ?_)
  refine Go.st (r_aload_n (i := 0) dX9_init_115 rfl rfl rfl) ?_
  refine Go.st (r_getR (b := 34) dX9_init_116 rfl fl_X9_54 (n := 0) (by decide +kernel) (by decide +kernel) rfl (by decide +kernel)) ?_
  refine Go.st (r_iload_n (i := 1) dX9_init_119 rfl rfl rfl) ?_
  refine Go.st (k_new (q := 36) (h1 := zz101) (kc1 := 36) (ks1 := 551) (N := 12) dX9_init_120 rfl (by decide) (r := (RX7, TX7, 12)) rfl rfl tyX7_ok df7 q28 q29 q2 ⟨by decide, by decide⟩ rfl rfl (by decide +kernel) rfl) ?_
  refine Go.st (r_dup dX9_init_123 rfl rfl) ?_
  refine Go.st (r_callI (as := []) (st := [.ref 36, .int (0 : Int32), .ref 34]) (kc1 := 44) (ks1 := 689) mk10_X7_init mi_X7_init q30 ⟨by decide, by decide⟩ ⟨by decide, by decide⟩ (by decide) dX9_init_124 rfl rfl rfl rfl rfl) ?_
  refine Go.st (k_put (h1 := zz123) (r_aastore (tag := 14) (t0 := 3) (ct := 7) (n := 2) (vn := 0) (r := (RX7, TX7, 12)) dX9_init_127 rfl (by decide) (fun _ => rfl) rfl (by decide) (by decide +kernel) (by decide +kernel) (by decide +kernel) (by decide +kernel) (inR_in (by decide))) rfl) ?_
  refine Go.st (r_iinc (v := 1) (L1 := [some (.ref 0), some (.int (1 : Int32))]) dX9_init_128 rfl rfl (by decide) (by decide) rfl) ?_
  refine Go.st (r_goto (pc1 := 110) dX9_init_131 (by decide)) ?_
  refine Go.st (r_iload_n (i := 1) dX9_init_110 rfl rfl rfl) ?_
  refine Go.st (r_iconst (v := 2) dX9_init_111 rfl kI_2) ?_
  refine Go.br (r_icmp_ge (tgt := 134) dX9_init_112 rfl (by decide)) (fun c => absurd c (by decide)) (fun _ => ?_)
  refine Go.st (r_aload_n (i := 0) dX9_init_115 rfl rfl rfl) ?_
  refine Go.st (r_getR (b := 34) dX9_init_116 rfl fl_X9_54 (n := 0) (by decide +kernel) (by decide +kernel) rfl (by decide +kernel)) ?_
  refine Go.st (r_iload_n (i := 1) dX9_init_119 rfl rfl rfl) ?_
  refine Go.st (k_new (q := 45) (h1 := zz124) (kc1 := 45) (ks1 := 701) (N := 12) dX9_init_120 rfl (by decide) (r := (RX7, TX7, 12)) rfl rfl tyX7_ok df7 q28 q29 q2 ⟨by decide, by decide⟩ rfl rfl (by decide +kernel) rfl) ?_
  refine Go.st (r_dup dX9_init_123 rfl rfl) ?_
  refine Go.st (r_callI (as := []) (st := [.ref 45, .int (1 : Int32), .ref 34]) (kc1 := 53) (ks1 := 839) mk11_X7_init mi_X7_init q30 ⟨by decide, by decide⟩ ⟨by decide, by decide⟩ (by decide) dX9_init_124 rfl rfl rfl rfl rfl) ?_
  refine Go.st (k_put (h1 := zz146) (r_aastore (tag := 14) (t0 := 3) (ct := 7) (n := 2) (vn := 0) (r := (RX7, TX7, 12)) dX9_init_127 rfl (by decide) (fun _ => rfl) rfl (by decide) (by decide +kernel) (by decide +kernel) (by decide +kernel) (by decide +kernel) (inR_in (by decide))) rfl) ?_
  refine Go.st (r_iinc (v := 2) (L1 := [some (.ref 0), some (.int (2 : Int32))]) dX9_init_128 rfl rfl (by decide) (by decide) rfl) ?_
  refine Go.st (r_goto (pc1 := 110) dX9_init_131 (by decide)) ?_
  refine Go.st (r_iload_n (i := 1) dX9_init_110 rfl rfl rfl) ?_
  refine Go.st (r_iconst (v := 2) dX9_init_111 rfl kI_2) ?_
  refine Go.br (r_icmp_ge (tgt := 134) dX9_init_112 rfl (by decide)) (fun _ => ?_) (fun c => absurd (by decide) c)
  refine Go.st (r_aload_n (i := 0) dX9_init_134 rfl rfl rfl) ?_
  refine Go.st (k_new (q := 54) (h1 := zz147) (kc1 := 54) (ks1 := 841) (N := 2) dX9_init_135 rfl (by decide) (r := (RX8, TX8, 2)) rfl rfl tyX8_ok df8 q223 q224 q9 ⟨by decide, by decide⟩ rfl rfl (by decide +kernel) rfl) ?_
  refine Go.st (r_dup dX9_init_138 rfl rfl) ?_
  refine Go.st (r_callIN (as := []) (st := [.ref 54, .ref 0]) (kc1 := 55) (ks1 := 1001) mk12_X8_init mi_X8_init (List.mem_of_getElem? (i := 3) rfl) ⟨by decide, by decide⟩ ⟨by decide, by decide⟩ (by decide) dX9_init_139 rfl rfl rfl rfl rfl) ?_
  refine Go.st (k_put (h1 := zz151) (r_putRF dX9_init_142 rfl fl_X9_65 (n := 0) (by decide +kernel) (by decide +kernel) rfl fwF_9_9 (fun _ => rfl) (fun _ => rfl) rfl (fun r hr => by cases hr; rfl)) rfl) ?_
  refine Go.st (r_aload_n (i := 0) dX9_init_145 rfl rfl rfl) ?_
  refine Go.st (k_new (q := 56) (h1 := zz152) (kc1 := 56) (ks1 := 1009) (N := 8) dX9_init_146 rfl (by decide) (r := (RX4, TX4, 8)) rfl rfl tyX4_ok df4 q239 q240 q10 ⟨by decide, by decide⟩ rfl rfl (by decide +kernel) rfl) ?_
  refine Go.st (r_dup dX9_init_149 rfl rfl) ?_
  refine Go.st (r_aload_n (i := 0) dX9_init_150 rfl rfl rfl) ?_
  refine Go.st (r_getR (b := 54) dX9_init_151 rfl fl_X9_65 (n := 0) (by decide +kernel) (by decide +kernel) rfl (by decide +kernel)) ?_
  refine Go.st (r_callI (as := [.ref 54]) (st := [.ref 56, .ref 0]) (kc1 := 65) (ks1 := 1159) mk14_X4_init mi_X4_init q241 ⟨by decide, by decide⟩ ⟨by decide, by decide⟩ (by decide) dX9_init_154 rfl rfl rfl rfl rfl) ?_
  refine Go.st (k_put (h1 := zz183) (r_putRF dX9_init_157 rfl fl_X9_74 (n := 0) (by decide +kernel) (by decide +kernel) rfl fwF_9_10 (fun _ => rfl) (fun _ => rfl) rfl (fun r hr => by cases hr; rfl)) rfl) ?_
  refine Go.st (r_aload_n (i := 0) dX9_init_160 rfl rfl rfl) ?_
  refine Go.st (r_iconst (v := 0) dX9_init_161 rfl kI_0) ?_
  refine Go.st (k_put (h1 := zz184) (r_putI dX9_init_162 rfl fl_X9_78 (n := 0) (by decide +kernel) (by decide +kernel) rfl fw_9_11 rfl rfl) rfl) ?_
  refine Go.st (r_aload_n (i := 0) dX9_init_165 rfl rfl rfl) ?_
  refine Go.st (r_iconst (v := 4) dX9_init_166 rfl kI_4) ?_
  refine Go.st (k_newR (C := RX6) (tag := 15) (t0 := 4) (q := 66) (h1 := zz185) (kc1 := 66) (ks1 := 1163) (N := 4) dX9_init_167 rfl (by decide) (fun _ => rfl) (Or.inr rfl) q274 (by decide) rfl (by decide) ⟨by decide, by decide⟩ rfl rfl (by decide +kernel) rfl) ?_
  refine Go.st (k_put (h1 := zz186) (r_putRF dX9_init_170 rfl fl_X9_84 (n := 0) (by decide +kernel) (by decide +kernel) rfl fwF_9_12 (fun _ => rfl) (fun _ => rfl) rfl (fun r hr => by cases hr; rfl)) rfl) ?_
  refine Go.st (r_iconst (v := 0) dX9_init_173 rfl kI_0) ?_
  refine Go.st (r_istore_n (i := 1) (L1 := [some (.ref 0), some (.int (0 : Int32))]) dX9_init_174 rfl rfl (by decide) rfl) ?_
  refine Go.st (r_iload_n (i := 1) dX9_init_175 rfl rfl rfl) ?_
  refine Go.st (r_iconst (v := 4) dX9_init_176 rfl kI_4) ?_
  refine Go.br (r_icmp_ge (tgt := 199) dX9_init_177 rfl (by decide)) (fun c => absurd c (by decide)) (fun _ => ?_)
  refine Go.st (r_aload_n (i := 0) dX9_init_180 rfl rfl rfl) ?_
  refine Go.st (r_getR (b := 66) dX9_init_181 rfl fl_X9_84 (n := 0) (by decide +kernel) (by decide +kernel) rfl (by decide +kernel)) ?_
  refine Go.st (r_iload_n (i := 1) dX9_init_184 rfl rfl rfl) ?_
  refine Go.st (k_new (q := 67) (h1 := zz187) (kc1 := 67) (ks1 := 1166) (N := 3) dX9_init_185 rfl (by decide) (r := (RX6, TX6, 3)) rfl rfl tyX6_ok df6 q274 q276 q11 ⟨by decide, by decide⟩ rfl rfl (by decide +kernel) rfl) ?_
  refine Go.st (r_dup dX9_init_188 rfl rfl) ?_
  refine Go.st (r_callIN (as := []) (st := [.ref 67, .int (0 : Int32), .ref 66]) (kc1 := 68) (ks1 := 1206) mk15_X6_init mi_X6_init (List.mem_of_getElem? (i := 4) rfl) ⟨by decide, by decide⟩ ⟨by decide, by decide⟩ (by decide) dX9_init_189 rfl rfl rfl rfl rfl) ?_
  refine Go.st (k_put (h1 := zz192) (r_aastore (tag := 15) (t0 := 4) (ct := 6) (n := 4) (vn := 0) (r := (RX6, TX6, 3)) dX9_init_192 rfl (by decide) (fun _ => rfl) rfl (by decide) (by decide +kernel) (by decide +kernel) (by decide +kernel) (by decide +kernel) (inR_in (by decide))) rfl) ?_
  refine Go.st (r_iinc (v := 1) (L1 := [some (.ref 0), some (.int (1 : Int32))]) dX9_init_193 rfl rfl (by decide) (by decide) rfl) ?_
  refine Go.st (r_goto (pc1 := 175) dX9_init_196 (by decide)) ?_
  refine Go.st (r_iload_n (i := 1) dX9_init_175 rfl rfl rfl) ?_
  refine Go.st (r_iconst (v := 4) dX9_init_176 rfl kI_4) ?_
  refine Go.br (r_icmp_ge (tgt := 199) dX9_init_177 rfl (by decide)) (fun c => absurd c (by decide)) (fun _ => ?_)
  refine Go.st (r_aload_n (i := 0) dX9_init_180 rfl rfl rfl) ?_
  refine Go.st (r_getR (b := 66) dX9_init_181 rfl fl_X9_84 (n := 0) (by decide +kernel) (by decide +kernel) rfl (by decide +kernel)) ?_
  refine Go.st (r_iload_n (i := 1) dX9_init_184 rfl rfl rfl) ?_
  refine Go.st (k_new (q := 69) (h1 := zz193) (kc1 := 69) (ks1 := 1209) (N := 3) dX9_init_185 rfl (by decide) (r := (RX6, TX6, 3)) rfl rfl tyX6_ok df6 q274 q276 q11 ⟨by decide, by decide⟩ rfl rfl (by decide +kernel) rfl) ?_
  refine Go.st (r_dup dX9_init_188 rfl rfl) ?_
  refine Go.st (r_callIN (as := []) (st := [.ref 69, .int (1 : Int32), .ref 66]) (kc1 := 70) (ks1 := 1249) mk16_X6_init mi_X6_init (List.mem_of_getElem? (i := 4) rfl) ⟨by decide, by decide⟩ ⟨by decide, by decide⟩ (by decide) dX9_init_189 rfl rfl rfl rfl rfl) ?_
  refine Go.st (k_put (h1 := zz198) (r_aastore (tag := 15) (t0 := 4) (ct := 6) (n := 4) (vn := 0) (r := (RX6, TX6, 3)) dX9_init_192 rfl (by decide) (fun _ => rfl) rfl (by decide) (by decide +kernel) (by decide +kernel) (by decide +kernel) (by decide +kernel) (inR_in (by decide))) rfl) ?_
  refine Go.st (r_iinc (v := 2) (L1 := [some (.ref 0), some (.int (2 : Int32))]) dX9_init_193 rfl rfl (by decide) (by decide) rfl) ?_
  refine Go.st (r_goto (pc1 := 175) dX9_init_196 (by decide)) ?_
  refine Go.st (r_iload_n (i := 1) dX9_init_175 rfl rfl rfl) ?_
  refine Go.st (r_iconst (v := 4) dX9_init_176 rfl kI_4) ?_
  refine Go.br (r_icmp_ge (tgt := 199) dX9_init_177 rfl (by decide)) (fun c => absurd c (by decide)) (fun _ => ?_)
  refine Go.st (r_aload_n (i := 0) dX9_init_180 rfl rfl rfl) ?_
  refine Go.st (r_getR (b := 66) dX9_init_181 rfl fl_X9_84 (n := 0) (by decide +kernel) (by decide +kernel) rfl (by decide +kernel)) ?_
  refine Go.st (r_iload_n (i := 1) dX9_init_184 rfl rfl rfl) ?_
  refine Go.st (k_new (q := 71) (h1 := zz199) (kc1 := 71) (ks1 := 1252) (N := 3) dX9_init_185 rfl (by decide) (r := (RX6, TX6, 3)) rfl rfl tyX6_ok df6 q274 q276 q11 ⟨by decide, by decide⟩ rfl rfl (by decide +kernel) rfl) ?_
  refine Go.st (r_dup dX9_init_188 rfl rfl) ?_
  refine Go.st (r_callIN (as := []) (st := [.ref 71, .int (2 : Int32), .ref 66]) (kc1 := 72) (ks1 := 1292) mk17_X6_init mi_X6_init (List.mem_of_getElem? (i := 4) rfl) ⟨by decide, by decide⟩ ⟨by decide, by decide⟩ (by decide) dX9_init_189 rfl rfl rfl rfl rfl) ?_
  refine Go.st (k_put (h1 := zz204) (r_aastore (tag := 15) (t0 := 4) (ct := 6) (n := 4) (vn := 0) (r := (RX6, TX6, 3)) dX9_init_192 rfl (by decide) (fun _ => rfl) rfl (by decide) (by decide +kernel) (by decide +kernel) (by decide +kernel) (by decide +kernel) (inR_in (by decide))) rfl) ?_
  refine Go.st (r_iinc (v := 3) (L1 := [some (.ref 0), some (.int (3 : Int32))]) dX9_init_193 rfl rfl (by decide) (by decide) rfl) ?_
  refine Go.st (r_goto (pc1 := 175) dX9_init_196 (by decide)) ?_
  refine Go.st (r_iload_n (i := 1) dX9_init_175 rfl rfl rfl) ?_
  refine Go.st (r_iconst (v := 4) dX9_init_176 rfl kI_4) ?_
  refine Go.br (r_icmp_ge (tgt := 199) dX9_init_177 rfl (by decide)) (fun c => absurd c (by decide)) (fun _ => ?_)
  refine Go.st (r_aload_n (i := 0) dX9_init_180 rfl rfl rfl) ?_
  refine Go.st (r_getR (b := 66) dX9_init_181 rfl fl_X9_84 (n := 0) (by decide +kernel) (by decide +kernel) rfl (by decide +kernel)) ?_
  refine Go.st (r_iload_n (i := 1) dX9_init_184 rfl rfl rfl) ?_
  refine Go.st (k_new (q := 73) (h1 := zz205) (kc1 := 73) (ks1 := 1295) (N := 3) dX9_init_185 rfl (by decide) (r := (RX6, TX6, 3)) rfl rfl tyX6_ok df6 q274 q276 q11 ⟨by decide, by decide⟩ rfl rfl (by decide +kernel) rfl) ?_
  refine Go.st (r_dup dX9_init_188 rfl rfl) ?_
  refine Go.st (r_callIN (as := []) (st := [.ref 73, .int (3 : Int32), .ref 66]) (kc1 := 74) (ks1 := 1335) mk18_X6_init mi_X6_init (List.mem_of_getElem? (i := 4) rfl) ⟨by decide, by decide⟩ ⟨by decide, by decide⟩ (by decide) dX9_init_189 rfl rfl rfl rfl rfl) ?_
  refine Go.st (k_put (h1 := zz210) (r_aastore (tag := 15) (t0 := 4) (ct := 6) (n := 4) (vn := 0) (r := (RX6, TX6, 3)) dX9_init_192 rfl (by decide) (fun _ => rfl) rfl (by decide) (by decide +kernel) (by decide +kernel) (by decide +kernel) (by decide +kernel) (inR_in (by decide))) rfl) ?_
  refine Go.st (r_iinc (v := 4) (L1 := [some (.ref 0), some (.int (4 : Int32))]) dX9_init_193 rfl rfl (by decide) (by decide) rfl) ?_
  refine Go.st (r_goto (pc1 := 175) dX9_init_196 (by decide)) ?_
  refine Go.st (r_iload_n (i := 1) dX9_init_175 rfl rfl rfl) ?_
  refine Go.st (r_iconst (v := 4) dX9_init_176 rfl kI_4) ?_
  refine Go.br (r_icmp_ge (tgt := 199) dX9_init_177 rfl (by decide)) (fun _ => ?_) (fun c => absurd (by decide) c)
  refine Go.st (r_aload_n (i := 0) dX9_init_199 rfl rfl rfl) ?_
  refine Go.st (r_iconst (v := 0) dX9_init_200 rfl kI_0) ?_
  refine Go.st (k_put (h1 := zz211) (r_putI dX9_init_201 rfl fl_X9_89 (n := 0) (by decide +kernel) (by decide +kernel) rfl fw_9_13 rfl rfl) rfl) ?_
  exact g_vret rfl rfl rfl dX9_init_204 ⟨rfl, rfl⟩
def M_X10_init : Ms := (yX10_init, cX10_init, 1, none, 1, 12, 12, 720)
theorem mi_X10_init : MI M_X10_init 0 := ⟨⟨q985, q12, by decide, by decide, by decide +kernel⟩, q984, rfl, rfl⟩
set_option maxRecDepth 20000 in
theorem mk20_X10_init : EvD M_X10_init [.ref 75] zz212 none zz276 := by
  refine EvM.of (by decide +kernel) (Nat.le_of_ble_eq_true rfl) ?_
  show Go M_X10_init _ 0 0 0 [some (.ref 75)] [] zz212
  refine Go.st (r_aload_n (i := 0) dX10_init_0 rfl rfl rfl) ?_
  refine Go.st (r_objInit q986 q26 q27 (by decide) (by decide) dX10_init_1 rfl) ?_
  refine Go.st (r_aload_n (i := 0) dX10_init_4 rfl rfl rfl) ?_
  refine Go.st (r_sipush (v := 205) dX10_init_5 rfl kS_205) ?_
  refine Go.st (k_newI (q := 76) (h1 := zz213) (kc1 := 1) (ks1 := 205) (N := 205) dX10_init_8 rfl q106 (by decide) rfl (by decide) ⟨by decide, by decide⟩ rfl rfl (by decide +kernel) rfl) ?_
  refine Go.st (k_put (h1 := zz214) (r_putRF dX10_init_10 rfl fl_X10_7 (n := 0) (by decide +kernel) (by decide +kernel) rfl fwF_10_0 (fun _ => rfl) (fun _ => rfl) rfl (fun r hr => by cases hr; rfl)) rfl) ?_
  refine Go.st (r_aload_n (i := 0) dX10_init_13 rfl rfl rfl) ?_
  refine Go.st (r_bipush (v := 41) dX10_init_14 rfl kB_41) ?_
  refine Go.st (k_newI (q := 77) (h1 := zz215) (kc1 := 2) (ks1 := 246) (N := 41) dX10_init_16 rfl q106 (by decide) rfl (by decide) ⟨by decide, by decide⟩ rfl rfl (by decide +kernel) rfl) ?_
  refine Go.st (k_put (h1 := zz216) (r_putRF dX10_init_18 rfl fl_X10_13 (n := 0) (by decide +kernel) (by decide +kernel) rfl fwF_10_2 (fun _ => rfl) (fun _ => rfl) rfl (fun r hr => by cases hr; rfl)) rfl) ?_
  refine Go.st (r_aload_n (i := 0) dX10_init_21 rfl rfl rfl) ?_
  refine Go.st (r_sipush (v := 160) dX10_init_22 rfl kS_160) ?_
  refine Go.st (k_newI (q := 78) (h1 := zz217) (kc1 := 3) (ks1 := 406) (N := 160) dX10_init_25 rfl q106 (by decide) rfl (by decide) ⟨by decide, by decide⟩ rfl rfl (by decide +kernel) rfl) ?_
  refine Go.st (k_put (h1 := zz218) (r_putRF dX10_init_27 rfl fl_X10_16 (n := 0) (by decide +kernel) (by decide +kernel) rfl fwF_10_5 (fun _ => rfl) (fun _ => rfl) rfl (fun r hr => by cases hr; rfl)) rfl) ?_
  refine Go.st (r_aload_n (i := 0) dX10_init_30 rfl rfl rfl) ?_
  refine Go.st (r_bipush (v := 8) dX10_init_31 rfl kB_8) ?_
  refine Go.st (k_newI (q := 79) (h1 := zz219) (kc1 := 4) (ks1 := 414) (N := 8) dX10_init_33 rfl q106 (by decide) rfl (by decide) ⟨by decide, by decide⟩ rfl rfl (by decide +kernel) rfl) ?_
  refine Go.st (r_dup dX10_init_35 rfl rfl) ?_
  refine Go.st (r_iconst (v := 0) dX10_init_36 rfl kI_0) ?_
  refine Go.st (r_iconst (v := 0) dX10_init_37 rfl kI_0) ?_
  refine Go.st (k_put (h1 := zz220) (r_iastore (n := 8) dX10_init_38 rfl (by decide +kernel) (by decide +kernel) (inR_in (by decide))) rfl) ?_
  refine Go.st (r_dup dX10_init_39 rfl rfl) ?_
  refine Go.st (r_iconst (v := 1) dX10_init_40 rfl kI_1) ?_
  refine Go.st (r_iconst (v := 5) dX10_init_41 rfl kI_5) ?_
  refine Go.st (k_put (h1 := zz221) (r_iastore (n := 8) dX10_init_42 rfl (by decide +kernel) (by decide +kernel) (inR_in (by decide))) rfl) ?_
  refine Go.st (r_dup dX10_init_43 rfl rfl) ?_
  refine Go.st (r_iconst (v := 2) dX10_init_44 rfl kI_2) ?_
  refine Go.st (r_bipush (v := 8) dX10_init_45 rfl kB_8) ?_
  refine Go.st (k_put (h1 := zz222) (r_iastore (n := 8) dX10_init_47 rfl (by decide +kernel) (by decide +kernel) (inR_in (by decide))) rfl) ?_
  refine Go.st (r_dup dX10_init_48 rfl rfl) ?_
  refine Go.st (r_iconst (v := 3) dX10_init_49 rfl kI_3) ?_
  refine Go.st (r_bipush (v := 13) dX10_init_50 rfl kB_13) ?_
  refine Go.st (k_put (h1 := zz223) (r_iastore (n := 8) dX10_init_52 rfl (by decide +kernel) (by decide +kernel) (inR_in (by decide))) rfl) ?_
  refine Go.st (r_dup dX10_init_53 rfl rfl) ?_
  refine Go.st (r_iconst (v := 4) dX10_init_54 rfl kI_4) ?_
  refine Go.st (r_bipush (v := 17) dX10_init_55 rfl kB_17) ?_
  refine Go.st (k_put (h1 := zz224) (r_iastore (n := 8) dX10_init_57 rfl (by decide +kernel) (by decide +kernel) (inR_in (by decide))) rfl) ?_
  refine Go.st (r_dup dX10_init_58 rfl rfl) ?_
  refine Go.st (r_iconst (v := 5) dX10_init_59 rfl kI_5) ?_
  refine Go.st (r_bipush (v := 20) dX10_init_60 rfl kB_20) ?_
  refine Go.st (k_put (h1 := zz225) (r_iastore (n := 8) dX10_init_62 rfl (by decide +kernel) (by decide +kernel) (inR_in (by decide))) rfl) ?_
  refine Go.st (r_dup dX10_init_63 rfl rfl) ?_
  refine Go.st (r_bipush (v := 6) dX10_init_64 rfl kB_6) ?_
  refine Go.st (r_bipush (v := 24) dX10_init_66 rfl kB_24) ?_
  refine Go.st (k_put (h1 := zz226) (r_iastore (n := 8) dX10_init_68 rfl (by decide +kernel) (by decide +kernel) (inR_in (by decide))) rfl) ?_
  refine Go.st (r_dup dX10_init_69 rfl rfl) ?_
  refine Go.st (r_bipush (v := 7) dX10_init_70 rfl kB_7) ?_
  refine Go.st (r_bipush (v := 28) dX10_init_72 rfl kB_28) ?_
  refine Go.st (k_put (h1 := zz227) (r_iastore (n := 8) dX10_init_74 rfl (by decide +kernel) (by decide +kernel) (inR_in (by decide))) rfl) ?_
  refine Go.st (k_put (h1 := zz228) (r_putRF dX10_init_75 rfl fl_X10_19 (n := 0) (by decide +kernel) (by decide +kernel) rfl fwF_10_14 (fun _ => rfl) (fun _ => rfl) rfl (fun r hr => by cases hr; rfl)) rfl) ?_
  refine Go.st (r_aload_n (i := 0) dX10_init_78 rfl rfl rfl) ?_
  refine Go.st (r_bipush (v := 28) dX10_init_79 rfl kB_28) ?_
  refine Go.st (k_newI (q := 80) (h1 := zz229) (kc1 := 5) (ks1 := 442) (N := 28) dX10_init_81 rfl q106 (by decide) rfl (by decide) ⟨by decide, by decide⟩ rfl rfl (by decide +kernel) rfl) ?_
  refine Go.st (r_dup dX10_init_83 rfl rfl) ?_
  refine Go.st (r_iconst (v := 0) dX10_init_84 rfl kI_0) ?_
  refine Go.st (r_bipush (v := 112) dX10_init_85 rfl kB_112) ?_
  refine Go.st (k_put (h1 := zz230) (r_iastore (n := 28) dX10_init_87 rfl (by decide +kernel) (by decide +kernel) (inR_in (by decide))) rfl) ?_
  refine Go.st (r_dup dX10_init_88 rfl rfl) ?_
  refine Go.st (r_iconst (v := 1) dX10_init_89 rfl kI_1) ?_
  refine Go.st (r_bipush (v := 108) dX10_init_90 rfl kB_108) ?_
  refine Go.st (k_put (h1 := zz231) (r_iastore (n := 28) dX10_init_92 rfl (by decide +kernel) (by decide +kernel) (inR_in (by decide))) rfl) ?_
  refine Go.st (r_dup dX10_init_93 rfl rfl) ?_
  refine Go.st (r_iconst (v := 2) dX10_init_94 rfl kI_2) ?_
  refine Go.st (r_bipush (v := 97) dX10_init_95 rfl kB_97) ?_
  refine Go.st (k_put (h1 := zz232) (r_iastore (n := 28) dX10_init_97 rfl (by decide +kernel) (by decide +kernel) (inR_in (by decide))) rfl) ?_
  refine Go.st (r_dup dX10_init_98 rfl rfl) ?_
  refine Go.st (r_iconst (v := 3) dX10_init_99 rfl kI_3) ?_
  refine Go.st (r_bipush (v := 105) dX10_init_100 rfl kB_105) ?_
  refine Go.st (k_put (h1 := zz233) (r_iastore (n := 28) dX10_init_102 rfl (by decide +kernel) (by decide +kernel) (inR_in (by decide))) rfl) ?_
  refine Go.st (r_dup dX10_init_103 rfl rfl) ?_
  refine Go.st (r_iconst (v := 4) dX10_init_104 rfl kI_4) ?_
  refine Go.st (r_bipush (v := 110) dX10_init_105 rfl kB_110) ?_
  refine Go.st (k_put (h1 := zz234) (r_iastore (n := 28) dX10_init_107 rfl (by decide +kernel) (by decide +kernel) (inR_in (by decide))) rfl) ?_
  refine Go.st (r_dup dX10_init_108 rfl rfl) ?_
  refine Go.st (r_iconst (v := 5) dX10_init_109 rfl kI_5) ?_
  refine Go.st (r_bipush (v := 102) dX10_init_110 rfl kB_102) ?_
  refine Go.st (k_put (h1 := zz235) (r_iastore (n := 28) dX10_init_112 rfl (by decide +kernel) (by decide +kernel) (inR_in (by decide))) rfl) ?_
  refine Go.st (r_dup dX10_init_113 rfl rfl) ?_
  refine Go.st (r_bipush (v := 6) dX10_init_114 rfl kB_6) ?_
  refine Go.st (r_bipush (v := 97) dX10_init_116 rfl kB_97) ?_
  refine Go.st (k_put (h1 := zz236) (r_iastore (n := 28) dX10_init_118 rfl (by decide +kernel) (by decide +kernel) (inR_in (by decide))) rfl) ?_
  refine Go.st (r_dup dX10_init_119 rfl rfl) ?_
  refine Go.st (r_bipush (v := 7) dX10_init_120 rfl kB_7) ?_
  refine Go.st (r_bipush (v := 116) dX10_init_122 rfl kB_116) ?_
  refine Go.st (k_put (h1 := zz237) (r_iastore (n := 28) dX10_init_124 rfl (by decide +kernel) (by decide +kernel) (inR_in (by decide))) rfl) ?_
  refine Go.st (r_dup dX10_init_125 rfl rfl) ?_
  refine Go.st (r_bipush (v := 8) dX10_init_126 rfl kB_8) ?_
  refine Go.st (r_bipush (v := 121) dX10_init_128 rfl kB_121) ?_
  refine Go.st (k_put (h1 := zz238) (r_iastore (n := 28) dX10_init_130 rfl (by decide +kernel) (by decide +kernel) (inR_in (by decide))) rfl) ?_
  refine Go.st (r_dup dX10_init_131 rfl rfl) ?_
  refine Go.st (r_bipush (v := 9) dX10_init_132 rfl kB_9) ?_
  refine Go.st (r_bipush (v := 111) dX10_init_134 rfl kB_111) ?_
  refine Go.st (k_put (h1 := zz239) (r_iastore (n := 28) dX10_init_136 rfl (by decide +kernel) (by decide +kernel) (inR_in (by decide))) rfl) ?_
  refine Go.st (r_dup dX10_init_137 rfl rfl) ?_
  refine Go.st (r_bipush (v := 10) dX10_init_138 rfl kB_10) ?_
  refine Go.st (r_bipush (v := 117) dX10_init_140 rfl kB_117) ?_
  refine Go.st (k_put (h1 := zz240) (r_iastore (n := 28) dX10_init_142 rfl (by decide +kernel) (by decide +kernel) (inR_in (by decide))) rfl) ?_
  refine Go.st (r_dup dX10_init_143 rfl rfl) ?_
  refine Go.st (r_bipush (v := 11) dX10_init_144 rfl kB_11) ?_
  refine Go.st (r_bipush (v := 110) dX10_init_146 rfl kB_110) ?_
  refine Go.st (k_put (h1 := zz241) (r_iastore (n := 28) dX10_init_148 rfl (by decide +kernel) (by decide +kernel) (inR_in (by decide))) rfl) ?_
  refine Go.st (r_dup dX10_init_149 rfl rfl) ?_
  refine Go.st (r_bipush (v := 12) dX10_init_150 rfl kB_12) ?_
  refine Go.st (r_bipush (v := 103) dX10_init_152 rfl kB_103) ?_
  refine Go.st (k_put (h1 := zz242) (r_iastore (n := 28) dX10_init_154 rfl (by decide +kernel) (by decide +kernel) (inR_in (by decide))) rfl) ?_
  refine Go.st (r_dup dX10_init_155 rfl rfl) ?_
  refine Go.st (r_bipush (v := 13) dX10_init_156 rfl kB_13) ?_
  refine Go.st (r_bipush (v := 98) dX10_init_158 rfl kB_98) ?_
  refine Go.st (k_put (h1 := zz243) (r_iastore (n := 28) dX10_init_160 rfl (by decide +kernel) (by decide +kernel) (inR_in (by decide))) rfl) ?_
  refine Go.st (r_dup dX10_init_161 rfl rfl) ?_
  refine Go.st (r_bipush (v := 14) dX10_init_162 rfl kB_14) ?_
  refine Go.st (r_bipush (v := 111) dX10_init_164 rfl kB_111) ?_
  refine Go.st (k_put (h1 := zz244) (r_iastore (n := 28) dX10_init_166 rfl (by decide +kernel) (by decide +kernel) (inR_in (by decide))) rfl) ?_
  refine Go.st (r_dup dX10_init_167 rfl rfl) ?_
  refine Go.st (r_bipush (v := 15) dX10_init_168 rfl kB_15) ?_
  refine Go.st (r_bipush (v := 97) dX10_init_170 rfl kB_97) ?_
  refine Go.st (k_put (h1 := zz245) (r_iastore (n := 28) dX10_init_172 rfl (by decide +kernel) (by decide +kernel) (inR_in (by decide))) rfl) ?_
  refine Go.st (r_dup dX10_init_173 rfl rfl) ?_
  refine Go.st (r_bipush (v := 16) dX10_init_174 rfl kB_16) ?_
  refine Go.st (r_bipush (v := 114) dX10_init_176 rfl kB_114) ?_
  refine Go.st (k_put (h1 := zz246) (r_iastore (n := 28) dX10_init_178 rfl (by decide +kernel) (by decide +kernel) (inR_in (by decide))) rfl) ?_
  refine Go.st (r_dup dX10_init_179 rfl rfl) ?_
  refine Go.st (r_bipush (v := 17) dX10_init_180 rfl kB_17) ?_
  refine Go.st (r_bipush (v := 112) dX10_init_182 rfl kB_112) ?_
  refine Go.st (k_put (h1 := zz247) (r_iastore (n := 28) dX10_init_184 rfl (by decide +kernel) (by decide +kernel) (inR_in (by decide))) rfl) ?_
  refine Go.st (r_dup dX10_init_185 rfl rfl) ?_
  refine Go.st (r_bipush (v := 18) dX10_init_186 rfl kB_18) ?_
  refine Go.st (r_bipush (v := 101) dX10_init_188 rfl kB_101) ?_
  refine Go.st (k_put (h1 := zz248) (r_iastore (n := 28) dX10_init_190 rfl (by decide +kernel) (by decide +kernel) (inR_in (by decide))) rfl) ?_
  refine Go.st (r_dup dX10_init_191 rfl rfl) ?_
  refine Go.st (r_bipush (v := 19) dX10_init_192 rfl kB_19) ?_
  refine Go.st (r_bipush (v := 103) dX10_init_194 rfl kB_103) ?_
  refine Go.st (k_put (h1 := zz249) (r_iastore (n := 28) dX10_init_196 rfl (by decide +kernel) (by decide +kernel) (inR_in (by decide))) rfl) ?_
  refine Go.st (r_dup dX10_init_197 rfl rfl) ?_
  refine Go.st (r_bipush (v := 20) dX10_init_198 rfl kB_20) ?_
  refine Go.st (r_bipush (v := 115) dX10_init_200 rfl kB_115) ?_
  refine Go.st (k_put (h1 := zz250) (r_iastore (n := 28) dX10_init_202 rfl (by decide +kernel) (by decide +kernel) (inR_in (by decide))) rfl) ?_
  refine Go.st (r_dup dX10_init_203 rfl rfl) ?_
  refine Go.st (r_bipush (v := 21) dX10_init_204 rfl kB_21) ?_
  refine Go.st (r_bipush (v := 108) dX10_init_206 rfl kB_108) ?_
  refine Go.st (k_put (h1 := zz251) (r_iastore (n := 28) dX10_init_208 rfl (by decide +kernel) (by decide +kernel) (inR_in (by decide))) rfl) ?_
  refine Go.st (r_dup dX10_init_209 rfl rfl) ?_
  refine Go.st (r_bipush (v := 22) dX10_init_210 rfl kB_22) ?_
  refine Go.st (r_bipush (v := 117) dX10_init_212 rfl kB_117) ?_
  refine Go.st (k_put (h1 := zz252) (r_iastore (n := 28) dX10_init_214 rfl (by decide +kernel) (by decide +kernel) (inR_in (by decide))) rfl) ?_
  refine Go.st (r_dup dX10_init_215 rfl rfl) ?_
  refine Go.st (r_bipush (v := 23) dX10_init_216 rfl kB_23) ?_
  refine Go.st (r_bipush (v := 103) dX10_init_218 rfl kB_103) ?_
  refine Go.st (k_put (h1 := zz253) (r_iastore (n := 28) dX10_init_220 rfl (by decide +kernel) (by decide +kernel) (inR_in (by decide))) rfl) ?_
  refine Go.st (r_dup dX10_init_221 rfl rfl) ?_
  refine Go.st (r_bipush (v := 24) dX10_init_222 rfl kB_24) ?_
  refine Go.st (r_bipush (v := 115) dX10_init_224 rfl kB_115) ?_
  refine Go.st (k_put (h1 := zz254) (r_iastore (n := 28) dX10_init_226 rfl (by decide +kernel) (by decide +kernel) (inR_in (by decide))) rfl) ?_
  refine Go.st (r_dup dX10_init_227 rfl rfl) ?_
  refine Go.st (r_bipush (v := 25) dX10_init_228 rfl kB_25) ?_
  refine Go.st (r_bipush (v := 117) dX10_init_230 rfl kB_117) ?_
  refine Go.st (k_put (h1 := zz255) (r_iastore (n := 28) dX10_init_232 rfl (by decide +kernel) (by decide +kernel) (inR_in (by decide))) rfl) ?_
  refine Go.st (r_dup dX10_init_233 rfl rfl) ?_
  refine Go.st (r_bipush (v := 26) dX10_init_234 rfl kB_26) ?_
  refine Go.st (r_bipush (v := 105) dX10_init_236 rfl kB_105) ?_
  refine Go.st (k_put (h1 := zz256) (r_iastore (n := 28) dX10_init_238 rfl (by decide +kernel) (by decide +kernel) (inR_in (by decide))) rfl) ?_
  refine Go.st (r_dup dX10_init_239 rfl rfl) ?_
  refine Go.st (r_bipush (v := 27) dX10_init_240 rfl kB_27) ?_
  refine Go.st (r_bipush (v := 116) dX10_init_242 rfl kB_116) ?_
  refine Go.st (k_put (h1 := zz257) (r_iastore (n := 28) dX10_init_244 rfl (by decide +kernel) (by decide +kernel) (inR_in (by decide))) rfl) ?_
  refine Go.st (k_put (h1 := zz258) (r_putRF dX10_init_245 rfl fl_X10_22 (n := 0) (by decide +kernel) (by decide +kernel) rfl fwF_10_15 (fun _ => rfl) (fun _ => rfl) rfl (fun r hr => by cases hr; rfl)) rfl) ?_
  refine Go.st (r_aload_n (i := 0) dX10_init_248 rfl rfl rfl) ?_
  refine Go.st (r_bipush (v := 10) dX10_init_249 rfl kB_10) ?_
  refine Go.st (k_newI (q := 81) (h1 := zz259) (kc1 := 6) (ks1 := 452) (N := 10) dX10_init_251 rfl q106 (by decide) rfl (by decide) ⟨by decide, by decide⟩ rfl rfl (by decide +kernel) rfl) ?_
  refine Go.st (k_put (h1 := zz260) (r_putRF dX10_init_253 rfl fl_X10_25 (n := 0) (by decide +kernel) (by decide +kernel) rfl fwF_10_20 (fun _ => rfl) (fun _ => rfl) rfl (fun r hr => by cases hr; rfl)) rfl) ?_
  refine Go.st (r_aload_n (i := 0) dX10_init_256 rfl rfl rfl) ?_
  refine Go.st (r_bipush (v := 18) dX10_init_257 rfl kB_18) ?_
  refine Go.st (k_newI (q := 82) (h1 := zz261) (kc1 := 7) (ks1 := 470) (N := 18) dX10_init_259 rfl q106 (by decide) rfl (by decide) ⟨by decide, by decide⟩ rfl rfl (by decide +kernel) rfl) ?_
  refine Go.st (k_put (h1 := zz262) (r_putRF dX10_init_261 rfl fl_X10_28 (n := 0) (by decide +kernel) (by decide +kernel) rfl fwF_10_21 (fun _ => rfl) (fun _ => rfl) rfl (fun r hr => by cases hr; rfl)) rfl) ?_
  refine Go.st (r_aload_n (i := 0) dX10_init_264 rfl rfl rfl) ?_
  refine Go.st (r_bipush (v := 80) dX10_init_265 rfl kB_80) ?_
  refine Go.st (k_newI (q := 83) (h1 := zz263) (kc1 := 8) (ks1 := 550) (N := 80) dX10_init_267 rfl q106 (by decide) rfl (by decide) ⟨by decide, by decide⟩ rfl rfl (by decide +kernel) rfl) ?_
  refine Go.st (k_put (h1 := zz264) (r_putRF dX10_init_269 rfl fl_X10_31 (n := 0) (by decide +kernel) (by decide +kernel) rfl fwF_10_23 (fun _ => rfl) (fun _ => rfl) rfl (fun r hr => by cases hr; rfl)) rfl) ?_
  refine Go.st (r_aload_n (i := 0) dX10_init_272 rfl rfl rfl) ?_
  refine Go.st (r_iconst (v := 2) dX10_init_273 rfl kI_2) ?_
  refine Go.st (k_newZ (q := 84) (h1 := zz265) (kc1 := 9) (ks1 := 552) (N := 2) dX10_init_274 rfl q238 (by decide) rfl (by decide) ⟨by decide, by decide⟩ rfl rfl (by decide +kernel) rfl) ?_
  refine Go.st (k_put (h1 := zz266) (r_putRF dX10_init_276 rfl fl_X10_34 (n := 0) (by decide +kernel) (by decide +kernel) rfl fwF_10_24 (fun _ => rfl) (fun _ => rfl) rfl (fun r hr => by cases hr; rfl)) rfl) ?_
  refine Go.st (r_aload_n (i := 0) dX10_init_279 rfl rfl rfl) ?_
  refine Go.st (r_iconst (v := 4) dX10_init_280 rfl kI_4) ?_
  refine Go.st (k_newI (q := 85) (h1 := zz267) (kc1 := 10) (ks1 := 556) (N := 4) dX10_init_281 rfl q106 (by decide) rfl (by decide) ⟨by decide, by decide⟩ rfl rfl (by decide +kernel) rfl) ?_
  refine Go.st (r_dup dX10_init_283 rfl rfl) ?_
  refine Go.st (r_iconst (v := 0) dX10_init_284 rfl kI_0) ?_
  refine Go.st (r_bipush (v := -4) dX10_init_285 rfl kB_m4) ?_
  refine Go.st (k_put (h1 := zz268) (r_iastore (n := 4) dX10_init_287 rfl (by decide +kernel) (by decide +kernel) (inR_in (by decide))) rfl) ?_
  refine Go.st (r_dup dX10_init_288 rfl rfl) ?_
  refine Go.st (r_iconst (v := 1) dX10_init_289 rfl kI_1) ?_
  refine Go.st (r_bipush (v := -4) dX10_init_290 rfl kB_m4) ?_
  refine Go.st (k_put (h1 := zz269) (r_iastore (n := 4) dX10_init_292 rfl (by decide +kernel) (by decide +kernel) (inR_in (by decide))) rfl) ?_
  refine Go.st (r_dup dX10_init_293 rfl rfl) ?_
  refine Go.st (r_iconst (v := 2) dX10_init_294 rfl kI_2) ?_
  refine Go.st (r_bipush (v := -4) dX10_init_295 rfl kB_m4) ?_
  refine Go.st (k_put (h1 := zz270) (r_iastore (n := 4) dX10_init_297 rfl (by decide +kernel) (by decide +kernel) (inR_in (by decide))) rfl) ?_
  refine Go.st (r_dup dX10_init_298 rfl rfl) ?_
  refine Go.st (r_iconst (v := 3) dX10_init_299 rfl kI_3) ?_
  refine Go.st (r_bipush (v := -4) dX10_init_300 rfl kB_m4) ?_
  refine Go.st (k_put (h1 := zz271) (r_iastore (n := 4) dX10_init_302 rfl (by decide +kernel) (by decide +kernel) (inR_in (by decide))) rfl) ?_
  refine Go.st (k_put (h1 := zz272) (r_putRF dX10_init_303 rfl fl_X10_38 (n := 0) (by decide +kernel) (by decide +kernel) rfl fwF_10_25 (fun _ => rfl) (fun _ => rfl) rfl (fun r hr => by cases hr; rfl)) rfl) ?_
  refine Go.st (r_aload_n (i := 0) dX10_init_306 rfl rfl rfl) ?_
  refine Go.st (r_iconst (v := 4) dX10_init_307 rfl kI_4) ?_
  refine Go.st (k_newI (q := 86) (h1 := zz273) (kc1 := 11) (ks1 := 560) (N := 4) dX10_init_308 rfl q106 (by decide) rfl (by decide) ⟨by decide, by decide⟩ rfl rfl (by decide +kernel) rfl) ?_
  refine Go.st (k_put (h1 := zz274) (r_putRF dX10_init_310 rfl fl_X10_41 (n := 0) (by decide +kernel) (by decide +kernel) rfl fwF_10_26 (fun _ => rfl) (fun _ => rfl) rfl (fun r hr => by cases hr; rfl)) rfl) ?_
  refine Go.st (r_aload_n (i := 0) dX10_init_313 rfl rfl rfl) ?_
  refine Go.st (r_sipush (v := 160) dX10_init_314 rfl kS_160) ?_
  refine Go.st (k_newI (q := 87) (h1 := zz275) (kc1 := 12) (ks1 := 720) (N := 160) dX10_init_317 rfl q106 (by decide) rfl (by decide) ⟨by decide, by decide⟩ rfl rfl (by decide +kernel) rfl) ?_
  refine Go.st (k_put (h1 := zz276) (r_putRF dX10_init_319 rfl fl_X10_44 (n := 0) (by decide +kernel) (by decide +kernel) rfl fwF_10_27 (fun _ => rfl) (fun _ => rfl) rfl (fun r hr => by cases hr; rfl)) rfl) ?_
  exact g_vret rfl rfl rfl dX10_init_322 ⟨rfl, rfl⟩
