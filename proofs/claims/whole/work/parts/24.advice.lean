def M_X0_told : Ms := (yX0_told, cX0_told, 2, some .int, 0, 0, 0, 0)
theorem mv_X0_told : MV M_X0_told 1 := ⟨⟨q742, q6, by decide, by decide, by decide +kernel⟩, q740, q741⟩
def f_X0_told (a1 : Int32) (σ : Sg) : Int32 :=
  if (σ 25 2) = (-4 : Int32) then
    (-4 : Int32)
  else
    if a1 = 0 then
      (σ 25 2)
    else
      (σ 25 3)
set_option maxHeartbeats 4000000 in
set_option maxRecDepth 20000 in
theorem i_X0_told (a1 : Int32) (σ : Sg) (τ : Sl) (Q : Option Value → Hp → Prop) : Imp (some (f_X0_told a1 σ)) (fun (y : Int32) => Q (some (.int y)) (mk σ τ)) (Go M_X0_told Q 0 0 0 [some (.ref 25), some (.int a1)] [] (mk σ τ)) := by
  unfold f_X0_told
  refine im_st (r_aload_n (i := 0) dX0_told_0 rfl rfl rfl) ?_
  refine im_st (s_getI (tag := 0) (j := 2) dX0_told_1 rfl fl_X0_9 rfl (Nat.le_of_ble_eq_true rfl) rfl) ?_
  refine im_st (r_bipush (v := -4) dX0_told_4 rfl kB_m4) ?_
  refine im_brS (r_icmp_ne (tgt := 12) dX0_told_6 rfl (by decide)) (fun c1 => ?_) (fun c1 => ?_)
  · refine im_st (r_bipush (v := -4) dX0_told_9 rfl kB_m4) ?_
    exact im_ret (fun q => g_iret rfl rfl rfl dX0_told_11 q)
  · refine im_st (r_iload_n (i := 1) dX0_told_12 rfl rfl rfl) ?_
    refine im_brS (r_if_ne (tgt := 23) dX0_told_13 rfl (by decide)) (fun c2 => ?_) (fun c2 => ?_)
    · refine im_st (r_aload_n (i := 0) dX0_told_16 rfl rfl rfl) ?_
      refine im_st (s_getI (tag := 0) (j := 2) dX0_told_17 rfl fl_X0_9 rfl (Nat.le_of_ble_eq_true rfl) rfl) ?_
      refine im_st (r_goto (pc1 := 27) dX0_told_20 (by decide)) ?_
      exact im_ret (fun q => g_iret rfl rfl rfl dX0_told_27 q)
    · refine im_st (r_aload_n (i := 0) dX0_told_23 rfl rfl rfl) ?_
      refine im_st (s_getI (tag := 0) (j := 3) dX0_told_24 rfl fl_X0_15 rfl (Nat.le_of_ble_eq_true rfl) rfl) ?_
      exact im_ret (fun q => g_iret rfl rfl rfl dX0_told_27 q)
theorem e_X0_told (a1 : Int32) (σ : Sg) (τ : Sl) : EvD M_X0_told [.ref 25, .int a1] (mk σ τ) (some (.int (f_X0_told a1 σ))) (mk σ τ) := EvM.of (by decide +kernel) (Nat.le_of_ble_eq_true rfl) (i_X0_told a1 σ τ _ _ rfl ⟨rfl, rfl⟩)
def M_X0_seekFrom : Ms := (yX0_seekFrom, cX0_seekFrom, 2, none, 0, 0, 0, 0)
theorem mv_X0_seekFrom : MV M_X0_seekFrom 1 := ⟨⟨q727, q6, by decide, by decide, by decide +kernel⟩, q726, p14⟩
def f_X0_seekFrom (a1 : Int32) (σ : Sg) : Sg :=
  app (up2 σ 25 2 (-4 : Int32)) fun (σ1 : Sg) =>
  (up2 σ1 25 3 a1)
set_option maxHeartbeats 4000000 in
set_option maxRecDepth 20000 in
theorem i_X0_seekFrom (a1 : Int32) (σ : Sg) (τ : Sl) (Q : Option Value → Hp → Prop) : Imp (some (f_X0_seekFrom a1 σ)) (fun (y : Sg) => Q (none) (mk y τ)) (Go M_X0_seekFrom Q 0 0 0 [some (.ref 25), some (.int a1)] [] (mk σ τ)) := by
  unfold f_X0_seekFrom
  refine im_st (r_aload_n (i := 0) dX0_seekFrom_0 rfl rfl rfl) ?_
  refine im_st (r_bipush (v := -4) dX0_seekFrom_1 rfl kB_m4) ?_
  refine im_st (s_putI (tag := 0) (j := 2) dX0_seekFrom_3 rfl fl_X0_9 rfl (Nat.le_of_ble_eq_true rfl) rfl fw_0_2) ?_
  refine im_st (r_aload_n (i := 0) dX0_seekFrom_6 rfl rfl rfl) ?_
  refine im_st (r_iload_n (i := 1) dX0_seekFrom_7 rfl rfl rfl) ?_
  refine im_appS (Gm := fun (σ1 : Sg) => Go M_X0_seekFrom Q 0 0 8 [some (.ref 25), some (.int a1)] [.int a1, .ref 25] (mk σ1 τ)) (fun σ1 => ?_)
  refine im_st (s_putI (tag := 0) (j := 3) dX0_seekFrom_8 rfl fl_X0_15 rfl (Nat.le_of_ble_eq_true rfl) rfl fw_0_3) ?_
  exact im_ret (fun q => g_vret rfl rfl rfl dX0_seekFrom_11 q)
theorem e_X0_seekFrom (a1 : Int32) (σ : Sg) (τ : Sl) : EvD M_X0_seekFrom [.ref 25, .int a1] (mk σ τ) (none) (mk (f_X0_seekFrom a1 σ) τ) := EvM.of (by decide +kernel) (Nat.le_of_ble_eq_true rfl) (i_X0_seekFrom a1 σ τ _ _ rfl ⟨rfl, rfl⟩)
def M_X0_offerMost : Ms := (yX0_offerMost, cX0_offerMost, 3, none, 0, 0, 0, 0)
theorem mv_X0_offerMost : MV M_X0_offerMost 2 := ⟨⟨q734, q6, by decide, by decide, by decide +kernel⟩, q733, p15⟩
def f_X0_offerMost (a1 : Int32) (a2 : Int32) (σ : Sg) : Sg :=
  if a2 ≤ (σ 25 3) then
    σ
  else
    app (up2 σ 25 2 a1) fun (σ2 : Sg) =>
    (up2 σ2 25 3 a2)
set_option maxHeartbeats 4000000 in
set_option maxRecDepth 20000 in
theorem i_X0_offerMost (a1 : Int32) (a2 : Int32) (σ : Sg) (τ : Sl) (Q : Option Value → Hp → Prop) : Imp (some (f_X0_offerMost a1 a2 σ)) (fun (y : Sg) => Q (none) (mk y τ)) (Go M_X0_offerMost Q 0 0 0 [some (.ref 25), some (.int a1), some (.int a2)] [] (mk σ τ)) := by
  unfold f_X0_offerMost
  refine im_st (r_iload_n (i := 2) dX0_offerMost_0 rfl rfl rfl) ?_
  refine im_st (r_aload_n (i := 0) dX0_offerMost_1 rfl rfl rfl) ?_
  refine im_st (s_getI (tag := 0) (j := 3) dX0_offerMost_2 rfl fl_X0_15 rfl (Nat.le_of_ble_eq_true rfl) rfl) ?_
  refine im_brS (r_icmp_le (tgt := 18) dX0_offerMost_5 rfl (by decide)) (fun c1 => ?_) (fun c1 => ?_)
  · exact im_ret (fun q => g_vret rfl rfl rfl dX0_offerMost_18 q)
  · refine im_st (r_aload_n (i := 0) dX0_offerMost_8 rfl rfl rfl) ?_
    refine im_st (r_iload_n (i := 1) dX0_offerMost_9 rfl rfl rfl) ?_
    refine im_st (s_putI (tag := 0) (j := 2) dX0_offerMost_10 rfl fl_X0_9 rfl (Nat.le_of_ble_eq_true rfl) rfl fw_0_2) ?_
    refine im_st (r_aload_n (i := 0) dX0_offerMost_13 rfl rfl rfl) ?_
    refine im_st (r_iload_n (i := 2) dX0_offerMost_14 rfl rfl rfl) ?_
    refine im_appS (Gm := fun (σ2 : Sg) => Go M_X0_offerMost Q 0 0 15 [some (.ref 25), some (.int a1), some (.int a2)] [.int a2, .ref 25] (mk σ2 τ)) (fun σ2 => ?_)
    refine im_st (s_putI (tag := 0) (j := 3) dX0_offerMost_15 rfl fl_X0_15 rfl (Nat.le_of_ble_eq_true rfl) rfl fw_0_3) ?_
    exact im_ret (fun q => g_vret rfl rfl rfl dX0_offerMost_18 q)
theorem e_X0_offerMost (a1 : Int32) (a2 : Int32) (σ : Sg) (τ : Sl) : EvD M_X0_offerMost [.ref 25, .int a1, .int a2] (mk σ τ) (none) (mk (f_X0_offerMost a1 a2 σ) τ) := EvM.of (by decide +kernel) (Nat.le_of_ble_eq_true rfl) (i_X0_offerMost a1 a2 σ τ _ _ rfl ⟨rfl, rfl⟩)
def M_X0_offerFewest : Ms := (yX0_offerFewest, cX0_offerFewest, 3, none, 0, 0, 0, 0)
theorem mv_X0_offerFewest : MV M_X0_offerFewest 2 := ⟨⟨q770, q6, by decide, by decide, by decide +kernel⟩, q769, p16⟩
def f_X0_offerFewest (a1 : Int32) (a2 : Int32) (σ : Sg) : Sg :=
  if (σ 25 3) ≤ a2 then
    σ
  else
    app (up2 σ 25 2 a1) fun (σ2 : Sg) =>
    (up2 σ2 25 3 a2)
set_option maxHeartbeats 4000000 in
set_option maxRecDepth 20000 in
theorem i_X0_offerFewest (a1 : Int32) (a2 : Int32) (σ : Sg) (τ : Sl) (Q : Option Value → Hp → Prop) : Imp (some (f_X0_offerFewest a1 a2 σ)) (fun (y : Sg) => Q (none) (mk y τ)) (Go M_X0_offerFewest Q 0 0 0 [some (.ref 25), some (.int a1), some (.int a2)] [] (mk σ τ)) := by
  unfold f_X0_offerFewest
  refine im_st (r_iload_n (i := 2) dX0_offerFewest_0 rfl rfl rfl) ?_
  refine im_st (r_aload_n (i := 0) dX0_offerFewest_1 rfl rfl rfl) ?_
  refine im_st (s_getI (tag := 0) (j := 3) dX0_offerFewest_2 rfl fl_X0_15 rfl (Nat.le_of_ble_eq_true rfl) rfl) ?_
  refine im_brS (r_icmp_ge (tgt := 18) dX0_offerFewest_5 rfl (by decide)) (fun c1 => ?_) (fun c1 => ?_)
  · exact im_ret (fun q => g_vret rfl rfl rfl dX0_offerFewest_18 q)
  · refine im_st (r_aload_n (i := 0) dX0_offerFewest_8 rfl rfl rfl) ?_
    refine im_st (r_iload_n (i := 1) dX0_offerFewest_9 rfl rfl rfl) ?_
    refine im_st (s_putI (tag := 0) (j := 2) dX0_offerFewest_10 rfl fl_X0_9 rfl (Nat.le_of_ble_eq_true rfl) rfl fw_0_2) ?_
    refine im_st (r_aload_n (i := 0) dX0_offerFewest_13 rfl rfl rfl) ?_
    refine im_st (r_iload_n (i := 2) dX0_offerFewest_14 rfl rfl rfl) ?_
    refine im_appS (Gm := fun (σ2 : Sg) => Go M_X0_offerFewest Q 0 0 15 [some (.ref 25), some (.int a1), some (.int a2)] [.int a2, .ref 25] (mk σ2 τ)) (fun σ2 => ?_)
    refine im_st (s_putI (tag := 0) (j := 3) dX0_offerFewest_15 rfl fl_X0_15 rfl (Nat.le_of_ble_eq_true rfl) rfl fw_0_3) ?_
    exact im_ret (fun q => g_vret rfl rfl rfl dX0_offerFewest_18 q)
theorem e_X0_offerFewest (a1 : Int32) (a2 : Int32) (σ : Sg) (τ : Sl) : EvD M_X0_offerFewest [.ref 25, .int a1, .int a2] (mk σ τ) (none) (mk (f_X0_offerFewest a1 a2 σ) τ) := EvM.of (by decide +kernel) (Nat.le_of_ble_eq_true rfl) (i_X0_offerFewest a1 a2 σ τ _ _ rfl ⟨rfl, rfl⟩)
def M_X0_seekNewPeg : Ms := (yX0_seekNewPeg, cX0_seekNewPeg, 4, none, 5, 108, 0, 0)
theorem mv_X0_seekNewPeg : MV M_X0_seekNewPeg 1 := ⟨⟨q723, q6, by decide, by decide, by decide +kernel⟩, q721, q722⟩
def b_X0_seekNewPeg_15 (a1 : Int32) (v2 : Int32) : (Int32 × Sg) → Option ((Int32 × Sg) ⊕ (Int32 × Sg)) := fun (s3 : (Int32 × Sg)) =>
  if (100 : Int32) ≤ s3.1 then
    some (.inr (s3.1, s3.2))
  else
    (f_X7_addPeg 13 s3.1 a1 s3.2).bind fun (y5 : (Int32 × Sg)) =>
    (if y5.1 ≤ 0 then
      some y5.2
    else
      (f_X2_wonBy 13 a1 y5.2).bind fun (y8 : (Int32 × Sg)) =>
      app (f_X0_offerMost s3.1 (f_J6_bitCount_0f7a4 y8.1) y8.2) fun (σ9 : Sg) =>
      (f_X7_cutPegs 13 v2 σ9).bind fun (y10 : Sg) =>
      some y10).bind fun (j6 : Sg) =>
    some (.inl ((s3.1 + 1), j6))
def f_X0_seekNewPeg (a1 : Int32) (σ : Sg) : Option Sg :=
  app (f_X0_seekFrom (-1 : Int32) σ) fun (σ1 : Sg) =>
  app (σ1 13 2) fun (v2 : Int32) =>
  (wh (b_X0_seekNewPeg_15 a1 v2) 4096 ((0 : Int32), σ1)).bind fun (e11 : (Int32 × Sg)) =>
  some e11.2
set_option maxHeartbeats 4000000 in
set_option maxRecDepth 20000 in
theorem i_X0_seekNewPeg (a1 : Int32) (σ : Sg) (τ : Sl) (Q : Option Value → Hp → Prop) : Imp (f_X0_seekNewPeg a1 σ) (fun (y : Sg) => Q (none) (mk y τ)) (Go M_X0_seekNewPeg Q 0 0 0 [some (.ref 25), some (.int a1), none, none] [] (mk σ τ)) := by
  unfold f_X0_seekNewPeg
  refine im_st (r_aload_n (i := 0) dX0_seekNewPeg_0 rfl rfl rfl) ?_
  refine im_st (r_iconst (v := -1) dX0_seekNewPeg_1 rfl kI_m1) ?_
  refine im_st (r_callV (as := [.int (-1 : Int32)]) (r := none) (kc1 := 0) (ks1 := 0) (st := []) (st1 := []) (e_X0_seekFrom (-1 : Int32) σ τ) mv_X0_seekFrom lk_X0_33 ⟨by decide, by decide⟩ rfl (Nat.le_of_ble_eq_true rfl) (by decide) ⟨_, rfl, rfl⟩ ⟨by decide, by decide⟩ (Nat.le_of_ble_eq_true rfl) dX0_seekNewPeg_2 rfl rfl rfl rfl rfl) ?_
  refine im_st (r_aload_n (i := 0) dX0_seekNewPeg_5 rfl rfl rfl) ?_
  refine im_st (s_getR (b := 13) (tag := 0) (j := 1) dX0_seekNewPeg_6 rfl fl_X0_32 rfl (Nat.le_of_ble_eq_true rfl) rfl rfl) ?_
  refine im_app (Gm := fun (σ1 : Sg) => Go M_X0_seekNewPeg Q 0 0 9 [some (.ref 25), some (.int a1), none, none] [.ref 13] (mk σ1 τ)) (fun σ1 => ?_)
  refine im_st (s_getI (tag := 7) (j := 2) dX0_seekNewPeg_9 rfl fl_X0_37 rfl (Nat.le_of_ble_eq_true rfl) rfl) ?_
  refine im_st (r_istore_n (i := 2) (L1 := [some (.ref 25), some (.int a1), some (.int (σ1 13 2)), none]) dX0_seekNewPeg_12 rfl rfl (by decide) rfl) ?_
  refine im_st (r_iconst (v := 0) dX0_seekNewPeg_13 rfl kI_0) ?_
  refine im_st (r_istore_n (i := 3) (L1 := [some (.ref 25), some (.int a1), some (.int (σ1 13 2)), some (.int (0 : Int32))]) dX0_seekNewPeg_14 rfl rfl (by decide) rfl) ?_
  refine im_app (Gm := fun (v2 : Int32) => Go M_X0_seekNewPeg Q 0 0 15 [some (.ref 25), some (.int a1), some (.int v2), some (.int (0 : Int32))] [] (mk σ1 τ)) (fun v2 => ?_)
  refine im_seq (Gm := fun (e11 : (Int32 × Sg)) => Go M_X0_seekNewPeg Q 0 0 63 [none, none, none, none] [] (mk e11.2 τ)) ?_ (fun e11 => ?_)
  · refine im_wh (G := fun (s3 : (Int32 × Sg)) => Go M_X0_seekNewPeg Q 0 0 15 [some (.ref 25), some (.int a1), some (.int v2), some (.int s3.1)] [] (mk s3.2 τ)) (fun s3 => ?_) _ _
    unfold b_X0_seekNewPeg_15
    refine im_st (r_iload_n (i := 3) dX0_seekNewPeg_15 rfl rfl rfl) ?_
    refine im_st (r_bipush (v := 100) dX0_seekNewPeg_16 rfl kB_100) ?_
    refine im_br (r_icmp_ge (tgt := 63) dX0_seekNewPeg_18 rfl (by decide)) (fun c4 => ?_) (fun c4 => ?_)
    · refine im_st (r_fgt (L1 := [none, none, none, none]) [0, 1, 2, 3] rfl) ?_
      exact im_ret id
    · refine im_st (r_aload_n (i := 0) dX0_seekNewPeg_21 rfl rfl rfl) ?_
      refine im_st (s_getR (b := 13) (tag := 0) (j := 1) dX0_seekNewPeg_22 rfl fl_X0_32 rfl (Nat.le_of_ble_eq_true rfl) rfl rfl) ?_
      refine im_st (r_iload_n (i := 3) dX0_seekNewPeg_25 rfl rfl rfl) ?_
      refine im_st (r_iload_n (i := 1) dX0_seekNewPeg_26 rfl rfl rfl) ?_
      refine im_bind (fun y5 hy5 => ?_)
      refine im_st (r_callV (as := [.int s3.1, .int a1]) (r := some (.int y5.1)) (kc1 := 0) (ks1 := 0) (st := []) (st1 := [.int y5.1]) (e_X7_addPeg 13 s3.1 a1 s3.2 τ isSl_13 y5 hy5) mv_X7_addPeg lk_X0_42 ⟨by decide, by decide⟩ rfl (Nat.le_of_ble_eq_true rfl) (by decide) ⟨_, rfl, rfl⟩ ⟨by decide, by decide⟩ (Nat.le_of_ble_eq_true rfl) dX0_seekNewPeg_27 rfl rfl rfl rfl rfl) ?_
      refine im_seq (Gm := fun (j6 : Sg) => Go M_X0_seekNewPeg Q 0 0 57 [some (.ref 25), some (.int a1), some (.int v2), some (.int s3.1)] [] (mk j6 τ)) ?_ (fun j6 => ?_)
      · refine im_br (r_if_le (tgt := 57) dX0_seekNewPeg_30 rfl (by decide)) (fun c7 => ?_) (fun c7 => ?_)
        · exact im_ret id
        · refine im_st (r_aload_n (i := 0) dX0_seekNewPeg_33 rfl rfl rfl) ?_
          refine im_st (r_iload_n (i := 3) dX0_seekNewPeg_34 rfl rfl rfl) ?_
          refine im_st (r_aload_n (i := 0) dX0_seekNewPeg_35 rfl rfl rfl) ?_
          refine im_st (s_getR (b := 22) (tag := 0) (j := 0) dX0_seekNewPeg_36 rfl fl_X0_22 rfl (Nat.le_of_ble_eq_true rfl) rfl rfl) ?_
          refine im_st (r_iload_n (i := 1) dX0_seekNewPeg_39 rfl rfl rfl) ?_
          refine im_bind (fun y8 hy8 => ?_)
          refine im_st (r_callV (as := [.int a1]) (r := some (.int y8.1)) (kc1 := 0) (ks1 := 0) (st := [.int s3.1, .ref 25]) (st1 := [.int y8.1, .int s3.1, .ref 25]) (e_X2_wonBy 13 a1 y5.2 τ isCt_13 y8 hy8) mv_X2_wonBy lk_X0_46 ⟨by decide, by decide⟩ rfl (Nat.le_of_ble_eq_true rfl) (by decide) ⟨_, rfl, rfl⟩ ⟨by decide, by decide⟩ (Nat.le_of_ble_eq_true rfl) dX0_seekNewPeg_40 rfl rfl rfl rfl rfl) ?_
          refine im_st (r_callS (as := [.int y8.1]) (r := some (.int (f_J6_bitCount_0f7a4 y8.1))) (kc1 := 0) (ks1 := 0) (st := [.int s3.1, .ref 25]) (st1 := [.int (f_J6_bitCount_0f7a4 y8.1), .int s3.1, .ref 25]) (e_J6_bitCount_0f7a4 y8.1 y8.2 τ) ms_J6_bitCount_0f7a4 lk_X0_50 ⟨by decide, by decide⟩ ⟨by decide, by decide⟩ (Nat.le_of_ble_eq_true rfl) dX0_seekNewPeg_43 rfl rfl rfl rfl rfl) ?_
          refine im_st (r_callV (as := [.int s3.1, .int (f_J6_bitCount_0f7a4 y8.1)]) (r := none) (kc1 := 0) (ks1 := 0) (st := []) (st1 := []) (e_X0_offerMost s3.1 (f_J6_bitCount_0f7a4 y8.1) y8.2 τ) mv_X0_offerMost lk_X0_55 ⟨by decide, by decide⟩ rfl (Nat.le_of_ble_eq_true rfl) (by decide) ⟨_, rfl, rfl⟩ ⟨by decide, by decide⟩ (Nat.le_of_ble_eq_true rfl) dX0_seekNewPeg_46 rfl rfl rfl rfl rfl) ?_
          refine im_st (r_aload_n (i := 0) dX0_seekNewPeg_49 rfl rfl rfl) ?_
          refine im_st (s_getR (b := 13) (tag := 0) (j := 1) dX0_seekNewPeg_50 rfl fl_X0_32 rfl (Nat.le_of_ble_eq_true rfl) rfl rfl) ?_
          refine im_st (r_iload_n (i := 2) dX0_seekNewPeg_53 rfl rfl rfl) ?_
          refine im_app (Gm := fun (σ9 : Sg) => Go M_X0_seekNewPeg Q 0 0 54 [some (.ref 25), some (.int a1), some (.int v2), some (.int s3.1)] [.int v2, .ref 13] (mk σ9 τ)) (fun σ9 => ?_)
          refine im_bind (fun y10 hy10 => ?_)
          refine im_st (r_callV (as := [.int v2]) (r := none) (kc1 := 0) (ks1 := 0) (st := []) (st1 := []) (e_X7_cutPegs 13 v2 σ9 τ isSl_13 y10 hy10) mv_X7_cutPegs lk_X0_59 ⟨by decide, by decide⟩ rfl (Nat.le_of_ble_eq_true rfl) (by decide) ⟨_, rfl, rfl⟩ ⟨by decide, by decide⟩ (Nat.le_of_ble_eq_true rfl) dX0_seekNewPeg_54 rfl rfl rfl rfl rfl) ?_
          exact im_ret id
      refine im_st (r_iinc (i := 3) (x := s3.1) (v := (s3.1 + 1)) (L1 := [some (.ref 25), some (.int a1), some (.int v2), some (.int (s3.1 + 1))]) dX0_seekNewPeg_57 rfl rfl rfl (by decide) rfl) ?_
      refine im_st (r_goto (pc1 := 15) dX0_seekNewPeg_60 (by decide)) ?_
      exact im_ret id
  exact im_ret (fun q => g_vret rfl rfl rfl dX0_seekNewPeg_63 q)
theorem e_X0_seekNewPeg (a1 : Int32) (σ : Sg) (τ : Sl) (y : Sg) (hy : f_X0_seekNewPeg a1 σ = some y) : EvD M_X0_seekNewPeg [.ref 25, .int a1] (mk σ τ) (none) (mk y τ) := EvM.of (by decide +kernel) (Nat.le_of_ble_eq_true rfl) (i_X0_seekNewPeg a1 σ τ _ y hy ⟨rfl, rfl⟩)
def M_X0_seekCellOf : Ms := (yX0_seekCellOf, cX0_seekCellOf, 5, none, 5, 108, 0, 0)
theorem mv_X0_seekCellOf : MV M_X0_seekCellOf 1 := ⟨⟨q750, q6, by decide, by decide, by decide +kernel⟩, q748, q749⟩
def b_X0_seekCellOf_40 (a1 : Int32) (v5 : Int32) (v6 : Int32) : (Int32 × Sg) → Option ((Int32 × Sg) ⊕ (Int32 × Sg)) := fun (s7 : (Int32 × Sg)) =>
  if (100 : Int32) ≤ s7.1 then
    some (.inr (s7.1, s7.2))
  else
    (if s7.1 = v5 then
      (f_X7_movePeg 13 a1 s7.1 s7.2).bind fun (y11 : Sg) =>
      (f_X2_wonBy 13 v6 y11).bind fun (y12 : (Int32 × Sg)) =>
      app (f_X0_offerMost s7.1 (f_J6_bitCount_0f7a4 y12.1) y12.2) fun (σ13 : Sg) =>
      (f_X7_movePeg 13 a1 v5 σ13).bind fun (y14 : Sg) =>
      some y14
    else
      (f_X7_isFree 13 s7.1 s7.2).bind fun (y15 : Int32) =>
      if y15 = 0 then
        some s7.2
      else
        (f_X7_movePeg 13 a1 s7.1 s7.2).bind fun (y17 : Sg) =>
        (f_X2_wonBy 13 v6 y17).bind fun (y18 : (Int32 × Sg)) =>
        app (f_X0_offerMost s7.1 (f_J6_bitCount_0f7a4 y18.1) y18.2) fun (σ19 : Sg) =>
        (f_X7_movePeg 13 a1 v5 σ19).bind fun (y20 : Sg) =>
        some y20).bind fun (j9 : Sg) =>
    some (.inl ((s7.1 + 1), j9))
def f_X0_seekCellOf (a1 : Int32) (σ : Sg) : Option Sg :=
  app (f_X0_seekFrom (-1 : Int32) σ) fun (σ1 : Sg) =>
  if (f_X7_isPeg 13 a1 σ1) = 0 then
    some σ1
  else
    if inR a1 7 then
    if inR a1 7 then
    app (σ1 14 a1.toNatClampNeg) fun (v5 : Int32) =>
    app (σ1 15 a1.toNatClampNeg) fun (v6 : Int32) =>
    (wh (b_X0_seekCellOf_40 a1 v5 v6) 4096 ((0 : Int32), σ1)).bind fun (e21 : (Int32 × Sg)) =>
    some e21.2
    else none
    else none
set_option maxHeartbeats 4000000 in
set_option maxRecDepth 20000 in
theorem i_X0_seekCellOf (a1 : Int32) (σ : Sg) (τ : Sl) (Q : Option Value → Hp → Prop) : Imp (f_X0_seekCellOf a1 σ) (fun (y : Sg) => Q (none) (mk y τ)) (Go M_X0_seekCellOf Q 0 0 0 [some (.ref 25), some (.int a1), none, none, none] [] (mk σ τ)) := by
  unfold f_X0_seekCellOf
  refine im_st (r_aload_n (i := 0) dX0_seekCellOf_0 rfl rfl rfl) ?_
  refine im_st (r_iconst (v := -1) dX0_seekCellOf_1 rfl kI_m1) ?_
  refine im_st (r_callV (as := [.int (-1 : Int32)]) (r := none) (kc1 := 0) (ks1 := 0) (st := []) (st1 := []) (e_X0_seekFrom (-1 : Int32) σ τ) mv_X0_seekFrom lk_X0_33 ⟨by decide, by decide⟩ rfl (Nat.le_of_ble_eq_true rfl) (by decide) ⟨_, rfl, rfl⟩ ⟨by decide, by decide⟩ (Nat.le_of_ble_eq_true rfl) dX0_seekCellOf_2 rfl rfl rfl rfl rfl) ?_
  refine im_st (r_aload_n (i := 0) dX0_seekCellOf_5 rfl rfl rfl) ?_
  refine im_st (s_getR (b := 13) (tag := 0) (j := 1) dX0_seekCellOf_6 rfl fl_X0_32 rfl (Nat.le_of_ble_eq_true rfl) rfl rfl) ?_
  refine im_st (r_iload_n (i := 1) dX0_seekCellOf_9 rfl rfl rfl) ?_
  refine im_app (Gm := fun (σ1 : Sg) => Go M_X0_seekCellOf Q 0 0 10 [some (.ref 25), some (.int a1), none, none, none] [.int a1, .ref 13] (mk σ1 τ)) (fun σ1 => ?_)
  refine im_st (r_callV (as := [.int a1]) (r := some (.int (f_X7_isPeg 13 a1 σ1))) (kc1 := 0) (ks1 := 0) (st := []) (st1 := [.int (f_X7_isPeg 13 a1 σ1)]) (e_X7_isPeg 13 a1 σ1 τ isSl_13) mv_X7_isPeg lk_X0_62 ⟨by decide, by decide⟩ rfl (Nat.le_of_ble_eq_true rfl) (by decide) ⟨_, rfl, rfl⟩ ⟨by decide, by decide⟩ (Nat.le_of_ble_eq_true rfl) dX0_seekCellOf_10 rfl rfl rfl rfl rfl) ?_
  refine im_br (r_if_ne (tgt := 17) dX0_seekCellOf_13 rfl (by decide)) (fun c2 => ?_) (fun c2 => ?_)
  · exact im_ret (fun q => g_vret rfl rfl rfl dX0_seekCellOf_16 q)
  · refine im_st (r_aload_n (i := 0) dX0_seekCellOf_17 rfl rfl rfl) ?_
    refine im_st (s_getR (b := 13) (tag := 0) (j := 1) dX0_seekCellOf_18 rfl fl_X0_32 rfl (Nat.le_of_ble_eq_true rfl) rfl rfl) ?_
    refine im_st (s_getR (b := 14) (tag := 7) (j := 0) dX0_seekCellOf_21 rfl fl_X0_66 rfl (Nat.le_of_ble_eq_true rfl) rfl rfl) ?_
    refine im_st (r_iload_n (i := 1) dX0_seekCellOf_24 rfl rfl rfl) ?_
    refine im_grd (fun g3 => ?_)
    refine im_st (s_iaload dX0_seekCellOf_25 rfl rfl (Nat.le_of_ble_eq_true rfl) (inR_in g3)) ?_
    refine im_st (r_istore_n (i := 2) (L1 := [some (.ref 25), some (.int a1), some (.int (σ1 14 a1.toNatClampNeg)), none, none]) dX0_seekCellOf_26 rfl rfl (by decide) rfl) ?_
    refine im_st (r_aload_n (i := 0) dX0_seekCellOf_27 rfl rfl rfl) ?_
    refine im_st (s_getR (b := 13) (tag := 0) (j := 1) dX0_seekCellOf_28 rfl fl_X0_32 rfl (Nat.le_of_ble_eq_true rfl) rfl rfl) ?_
    refine im_st (s_getR (b := 15) (tag := 7) (j := 1) dX0_seekCellOf_31 rfl fl_X0_69 rfl (Nat.le_of_ble_eq_true rfl) rfl rfl) ?_
    refine im_st (r_iload_n (i := 1) dX0_seekCellOf_34 rfl rfl rfl) ?_
    refine im_grd (fun g4 => ?_)
    refine im_st (s_iaload dX0_seekCellOf_35 rfl rfl (Nat.le_of_ble_eq_true rfl) (inR_in g4)) ?_
    refine im_st (r_istore_n (i := 3) (L1 := [some (.ref 25), some (.int a1), some (.int (σ1 14 a1.toNatClampNeg)), some (.int (σ1 15 a1.toNatClampNeg)), none]) dX0_seekCellOf_36 rfl rfl (by decide) rfl) ?_
    refine im_st (r_iconst (v := 0) dX0_seekCellOf_37 rfl kI_0) ?_
    refine im_st (r_istore (i := 4) (L1 := [some (.ref 25), some (.int a1), some (.int (σ1 14 a1.toNatClampNeg)), some (.int (σ1 15 a1.toNatClampNeg)), some (.int (0 : Int32))]) dX0_seekCellOf_38 rfl (by decide) rfl) ?_
    refine im_app (Gm := fun (v5 : Int32) => Go M_X0_seekCellOf Q 0 0 40 [some (.ref 25), some (.int a1), some (.int v5), some (.int (σ1 15 a1.toNatClampNeg)), some (.int (0 : Int32))] [] (mk σ1 τ)) (fun v5 => ?_)
    refine im_app (Gm := fun (v6 : Int32) => Go M_X0_seekCellOf Q 0 0 40 [some (.ref 25), some (.int a1), some (.int v5), some (.int v6), some (.int (0 : Int32))] [] (mk σ1 τ)) (fun v6 => ?_)
    refine im_seq (Gm := fun (e21 : (Int32 × Sg)) => Go M_X0_seekCellOf Q 0 0 107 [none, none, none, none, none] [] (mk e21.2 τ)) ?_ (fun e21 => ?_)
    · refine im_wh (G := fun (s7 : (Int32 × Sg)) => Go M_X0_seekCellOf Q 0 0 40 [some (.ref 25), some (.int a1), some (.int v5), some (.int v6), some (.int s7.1)] [] (mk s7.2 τ)) (fun s7 => ?_) _ _
      unfold b_X0_seekCellOf_40
      refine im_st (r_iload (i := 4) dX0_seekCellOf_40 rfl rfl) ?_
      refine im_st (r_bipush (v := 100) dX0_seekCellOf_42 rfl kB_100) ?_
      refine im_br (r_icmp_ge (tgt := 107) dX0_seekCellOf_44 rfl (by decide)) (fun c8 => ?_) (fun c8 => ?_)
      · refine im_st (r_fgt (L1 := [none, none, none, none, none]) [0, 1, 2, 3, 4] rfl) ?_
        exact im_ret id
      · refine im_st (r_iload (i := 4) dX0_seekCellOf_47 rfl rfl) ?_
        refine im_st (r_iload_n (i := 2) dX0_seekCellOf_49 rfl rfl rfl) ?_
        refine im_seq (Gm := fun (j9 : Sg) => Go M_X0_seekCellOf Q 0 0 101 [some (.ref 25), some (.int a1), some (.int v5), some (.int v6), some (.int s7.1)] [] (mk j9 τ)) ?_ (fun j9 => ?_)
        · refine im_br (r_icmp_eq (tgt := 65) dX0_seekCellOf_50 rfl (by decide)) (fun c10 => ?_) (fun c10 => ?_)
          · refine im_st (r_aload_n (i := 0) dX0_seekCellOf_65 rfl rfl rfl) ?_
            refine im_st (s_getR (b := 13) (tag := 0) (j := 1) dX0_seekCellOf_66 rfl fl_X0_32 rfl (Nat.le_of_ble_eq_true rfl) rfl rfl) ?_
            refine im_st (r_iload_n (i := 1) dX0_seekCellOf_69 rfl rfl rfl) ?_
            refine im_st (r_iload (i := 4) dX0_seekCellOf_70 rfl rfl) ?_
            refine im_bind (fun y11 hy11 => ?_)
            refine im_st (r_callV (as := [.int a1, .int s7.1]) (r := none) (kc1 := 0) (ks1 := 0) (st := []) (st1 := []) (e_X7_movePeg 13 a1 s7.1 s7.2 τ isSl_13 y11 hy11) mv_X7_movePeg lk_X0_75 ⟨by decide, by decide⟩ rfl (Nat.le_of_ble_eq_true rfl) (by decide) ⟨_, rfl, rfl⟩ ⟨by decide, by decide⟩ (Nat.le_of_ble_eq_true rfl) dX0_seekCellOf_72 rfl rfl rfl rfl rfl) ?_
            refine im_st (r_aload_n (i := 0) dX0_seekCellOf_75 rfl rfl rfl) ?_
            refine im_st (r_iload (i := 4) dX0_seekCellOf_76 rfl rfl) ?_
            refine im_st (r_aload_n (i := 0) dX0_seekCellOf_78 rfl rfl rfl) ?_
            refine im_st (s_getR (b := 22) (tag := 0) (j := 0) dX0_seekCellOf_79 rfl fl_X0_22 rfl (Nat.le_of_ble_eq_true rfl) rfl rfl) ?_
            refine im_st (r_iload_n (i := 3) dX0_seekCellOf_82 rfl rfl rfl) ?_
            refine im_bind (fun y12 hy12 => ?_)
            refine im_st (r_callV (as := [.int v6]) (r := some (.int y12.1)) (kc1 := 0) (ks1 := 0) (st := [.int s7.1, .ref 25]) (st1 := [.int y12.1, .int s7.1, .ref 25]) (e_X2_wonBy 13 v6 y11 τ isCt_13 y12 hy12) mv_X2_wonBy lk_X0_46 ⟨by decide, by decide⟩ rfl (Nat.le_of_ble_eq_true rfl) (by decide) ⟨_, rfl, rfl⟩ ⟨by decide, by decide⟩ (Nat.le_of_ble_eq_true rfl) dX0_seekCellOf_83 rfl rfl rfl rfl rfl) ?_
            refine im_st (r_callS (as := [.int y12.1]) (r := some (.int (f_J6_bitCount_0f7a4 y12.1))) (kc1 := 0) (ks1 := 0) (st := [.int s7.1, .ref 25]) (st1 := [.int (f_J6_bitCount_0f7a4 y12.1), .int s7.1, .ref 25]) (e_J6_bitCount_0f7a4 y12.1 y12.2 τ) ms_J6_bitCount_0f7a4 lk_X0_50 ⟨by decide, by decide⟩ ⟨by decide, by decide⟩ (Nat.le_of_ble_eq_true rfl) dX0_seekCellOf_86 rfl rfl rfl rfl rfl) ?_
            refine im_st (r_callV (as := [.int s7.1, .int (f_J6_bitCount_0f7a4 y12.1)]) (r := none) (kc1 := 0) (ks1 := 0) (st := []) (st1 := []) (e_X0_offerMost s7.1 (f_J6_bitCount_0f7a4 y12.1) y12.2 τ) mv_X0_offerMost lk_X0_55 ⟨by decide, by decide⟩ rfl (Nat.le_of_ble_eq_true rfl) (by decide) ⟨_, rfl, rfl⟩ ⟨by decide, by decide⟩ (Nat.le_of_ble_eq_true rfl) dX0_seekCellOf_89 rfl rfl rfl rfl rfl) ?_
            refine im_st (r_aload_n (i := 0) dX0_seekCellOf_92 rfl rfl rfl) ?_
            refine im_st (s_getR (b := 13) (tag := 0) (j := 1) dX0_seekCellOf_93 rfl fl_X0_32 rfl (Nat.le_of_ble_eq_true rfl) rfl rfl) ?_
            refine im_st (r_iload_n (i := 1) dX0_seekCellOf_96 rfl rfl rfl) ?_
            refine im_st (r_iload_n (i := 2) dX0_seekCellOf_97 rfl rfl rfl) ?_
            refine im_app (Gm := fun (σ13 : Sg) => Go M_X0_seekCellOf Q 0 0 98 [some (.ref 25), some (.int a1), some (.int v5), some (.int v6), some (.int s7.1)] [.int v5, .int a1, .ref 13] (mk σ13 τ)) (fun σ13 => ?_)
            refine im_bind (fun y14 hy14 => ?_)
            refine im_st (r_callV (as := [.int a1, .int v5]) (r := none) (kc1 := 0) (ks1 := 0) (st := []) (st1 := []) (e_X7_movePeg 13 a1 v5 σ13 τ isSl_13 y14 hy14) mv_X7_movePeg lk_X0_75 ⟨by decide, by decide⟩ rfl (Nat.le_of_ble_eq_true rfl) (by decide) ⟨_, rfl, rfl⟩ ⟨by decide, by decide⟩ (Nat.le_of_ble_eq_true rfl) dX0_seekCellOf_98 rfl rfl rfl rfl rfl) ?_
            exact im_ret id
          · refine im_st (r_aload_n (i := 0) dX0_seekCellOf_53 rfl rfl rfl) ?_
            refine im_st (s_getR (b := 13) (tag := 0) (j := 1) dX0_seekCellOf_54 rfl fl_X0_32 rfl (Nat.le_of_ble_eq_true rfl) rfl rfl) ?_
            refine im_st (r_iload (i := 4) dX0_seekCellOf_57 rfl rfl) ?_
            refine im_bind (fun y15 hy15 => ?_)
            refine im_st (r_callV (as := [.int s7.1]) (r := some (.int y15)) (kc1 := 0) (ks1 := 0) (st := []) (st1 := [.int y15]) (e_X7_isFree 13 s7.1 s7.2 τ isSl_13 y15 hy15) mv_X7_isFree lk_X0_72 ⟨by decide, by decide⟩ rfl (Nat.le_of_ble_eq_true rfl) (by decide) ⟨_, rfl, rfl⟩ ⟨by decide, by decide⟩ (Nat.le_of_ble_eq_true rfl) dX0_seekCellOf_59 rfl rfl rfl rfl rfl) ?_
            refine im_br (r_if_eq (tgt := 101) dX0_seekCellOf_62 rfl (by decide)) (fun c16 => ?_) (fun c16 => ?_)
            · exact im_ret id
            · refine im_st (r_aload_n (i := 0) dX0_seekCellOf_65 rfl rfl rfl) ?_
              refine im_st (s_getR (b := 13) (tag := 0) (j := 1) dX0_seekCellOf_66 rfl fl_X0_32 rfl (Nat.le_of_ble_eq_true rfl) rfl rfl) ?_
              refine im_st (r_iload_n (i := 1) dX0_seekCellOf_69 rfl rfl rfl) ?_
              refine im_st (r_iload (i := 4) dX0_seekCellOf_70 rfl rfl) ?_
              refine im_bind (fun y17 hy17 => ?_)
              refine im_st (r_callV (as := [.int a1, .int s7.1]) (r := none) (kc1 := 0) (ks1 := 0) (st := []) (st1 := []) (e_X7_movePeg 13 a1 s7.1 s7.2 τ isSl_13 y17 hy17) mv_X7_movePeg lk_X0_75 ⟨by decide, by decide⟩ rfl (Nat.le_of_ble_eq_true rfl) (by decide) ⟨_, rfl, rfl⟩ ⟨by decide, by decide⟩ (Nat.le_of_ble_eq_true rfl) dX0_seekCellOf_72 rfl rfl rfl rfl rfl) ?_
              refine im_st (r_aload_n (i := 0) dX0_seekCellOf_75 rfl rfl rfl) ?_
              refine im_st (r_iload (i := 4) dX0_seekCellOf_76 rfl rfl) ?_
              refine im_st (r_aload_n (i := 0) dX0_seekCellOf_78 rfl rfl rfl) ?_
              refine im_st (s_getR (b := 22) (tag := 0) (j := 0) dX0_seekCellOf_79 rfl fl_X0_22 rfl (Nat.le_of_ble_eq_true rfl) rfl rfl) ?_
              refine im_st (r_iload_n (i := 3) dX0_seekCellOf_82 rfl rfl rfl) ?_
              refine im_bind (fun y18 hy18 => ?_)
              refine im_st (r_callV (as := [.int v6]) (r := some (.int y18.1)) (kc1 := 0) (ks1 := 0) (st := [.int s7.1, .ref 25]) (st1 := [.int y18.1, .int s7.1, .ref 25]) (e_X2_wonBy 13 v6 y17 τ isCt_13 y18 hy18) mv_X2_wonBy lk_X0_46 ⟨by decide, by decide⟩ rfl (Nat.le_of_ble_eq_true rfl) (by decide) ⟨_, rfl, rfl⟩ ⟨by decide, by decide⟩ (Nat.le_of_ble_eq_true rfl) dX0_seekCellOf_83 rfl rfl rfl rfl rfl) ?_
              refine im_st (r_callS (as := [.int y18.1]) (r := some (.int (f_J6_bitCount_0f7a4 y18.1))) (kc1 := 0) (ks1 := 0) (st := [.int s7.1, .ref 25]) (st1 := [.int (f_J6_bitCount_0f7a4 y18.1), .int s7.1, .ref 25]) (e_J6_bitCount_0f7a4 y18.1 y18.2 τ) ms_J6_bitCount_0f7a4 lk_X0_50 ⟨by decide, by decide⟩ ⟨by decide, by decide⟩ (Nat.le_of_ble_eq_true rfl) dX0_seekCellOf_86 rfl rfl rfl rfl rfl) ?_
              refine im_st (r_callV (as := [.int s7.1, .int (f_J6_bitCount_0f7a4 y18.1)]) (r := none) (kc1 := 0) (ks1 := 0) (st := []) (st1 := []) (e_X0_offerMost s7.1 (f_J6_bitCount_0f7a4 y18.1) y18.2 τ) mv_X0_offerMost lk_X0_55 ⟨by decide, by decide⟩ rfl (Nat.le_of_ble_eq_true rfl) (by decide) ⟨_, rfl, rfl⟩ ⟨by decide, by decide⟩ (Nat.le_of_ble_eq_true rfl) dX0_seekCellOf_89 rfl rfl rfl rfl rfl) ?_
              refine im_st (r_aload_n (i := 0) dX0_seekCellOf_92 rfl rfl rfl) ?_
              refine im_st (s_getR (b := 13) (tag := 0) (j := 1) dX0_seekCellOf_93 rfl fl_X0_32 rfl (Nat.le_of_ble_eq_true rfl) rfl rfl) ?_
              refine im_st (r_iload_n (i := 1) dX0_seekCellOf_96 rfl rfl rfl) ?_
              refine im_st (r_iload_n (i := 2) dX0_seekCellOf_97 rfl rfl rfl) ?_
              refine im_app (Gm := fun (σ19 : Sg) => Go M_X0_seekCellOf Q 0 0 98 [some (.ref 25), some (.int a1), some (.int v5), some (.int v6), some (.int s7.1)] [.int v5, .int a1, .ref 13] (mk σ19 τ)) (fun σ19 => ?_)
              refine im_bind (fun y20 hy20 => ?_)
              refine im_st (r_callV (as := [.int a1, .int v5]) (r := none) (kc1 := 0) (ks1 := 0) (st := []) (st1 := []) (e_X7_movePeg 13 a1 v5 σ19 τ isSl_13 y20 hy20) mv_X7_movePeg lk_X0_75 ⟨by decide, by decide⟩ rfl (Nat.le_of_ble_eq_true rfl) (by decide) ⟨_, rfl, rfl⟩ ⟨by decide, by decide⟩ (Nat.le_of_ble_eq_true rfl) dX0_seekCellOf_98 rfl rfl rfl rfl rfl) ?_
              exact im_ret id
        refine im_st (r_iinc (i := 4) (x := s7.1) (v := (s7.1 + 1)) (L1 := [some (.ref 25), some (.int a1), some (.int v5), some (.int v6), some (.int (s7.1 + 1))]) dX0_seekCellOf_101 rfl rfl rfl (by decide) rfl) ?_
        refine im_st (r_goto (pc1 := 40) dX0_seekCellOf_104 (by decide)) ?_
        exact im_ret id
    exact im_ret (fun q => g_vret rfl rfl rfl dX0_seekCellOf_107 q)
theorem e_X0_seekCellOf (a1 : Int32) (σ : Sg) (τ : Sl) (y : Sg) (hy : f_X0_seekCellOf a1 σ = some y) : EvD M_X0_seekCellOf [.ref 25, .int a1] (mk σ τ) (none) (mk y τ) := EvM.of (by decide +kernel) (Nat.le_of_ble_eq_true rfl) (i_X0_seekCellOf a1 σ τ _ y hy ⟨rfl, rfl⟩)
def M_X0_seekNewSlug : Ms := (yX0_seekNewSlug, cX0_seekNewSlug, 4, none, 5, 109, 0, 0)
theorem mv_X0_seekNewSlug : MV M_X0_seekNewSlug 1 := ⟨⟨q761, q6, by decide, by decide, by decide +kernel⟩, q759, q760⟩
def b_X0_seekNewSlug_16 (a1 : Int32) (v2 : Int32) : (Int32 × Sg) → Option ((Int32 × Sg) ⊕ (Int32 × Sg)) := fun (s3 : (Int32 × Sg)) =>
  if (100 : Int32) ≤ s3.1 then
    some (.inr (s3.1, s3.2))
  else
    (f_X7_addSlug 13 s3.1 s3.2).bind fun (y5 : (Int32 × Sg)) =>
    (if y5.1 ≤ 0 then
      some y5.2
    else
      (f_X2_wonByOthers 13 a1 y5.2).bind fun (y8 : (Int32 × Sg)) =>
      app (f_X0_offerFewest s3.1 (f_J6_bitCount_0f7a4 y8.1) y8.2) fun (σ9 : Sg) =>
      (f_X7_cutSlugs 13 v2 σ9).bind fun (y10 : Sg) =>
      some y10).bind fun (j6 : Sg) =>
    some (.inl ((s3.1 + 1), j6))
def f_X0_seekNewSlug (a1 : Int32) (σ : Sg) : Option Sg :=
  app (f_X0_seekFrom (7 : Int32) σ) fun (σ1 : Sg) =>
  app (σ1 13 4) fun (v2 : Int32) =>
  (wh (b_X0_seekNewSlug_16 a1 v2) 4096 ((0 : Int32), σ1)).bind fun (e11 : (Int32 × Sg)) =>
  some e11.2
set_option maxHeartbeats 4000000 in
set_option maxRecDepth 20000 in
theorem i_X0_seekNewSlug (a1 : Int32) (σ : Sg) (τ : Sl) (Q : Option Value → Hp → Prop) : Imp (f_X0_seekNewSlug a1 σ) (fun (y : Sg) => Q (none) (mk y τ)) (Go M_X0_seekNewSlug Q 0 0 0 [some (.ref 25), some (.int a1), none, none] [] (mk σ τ)) := by
  unfold f_X0_seekNewSlug
  refine im_st (r_aload_n (i := 0) dX0_seekNewSlug_0 rfl rfl rfl) ?_
  refine im_st (r_bipush (v := 7) dX0_seekNewSlug_1 rfl kB_7) ?_
  refine im_st (r_callV (as := [.int (7 : Int32)]) (r := none) (kc1 := 0) (ks1 := 0) (st := []) (st1 := []) (e_X0_seekFrom (7 : Int32) σ τ) mv_X0_seekFrom lk_X0_33 ⟨by decide, by decide⟩ rfl (Nat.le_of_ble_eq_true rfl) (by decide) ⟨_, rfl, rfl⟩ ⟨by decide, by decide⟩ (Nat.le_of_ble_eq_true rfl) dX0_seekNewSlug_3 rfl rfl rfl rfl rfl) ?_
  refine im_st (r_aload_n (i := 0) dX0_seekNewSlug_6 rfl rfl rfl) ?_
  refine im_st (s_getR (b := 13) (tag := 0) (j := 1) dX0_seekNewSlug_7 rfl fl_X0_32 rfl (Nat.le_of_ble_eq_true rfl) rfl rfl) ?_
  refine im_app (Gm := fun (σ1 : Sg) => Go M_X0_seekNewSlug Q 0 0 10 [some (.ref 25), some (.int a1), none, none] [.ref 13] (mk σ1 τ)) (fun σ1 => ?_)
  refine im_st (s_getI (tag := 7) (j := 4) dX0_seekNewSlug_10 rfl fl_X0_78 rfl (Nat.le_of_ble_eq_true rfl) rfl) ?_
  refine im_st (r_istore_n (i := 2) (L1 := [some (.ref 25), some (.int a1), some (.int (σ1 13 4)), none]) dX0_seekNewSlug_13 rfl rfl (by decide) rfl) ?_
  refine im_st (r_iconst (v := 0) dX0_seekNewSlug_14 rfl kI_0) ?_
  refine im_st (r_istore_n (i := 3) (L1 := [some (.ref 25), some (.int a1), some (.int (σ1 13 4)), some (.int (0 : Int32))]) dX0_seekNewSlug_15 rfl rfl (by decide) rfl) ?_
  refine im_app (Gm := fun (v2 : Int32) => Go M_X0_seekNewSlug Q 0 0 16 [some (.ref 25), some (.int a1), some (.int v2), some (.int (0 : Int32))] [] (mk σ1 τ)) (fun v2 => ?_)
  refine im_seq (Gm := fun (e11 : (Int32 × Sg)) => Go M_X0_seekNewSlug Q 0 0 63 [none, none, none, none] [] (mk e11.2 τ)) ?_ (fun e11 => ?_)
  · refine im_wh (G := fun (s3 : (Int32 × Sg)) => Go M_X0_seekNewSlug Q 0 0 16 [some (.ref 25), some (.int a1), some (.int v2), some (.int s3.1)] [] (mk s3.2 τ)) (fun s3 => ?_) _ _
    unfold b_X0_seekNewSlug_16
    refine im_st (r_iload_n (i := 3) dX0_seekNewSlug_16 rfl rfl rfl) ?_
    refine im_st (r_bipush (v := 100) dX0_seekNewSlug_17 rfl kB_100) ?_
    refine im_br (r_icmp_ge (tgt := 63) dX0_seekNewSlug_19 rfl (by decide)) (fun c4 => ?_) (fun c4 => ?_)
    · refine im_st (r_fgt (L1 := [none, none, none, none]) [0, 1, 2, 3] rfl) ?_
      exact im_ret id
    · refine im_st (r_aload_n (i := 0) dX0_seekNewSlug_22 rfl rfl rfl) ?_
      refine im_st (s_getR (b := 13) (tag := 0) (j := 1) dX0_seekNewSlug_23 rfl fl_X0_32 rfl (Nat.le_of_ble_eq_true rfl) rfl rfl) ?_
      refine im_st (r_iload_n (i := 3) dX0_seekNewSlug_26 rfl rfl rfl) ?_
      refine im_bind (fun y5 hy5 => ?_)
      refine im_st (r_callV (as := [.int s3.1]) (r := some (.int y5.1)) (kc1 := 0) (ks1 := 0) (st := []) (st1 := [.int y5.1]) (e_X7_addSlug 13 s3.1 s3.2 τ isSl_13 y5 hy5) mv_X7_addSlug lk_X0_81 ⟨by decide, by decide⟩ rfl (Nat.le_of_ble_eq_true rfl) (by decide) ⟨_, rfl, rfl⟩ ⟨by decide, by decide⟩ (Nat.le_of_ble_eq_true rfl) dX0_seekNewSlug_27 rfl rfl rfl rfl rfl) ?_
      refine im_seq (Gm := fun (j6 : Sg) => Go M_X0_seekNewSlug Q 0 0 57 [some (.ref 25), some (.int a1), some (.int v2), some (.int s3.1)] [] (mk j6 τ)) ?_ (fun j6 => ?_)
      · refine im_br (r_if_le (tgt := 57) dX0_seekNewSlug_30 rfl (by decide)) (fun c7 => ?_) (fun c7 => ?_)
        · exact im_ret id
        · refine im_st (r_aload_n (i := 0) dX0_seekNewSlug_33 rfl rfl rfl) ?_
          refine im_st (r_iload_n (i := 3) dX0_seekNewSlug_34 rfl rfl rfl) ?_
          refine im_st (r_aload_n (i := 0) dX0_seekNewSlug_35 rfl rfl rfl) ?_
          refine im_st (s_getR (b := 22) (tag := 0) (j := 0) dX0_seekNewSlug_36 rfl fl_X0_22 rfl (Nat.le_of_ble_eq_true rfl) rfl rfl) ?_
          refine im_st (r_iload_n (i := 1) dX0_seekNewSlug_39 rfl rfl rfl) ?_
          refine im_bind (fun y8 hy8 => ?_)
          refine im_st (r_callV (as := [.int a1]) (r := some (.int y8.1)) (kc1 := 0) (ks1 := 0) (st := [.int s3.1, .ref 25]) (st1 := [.int y8.1, .int s3.1, .ref 25]) (e_X2_wonByOthers 13 a1 y5.2 τ isCt_13 y8 hy8) mv_X2_wonByOthers lk_X0_84 ⟨by decide, by decide⟩ rfl (Nat.le_of_ble_eq_true rfl) (by decide) ⟨_, rfl, rfl⟩ ⟨by decide, by decide⟩ (Nat.le_of_ble_eq_true rfl) dX0_seekNewSlug_40 rfl rfl rfl rfl rfl) ?_
          refine im_st (r_callS (as := [.int y8.1]) (r := some (.int (f_J6_bitCount_0f7a4 y8.1))) (kc1 := 0) (ks1 := 0) (st := [.int s3.1, .ref 25]) (st1 := [.int (f_J6_bitCount_0f7a4 y8.1), .int s3.1, .ref 25]) (e_J6_bitCount_0f7a4 y8.1 y8.2 τ) ms_J6_bitCount_0f7a4 lk_X0_50 ⟨by decide, by decide⟩ ⟨by decide, by decide⟩ (Nat.le_of_ble_eq_true rfl) dX0_seekNewSlug_43 rfl rfl rfl rfl rfl) ?_
          refine im_st (r_callV (as := [.int s3.1, .int (f_J6_bitCount_0f7a4 y8.1)]) (r := none) (kc1 := 0) (ks1 := 0) (st := []) (st1 := []) (e_X0_offerFewest s3.1 (f_J6_bitCount_0f7a4 y8.1) y8.2 τ) mv_X0_offerFewest lk_X0_87 ⟨by decide, by decide⟩ rfl (Nat.le_of_ble_eq_true rfl) (by decide) ⟨_, rfl, rfl⟩ ⟨by decide, by decide⟩ (Nat.le_of_ble_eq_true rfl) dX0_seekNewSlug_46 rfl rfl rfl rfl rfl) ?_
          refine im_st (r_aload_n (i := 0) dX0_seekNewSlug_49 rfl rfl rfl) ?_
          refine im_st (s_getR (b := 13) (tag := 0) (j := 1) dX0_seekNewSlug_50 rfl fl_X0_32 rfl (Nat.le_of_ble_eq_true rfl) rfl rfl) ?_
          refine im_st (r_iload_n (i := 2) dX0_seekNewSlug_53 rfl rfl rfl) ?_
          refine im_app (Gm := fun (σ9 : Sg) => Go M_X0_seekNewSlug Q 0 0 54 [some (.ref 25), some (.int a1), some (.int v2), some (.int s3.1)] [.int v2, .ref 13] (mk σ9 τ)) (fun σ9 => ?_)
          refine im_bind (fun y10 hy10 => ?_)
          refine im_st (r_callV (as := [.int v2]) (r := none) (kc1 := 0) (ks1 := 0) (st := []) (st1 := []) (e_X7_cutSlugs 13 v2 σ9 τ isSl_13 y10 hy10) mv_X7_cutSlugs lk_X0_90 ⟨by decide, by decide⟩ rfl (Nat.le_of_ble_eq_true rfl) (by decide) ⟨_, rfl, rfl⟩ ⟨by decide, by decide⟩ (Nat.le_of_ble_eq_true rfl) dX0_seekNewSlug_54 rfl rfl rfl rfl rfl) ?_
          exact im_ret id
      refine im_st (r_iinc (i := 3) (x := s3.1) (v := (s3.1 + 1)) (L1 := [some (.ref 25), some (.int a1), some (.int v2), some (.int (s3.1 + 1))]) dX0_seekNewSlug_57 rfl rfl rfl (by decide) rfl) ?_
      refine im_st (r_goto (pc1 := 16) dX0_seekNewSlug_60 (by decide)) ?_
      exact im_ret id
  exact im_ret (fun q => g_vret rfl rfl rfl dX0_seekNewSlug_63 q)
theorem e_X0_seekNewSlug (a1 : Int32) (σ : Sg) (τ : Sl) (y : Sg) (hy : f_X0_seekNewSlug a1 σ = some y) : EvD M_X0_seekNewSlug [.ref 25, .int a1] (mk σ τ) (none) (mk y τ) := EvM.of (by decide +kernel) (Nat.le_of_ble_eq_true rfl) (i_X0_seekNewSlug a1 σ τ _ y hy ⟨rfl, rfl⟩)
def M_X0_seekPair : Ms := (yX0_seekPair, cX0_seekPair, 4, none, 5, 108, 0, 0)
theorem mv_X0_seekPair : MV M_X0_seekPair 1 := ⟨⟨q783, q6, by decide, by decide, by decide +kernel⟩, q781, q782⟩
def b_X0_seekPair_32 (a1 : Int32) (s3 : (Int32 × Sg)) : (Int32 × Sg) → Option ((Int32 × Sg) ⊕ (Int32 × Sg)) := fun (s5 : (Int32 × Sg)) =>
  if (s5.2 13 7) ≤ s5.1 then
    some (.inr (s5.1, s5.2))
  else
    (f_X7_exchangeHedgehogs 13 s3.1 s5.1 s5.2).bind fun (y7 : Sg) =>
    (f_X2_wonBy 13 a1 y7).bind fun (y8 : (Int32 × Sg)) =>
    app (f_X0_offerMost (((10 : Int32) * s3.1) + s5.1) (f_J6_bitCount_0f7a4 y8.1) y8.2) fun (σ9 : Sg) =>
    (f_X7_exchangeHedgehogs 13 s3.1 s5.1 σ9).bind fun (y10 : Sg) =>
    some (.inl ((s5.1 + 1), y10))
def b_X0_seekPair_17 (a1 : Int32) : (Int32 × Sg) → Option ((Int32 × Sg) ⊕ (Int32 × Sg)) := fun (s3 : (Int32 × Sg)) =>
  if (s3.2 13 7) ≤ s3.1 then
    some (.inr (s3.1, s3.2))
  else
    (wh (b_X0_seekPair_32 a1 s3) 4096 ((s3.1 + (1 : Int32)), s3.2)).bind fun (e11 : (Int32 × Sg)) =>
    some (.inl ((s3.1 + 1), e11.2))
def f_X0_seekPair (a1 : Int32) (σ : Sg) : Option Sg :=
  (f_X2_wonBy 13 a1 σ).bind fun (y1 : (Int32 × Sg)) =>
  app (f_X0_seekFrom (f_J6_bitCount_0f7a4 y1.1) y1.2) fun (σ2 : Sg) =>
  (wh (b_X0_seekPair_17 a1) 4096 ((0 : Int32), σ2)).bind fun (e12 : (Int32 × Sg)) =>
  some e12.2
set_option maxHeartbeats 4000000 in
set_option maxRecDepth 20000 in
theorem i_X0_seekPair (a1 : Int32) (σ : Sg) (τ : Sl) (Q : Option Value → Hp → Prop) : Imp (f_X0_seekPair a1 σ) (fun (y : Sg) => Q (none) (mk y τ)) (Go M_X0_seekPair Q 0 0 0 [some (.ref 25), some (.int a1), none, none] [] (mk σ τ)) := by
  unfold f_X0_seekPair
  refine im_st (r_aload_n (i := 0) dX0_seekPair_0 rfl rfl rfl) ?_
  refine im_st (r_aload_n (i := 0) dX0_seekPair_1 rfl rfl rfl) ?_
  refine im_st (s_getR (b := 22) (tag := 0) (j := 0) dX0_seekPair_2 rfl fl_X0_22 rfl (Nat.le_of_ble_eq_true rfl) rfl rfl) ?_
  refine im_st (r_iload_n (i := 1) dX0_seekPair_5 rfl rfl rfl) ?_
  refine im_bind (fun y1 hy1 => ?_)
  refine im_st (r_callV (as := [.int a1]) (r := some (.int y1.1)) (kc1 := 0) (ks1 := 0) (st := [.ref 25]) (st1 := [.int y1.1, .ref 25]) (e_X2_wonBy 13 a1 σ τ isCt_13 y1 hy1) mv_X2_wonBy lk_X0_46 ⟨by decide, by decide⟩ rfl (Nat.le_of_ble_eq_true rfl) (by decide) ⟨_, rfl, rfl⟩ ⟨by decide, by decide⟩ (Nat.le_of_ble_eq_true rfl) dX0_seekPair_6 rfl rfl rfl rfl rfl) ?_
  refine im_st (r_callS (as := [.int y1.1]) (r := some (.int (f_J6_bitCount_0f7a4 y1.1))) (kc1 := 0) (ks1 := 0) (st := [.ref 25]) (st1 := [.int (f_J6_bitCount_0f7a4 y1.1), .ref 25]) (e_J6_bitCount_0f7a4 y1.1 y1.2 τ) ms_J6_bitCount_0f7a4 lk_X0_50 ⟨by decide, by decide⟩ ⟨by decide, by decide⟩ (Nat.le_of_ble_eq_true rfl) dX0_seekPair_9 rfl rfl rfl rfl rfl) ?_
  refine im_st (r_callV (as := [.int (f_J6_bitCount_0f7a4 y1.1)]) (r := none) (kc1 := 0) (ks1 := 0) (st := []) (st1 := []) (e_X0_seekFrom (f_J6_bitCount_0f7a4 y1.1) y1.2 τ) mv_X0_seekFrom lk_X0_33 ⟨by decide, by decide⟩ rfl (Nat.le_of_ble_eq_true rfl) (by decide) ⟨_, rfl, rfl⟩ ⟨by decide, by decide⟩ (Nat.le_of_ble_eq_true rfl) dX0_seekPair_12 rfl rfl rfl rfl rfl) ?_
  refine im_st (r_iconst (v := 0) dX0_seekPair_15 rfl kI_0) ?_
  refine im_st (r_istore_n (i := 2) (L1 := [some (.ref 25), some (.int a1), some (.int (0 : Int32)), none]) dX0_seekPair_16 rfl rfl (by decide) rfl) ?_
  refine im_app (Gm := fun (σ2 : Sg) => Go M_X0_seekPair Q 0 0 17 [some (.ref 25), some (.int a1), some (.int (0 : Int32)), none] [] (mk σ2 τ)) (fun σ2 => ?_)
  refine im_seq (Gm := fun (e12 : (Int32 × Sg)) => Go M_X0_seekPair Q 0 0 94 [none, none, none, none] [] (mk e12.2 τ)) ?_ (fun e12 => ?_)
  · refine im_wh (G := fun (s3 : (Int32 × Sg)) => Go M_X0_seekPair Q 0 0 17 [some (.ref 25), some (.int a1), some (.int s3.1), none] [] (mk s3.2 τ)) (fun s3 => ?_) _ _
    unfold b_X0_seekPair_17
    refine im_st (r_iload_n (i := 2) dX0_seekPair_17 rfl rfl rfl) ?_
    refine im_st (r_aload_n (i := 0) dX0_seekPair_18 rfl rfl rfl) ?_
    refine im_st (s_getR (b := 13) (tag := 0) (j := 1) dX0_seekPair_19 rfl fl_X0_32 rfl (Nat.le_of_ble_eq_true rfl) rfl rfl) ?_
    refine im_st (s_getI (tag := 7) (j := 7) dX0_seekPair_22 rfl fl_X0_93 rfl (Nat.le_of_ble_eq_true rfl) rfl) ?_
    refine im_br (r_icmp_ge (tgt := 94) dX0_seekPair_25 rfl (by decide)) (fun c4 => ?_) (fun c4 => ?_)
    · refine im_st (r_fgt (L1 := [none, none, none, none]) [0, 1, 2] rfl) ?_
      exact im_ret id
    · refine im_st (r_iload_n (i := 2) dX0_seekPair_28 rfl rfl rfl) ?_
      refine im_st (r_iconst (v := 1) dX0_seekPair_29 rfl kI_1) ?_
      refine im_st (r_iadd dX0_seekPair_30 rfl) ?_
      refine im_st (r_istore_n (i := 3) (L1 := [some (.ref 25), some (.int a1), some (.int s3.1), some (.int (s3.1 + (1 : Int32)))]) dX0_seekPair_31 rfl rfl (by decide) rfl) ?_
      refine im_seq (Gm := fun (e11 : (Int32 × Sg)) => Go M_X0_seekPair Q 0 0 88 [some (.ref 25), some (.int a1), some (.int s3.1), none] [] (mk e11.2 τ)) ?_ (fun e11 => ?_)
      · refine im_wh (G := fun (s5 : (Int32 × Sg)) => Go M_X0_seekPair Q 0 0 32 [some (.ref 25), some (.int a1), some (.int s3.1), some (.int s5.1)] [] (mk s5.2 τ)) (fun s5 => ?_) _ _
        unfold b_X0_seekPair_32
        refine im_st (r_iload_n (i := 3) dX0_seekPair_32 rfl rfl rfl) ?_
        refine im_st (r_aload_n (i := 0) dX0_seekPair_33 rfl rfl rfl) ?_
        refine im_st (s_getR (b := 13) (tag := 0) (j := 1) dX0_seekPair_34 rfl fl_X0_32 rfl (Nat.le_of_ble_eq_true rfl) rfl rfl) ?_
        refine im_st (s_getI (tag := 7) (j := 7) dX0_seekPair_37 rfl fl_X0_93 rfl (Nat.le_of_ble_eq_true rfl) rfl) ?_
        refine im_br (r_icmp_ge (tgt := 88) dX0_seekPair_40 rfl (by decide)) (fun c6 => ?_) (fun c6 => ?_)
        · refine im_st (r_fgt (L1 := [some (.ref 25), some (.int a1), some (.int s3.1), none]) [3] rfl) ?_
          exact im_ret id
        · refine im_st (r_aload_n (i := 0) dX0_seekPair_43 rfl rfl rfl) ?_
          refine im_st (s_getR (b := 13) (tag := 0) (j := 1) dX0_seekPair_44 rfl fl_X0_32 rfl (Nat.le_of_ble_eq_true rfl) rfl rfl) ?_
          refine im_st (r_iload_n (i := 2) dX0_seekPair_47 rfl rfl rfl) ?_
          refine im_st (r_iload_n (i := 3) dX0_seekPair_48 rfl rfl rfl) ?_
          refine im_bind (fun y7 hy7 => ?_)
          refine im_st (r_callV (as := [.int s3.1, .int s5.1]) (r := none) (kc1 := 0) (ks1 := 0) (st := []) (st1 := []) (e_X7_exchangeHedgehogs 13 s3.1 s5.1 s5.2 τ isSl_13 y7 hy7) mv_X7_exchangeHedgehogs lk_X0_96 ⟨by decide, by decide⟩ rfl (Nat.le_of_ble_eq_true rfl) (by decide) ⟨_, rfl, rfl⟩ ⟨by decide, by decide⟩ (Nat.le_of_ble_eq_true rfl) dX0_seekPair_49 rfl rfl rfl rfl rfl) ?_
          refine im_st (r_aload_n (i := 0) dX0_seekPair_52 rfl rfl rfl) ?_
          refine im_st (r_bipush (v := 10) dX0_seekPair_53 rfl kB_10) ?_
          refine im_st (r_iload_n (i := 2) dX0_seekPair_55 rfl rfl rfl) ?_
          refine im_st (r_imul dX0_seekPair_56 rfl) ?_
          refine im_st (r_iload_n (i := 3) dX0_seekPair_57 rfl rfl rfl) ?_
          refine im_st (r_iadd dX0_seekPair_58 rfl) ?_
          refine im_st (r_aload_n (i := 0) dX0_seekPair_59 rfl rfl rfl) ?_
          refine im_st (s_getR (b := 22) (tag := 0) (j := 0) dX0_seekPair_60 rfl fl_X0_22 rfl (Nat.le_of_ble_eq_true rfl) rfl rfl) ?_
          refine im_st (r_iload_n (i := 1) dX0_seekPair_63 rfl rfl rfl) ?_
          refine im_bind (fun y8 hy8 => ?_)
          refine im_st (r_callV (as := [.int a1]) (r := some (.int y8.1)) (kc1 := 0) (ks1 := 0) (st := [.int (((10 : Int32) * s3.1) + s5.1), .ref 25]) (st1 := [.int y8.1, .int (((10 : Int32) * s3.1) + s5.1), .ref 25]) (e_X2_wonBy 13 a1 y7 τ isCt_13 y8 hy8) mv_X2_wonBy lk_X0_46 ⟨by decide, by decide⟩ rfl (Nat.le_of_ble_eq_true rfl) (by decide) ⟨_, rfl, rfl⟩ ⟨by decide, by decide⟩ (Nat.le_of_ble_eq_true rfl) dX0_seekPair_64 rfl rfl rfl rfl rfl) ?_
          refine im_st (r_callS (as := [.int y8.1]) (r := some (.int (f_J6_bitCount_0f7a4 y8.1))) (kc1 := 0) (ks1 := 0) (st := [.int (((10 : Int32) * s3.1) + s5.1), .ref 25]) (st1 := [.int (f_J6_bitCount_0f7a4 y8.1), .int (((10 : Int32) * s3.1) + s5.1), .ref 25]) (e_J6_bitCount_0f7a4 y8.1 y8.2 τ) ms_J6_bitCount_0f7a4 lk_X0_50 ⟨by decide, by decide⟩ ⟨by decide, by decide⟩ (Nat.le_of_ble_eq_true rfl) dX0_seekPair_67 rfl rfl rfl rfl rfl) ?_
          refine im_st (r_callV (as := [.int (((10 : Int32) * s3.1) + s5.1), .int (f_J6_bitCount_0f7a4 y8.1)]) (r := none) (kc1 := 0) (ks1 := 0) (st := []) (st1 := []) (e_X0_offerMost (((10 : Int32) * s3.1) + s5.1) (f_J6_bitCount_0f7a4 y8.1) y8.2 τ) mv_X0_offerMost lk_X0_55 ⟨by decide, by decide⟩ rfl (Nat.le_of_ble_eq_true rfl) (by decide) ⟨_, rfl, rfl⟩ ⟨by decide, by decide⟩ (Nat.le_of_ble_eq_true rfl) dX0_seekPair_70 rfl rfl rfl rfl rfl) ?_
          refine im_st (r_aload_n (i := 0) dX0_seekPair_73 rfl rfl rfl) ?_
          refine im_st (s_getR (b := 13) (tag := 0) (j := 1) dX0_seekPair_74 rfl fl_X0_32 rfl (Nat.le_of_ble_eq_true rfl) rfl rfl) ?_
          refine im_st (r_iload_n (i := 2) dX0_seekPair_77 rfl rfl rfl) ?_
          refine im_st (r_iload_n (i := 3) dX0_seekPair_78 rfl rfl rfl) ?_
          refine im_app (Gm := fun (σ9 : Sg) => Go M_X0_seekPair Q 0 0 79 [some (.ref 25), some (.int a1), some (.int s3.1), some (.int s5.1)] [.int s5.1, .int s3.1, .ref 13] (mk σ9 τ)) (fun σ9 => ?_)
          refine im_bind (fun y10 hy10 => ?_)
          refine im_st (r_callV (as := [.int s3.1, .int s5.1]) (r := none) (kc1 := 0) (ks1 := 0) (st := []) (st1 := []) (e_X7_exchangeHedgehogs 13 s3.1 s5.1 σ9 τ isSl_13 y10 hy10) mv_X7_exchangeHedgehogs lk_X0_96 ⟨by decide, by decide⟩ rfl (Nat.le_of_ble_eq_true rfl) (by decide) ⟨_, rfl, rfl⟩ ⟨by decide, by decide⟩ (Nat.le_of_ble_eq_true rfl) dX0_seekPair_79 rfl rfl rfl rfl rfl) ?_
          refine im_st (r_iinc (i := 3) (x := s5.1) (v := (s5.1 + 1)) (L1 := [some (.ref 25), some (.int a1), some (.int s3.1), some (.int (s5.1 + 1))]) dX0_seekPair_82 rfl rfl rfl (by decide) rfl) ?_
          refine im_st (r_goto (pc1 := 32) dX0_seekPair_85 (by decide)) ?_
          exact im_ret id
      refine im_st (r_iinc (i := 2) (x := s3.1) (v := (s3.1 + 1)) (L1 := [some (.ref 25), some (.int a1), some (.int (s3.1 + 1)), none]) dX0_seekPair_88 rfl rfl rfl (by decide) rfl) ?_
      refine im_st (r_goto (pc1 := 17) dX0_seekPair_91 (by decide)) ?_
      exact im_ret id
  exact im_ret (fun q => g_vret rfl rfl rfl dX0_seekPair_94 q)
theorem e_X0_seekPair (a1 : Int32) (σ : Sg) (τ : Sl) (y : Sg) (hy : f_X0_seekPair a1 σ = some y) : EvD M_X0_seekPair [.ref 25, .int a1] (mk σ τ) (none) (mk y τ) := EvM.of (by decide +kernel) (Nat.le_of_ble_eq_true rfl) (i_X0_seekPair a1 σ τ _ y hy ⟨rfl, rfl⟩)
def M_X0_seekNeedlessPeg : Ms := (yX0_seekNeedlessPeg, cX0_seekNeedlessPeg, 3, none, 5, 108, 0, 0)
theorem mv_X0_seekNeedlessPeg : MV M_X0_seekNeedlessPeg 1 := ⟨⟨q796, q6, by decide, by decide, by decide +kernel⟩, q794, q795⟩
def b_X0_seekNeedlessPeg_17 (a1 : Int32) : (Int32 × Sg) → Option ((Int32 × Sg) ⊕ (Int32 × Sg)) := fun (s3 : (Int32 × Sg)) =>
  if (s3.2 13 2) ≤ s3.1 then
    some (.inr (s3.1, s3.2))
  else
    (f_X7_hidePeg 13 s3.1 s3.2).bind fun (y5 : Sg) =>
    (f_X2_wonBy 13 a1 y5).bind fun (y6 : (Int32 × Sg)) =>
    app (f_X0_offerMost s3.1 (f_J6_bitCount_0f7a4 y6.1) y6.2) fun (σ7 : Sg) =>
    (f_X7_showPeg 13 s3.1 σ7).bind fun (y8 : Sg) =>
    some (.inl ((s3.1 + 1), y8))
def f_X0_seekNeedlessPeg (a1 : Int32) (σ : Sg) : Option Sg :=
  (f_X2_wonBy 13 a1 σ).bind fun (y1 : (Int32 × Sg)) =>
  app (f_X0_seekFrom (f_J6_bitCount_0f7a4 y1.1) y1.2) fun (σ2 : Sg) =>
  (wh (b_X0_seekNeedlessPeg_17 a1) 4096 ((0 : Int32), σ2)).bind fun (e9 : (Int32 × Sg)) =>
  some e9.2
set_option maxHeartbeats 4000000 in
set_option maxRecDepth 20000 in
theorem i_X0_seekNeedlessPeg (a1 : Int32) (σ : Sg) (τ : Sl) (Q : Option Value → Hp → Prop) : Imp (f_X0_seekNeedlessPeg a1 σ) (fun (y : Sg) => Q (none) (mk y τ)) (Go M_X0_seekNeedlessPeg Q 0 0 0 [some (.ref 25), some (.int a1), none] [] (mk σ τ)) := by
  unfold f_X0_seekNeedlessPeg
  refine im_st (r_aload_n (i := 0) dX0_seekNeedlessPeg_0 rfl rfl rfl) ?_
  refine im_st (r_aload_n (i := 0) dX0_seekNeedlessPeg_1 rfl rfl rfl) ?_
  refine im_st (s_getR (b := 22) (tag := 0) (j := 0) dX0_seekNeedlessPeg_2 rfl fl_X0_22 rfl (Nat.le_of_ble_eq_true rfl) rfl rfl) ?_
  refine im_st (r_iload_n (i := 1) dX0_seekNeedlessPeg_5 rfl rfl rfl) ?_
  refine im_bind (fun y1 hy1 => ?_)
  refine im_st (r_callV (as := [.int a1]) (r := some (.int y1.1)) (kc1 := 0) (ks1 := 0) (st := [.ref 25]) (st1 := [.int y1.1, .ref 25]) (e_X2_wonBy 13 a1 σ τ isCt_13 y1 hy1) mv_X2_wonBy lk_X0_46 ⟨by decide, by decide⟩ rfl (Nat.le_of_ble_eq_true rfl) (by decide) ⟨_, rfl, rfl⟩ ⟨by decide, by decide⟩ (Nat.le_of_ble_eq_true rfl) dX0_seekNeedlessPeg_6 rfl rfl rfl rfl rfl) ?_
  refine im_st (r_callS (as := [.int y1.1]) (r := some (.int (f_J6_bitCount_0f7a4 y1.1))) (kc1 := 0) (ks1 := 0) (st := [.ref 25]) (st1 := [.int (f_J6_bitCount_0f7a4 y1.1), .ref 25]) (e_J6_bitCount_0f7a4 y1.1 y1.2 τ) ms_J6_bitCount_0f7a4 lk_X0_50 ⟨by decide, by decide⟩ ⟨by decide, by decide⟩ (Nat.le_of_ble_eq_true rfl) dX0_seekNeedlessPeg_9 rfl rfl rfl rfl rfl) ?_
  refine im_st (r_callV (as := [.int (f_J6_bitCount_0f7a4 y1.1)]) (r := none) (kc1 := 0) (ks1 := 0) (st := []) (st1 := []) (e_X0_seekFrom (f_J6_bitCount_0f7a4 y1.1) y1.2 τ) mv_X0_seekFrom lk_X0_33 ⟨by decide, by decide⟩ rfl (Nat.le_of_ble_eq_true rfl) (by decide) ⟨_, rfl, rfl⟩ ⟨by decide, by decide⟩ (Nat.le_of_ble_eq_true rfl) dX0_seekNeedlessPeg_12 rfl rfl rfl rfl rfl) ?_
  refine im_st (r_iconst (v := 0) dX0_seekNeedlessPeg_15 rfl kI_0) ?_
  refine im_st (r_istore_n (i := 2) (L1 := [some (.ref 25), some (.int a1), some (.int (0 : Int32))]) dX0_seekNeedlessPeg_16 rfl rfl (by decide) rfl) ?_
  refine im_app (Gm := fun (σ2 : Sg) => Go M_X0_seekNeedlessPeg Q 0 0 17 [some (.ref 25), some (.int a1), some (.int (0 : Int32))] [] (mk σ2 τ)) (fun σ2 => ?_)
  refine im_seq (Gm := fun (e9 : (Int32 × Sg)) => Go M_X0_seekNeedlessPeg Q 0 0 66 [none, none, none] [] (mk e9.2 τ)) ?_ (fun e9 => ?_)
  · refine im_wh (G := fun (s3 : (Int32 × Sg)) => Go M_X0_seekNeedlessPeg Q 0 0 17 [some (.ref 25), some (.int a1), some (.int s3.1)] [] (mk s3.2 τ)) (fun s3 => ?_) _ _
    unfold b_X0_seekNeedlessPeg_17
    refine im_st (r_iload_n (i := 2) dX0_seekNeedlessPeg_17 rfl rfl rfl) ?_
    refine im_st (r_aload_n (i := 0) dX0_seekNeedlessPeg_18 rfl rfl rfl) ?_
    refine im_st (s_getR (b := 13) (tag := 0) (j := 1) dX0_seekNeedlessPeg_19 rfl fl_X0_32 rfl (Nat.le_of_ble_eq_true rfl) rfl rfl) ?_
    refine im_st (s_getI (tag := 7) (j := 2) dX0_seekNeedlessPeg_22 rfl fl_X0_37 rfl (Nat.le_of_ble_eq_true rfl) rfl) ?_
    refine im_br (r_icmp_ge (tgt := 66) dX0_seekNeedlessPeg_25 rfl (by decide)) (fun c4 => ?_) (fun c4 => ?_)
    · refine im_st (r_fgt (L1 := [none, none, none]) [0, 1, 2] rfl) ?_
      exact im_ret id
    · refine im_st (r_aload_n (i := 0) dX0_seekNeedlessPeg_28 rfl rfl rfl) ?_
      refine im_st (s_getR (b := 13) (tag := 0) (j := 1) dX0_seekNeedlessPeg_29 rfl fl_X0_32 rfl (Nat.le_of_ble_eq_true rfl) rfl rfl) ?_
      refine im_st (r_iload_n (i := 2) dX0_seekNeedlessPeg_32 rfl rfl rfl) ?_
      refine im_bind (fun y5 hy5 => ?_)
      refine im_st (r_callV (as := [.int s3.1]) (r := none) (kc1 := 0) (ks1 := 0) (st := []) (st1 := []) (e_X7_hidePeg 13 s3.1 s3.2 τ isSl_13 y5 hy5) mv_X7_hidePeg lk_X0_99 ⟨by decide, by decide⟩ rfl (Nat.le_of_ble_eq_true rfl) (by decide) ⟨_, rfl, rfl⟩ ⟨by decide, by decide⟩ (Nat.le_of_ble_eq_true rfl) dX0_seekNeedlessPeg_33 rfl rfl rfl rfl rfl) ?_
      refine im_st (r_aload_n (i := 0) dX0_seekNeedlessPeg_36 rfl rfl rfl) ?_
      refine im_st (r_iload_n (i := 2) dX0_seekNeedlessPeg_37 rfl rfl rfl) ?_
      refine im_st (r_aload_n (i := 0) dX0_seekNeedlessPeg_38 rfl rfl rfl) ?_
      refine im_st (s_getR (b := 22) (tag := 0) (j := 0) dX0_seekNeedlessPeg_39 rfl fl_X0_22 rfl (Nat.le_of_ble_eq_true rfl) rfl rfl) ?_
      refine im_st (r_iload_n (i := 1) dX0_seekNeedlessPeg_42 rfl rfl rfl) ?_
      refine im_bind (fun y6 hy6 => ?_)
      refine im_st (r_callV (as := [.int a1]) (r := some (.int y6.1)) (kc1 := 0) (ks1 := 0) (st := [.int s3.1, .ref 25]) (st1 := [.int y6.1, .int s3.1, .ref 25]) (e_X2_wonBy 13 a1 y5 τ isCt_13 y6 hy6) mv_X2_wonBy lk_X0_46 ⟨by decide, by decide⟩ rfl (Nat.le_of_ble_eq_true rfl) (by decide) ⟨_, rfl, rfl⟩ ⟨by decide, by decide⟩ (Nat.le_of_ble_eq_true rfl) dX0_seekNeedlessPeg_43 rfl rfl rfl rfl rfl) ?_
      refine im_st (r_callS (as := [.int y6.1]) (r := some (.int (f_J6_bitCount_0f7a4 y6.1))) (kc1 := 0) (ks1 := 0) (st := [.int s3.1, .ref 25]) (st1 := [.int (f_J6_bitCount_0f7a4 y6.1), .int s3.1, .ref 25]) (e_J6_bitCount_0f7a4 y6.1 y6.2 τ) ms_J6_bitCount_0f7a4 lk_X0_50 ⟨by decide, by decide⟩ ⟨by decide, by decide⟩ (Nat.le_of_ble_eq_true rfl) dX0_seekNeedlessPeg_46 rfl rfl rfl rfl rfl) ?_
      refine im_st (r_callV (as := [.int s3.1, .int (f_J6_bitCount_0f7a4 y6.1)]) (r := none) (kc1 := 0) (ks1 := 0) (st := []) (st1 := []) (e_X0_offerMost s3.1 (f_J6_bitCount_0f7a4 y6.1) y6.2 τ) mv_X0_offerMost lk_X0_55 ⟨by decide, by decide⟩ rfl (Nat.le_of_ble_eq_true rfl) (by decide) ⟨_, rfl, rfl⟩ ⟨by decide, by decide⟩ (Nat.le_of_ble_eq_true rfl) dX0_seekNeedlessPeg_49 rfl rfl rfl rfl rfl) ?_
      refine im_st (r_aload_n (i := 0) dX0_seekNeedlessPeg_52 rfl rfl rfl) ?_
      refine im_st (s_getR (b := 13) (tag := 0) (j := 1) dX0_seekNeedlessPeg_53 rfl fl_X0_32 rfl (Nat.le_of_ble_eq_true rfl) rfl rfl) ?_
      refine im_st (r_iload_n (i := 2) dX0_seekNeedlessPeg_56 rfl rfl rfl) ?_
      refine im_app (Gm := fun (σ7 : Sg) => Go M_X0_seekNeedlessPeg Q 0 0 57 [some (.ref 25), some (.int a1), some (.int s3.1)] [.int s3.1, .ref 13] (mk σ7 τ)) (fun σ7 => ?_)
      refine im_bind (fun y8 hy8 => ?_)
      refine im_st (r_callV (as := [.int s3.1]) (r := none) (kc1 := 0) (ks1 := 0) (st := []) (st1 := []) (e_X7_showPeg 13 s3.1 σ7 τ isSl_13 y8 hy8) mv_X7_showPeg lk_X0_102 ⟨by decide, by decide⟩ rfl (Nat.le_of_ble_eq_true rfl) (by decide) ⟨_, rfl, rfl⟩ ⟨by decide, by decide⟩ (Nat.le_of_ble_eq_true rfl) dX0_seekNeedlessPeg_57 rfl rfl rfl rfl rfl) ?_
      refine im_st (r_iinc (i := 2) (x := s3.1) (v := (s3.1 + 1)) (L1 := [some (.ref 25), some (.int a1), some (.int (s3.1 + 1))]) dX0_seekNeedlessPeg_60 rfl rfl rfl (by decide) rfl) ?_
      refine im_st (r_goto (pc1 := 17) dX0_seekNeedlessPeg_63 (by decide)) ?_
      exact im_ret id
  exact im_ret (fun q => g_vret rfl rfl rfl dX0_seekNeedlessPeg_66 q)
theorem e_X0_seekNeedlessPeg (a1 : Int32) (σ : Sg) (τ : Sl) (y : Sg) (hy : f_X0_seekNeedlessPeg a1 σ = some y) : EvD M_X0_seekNeedlessPeg [.ref 25, .int a1] (mk σ τ) (none) (mk y τ) := EvM.of (by decide +kernel) (Nat.le_of_ble_eq_true rfl) (i_X0_seekNeedlessPeg a1 σ τ _ y hy ⟨rfl, rfl⟩)
def M_X0_leftAtWorst : Ms := (yX0_leftAtWorst, cX0_leftAtWorst, 8, some .int, 4, 86, 0, 0)
theorem mv_X0_leftAtWorst : MV M_X0_leftAtWorst 3 := ⟨⟨q894, q6, by decide, by decide, by decide +kernel⟩, q893, p20⟩
def b_X0_leftAtWorst_14 (a1 : Int32) (a2 : Int32) (a3 : Int32) : (Int32 × Int32 × Sg) → Option ((Int32 × Int32 × Sg) ⊕ (Int32 × Int32 × Sg)) := fun (s2 : (Int32 × Int32 × Sg)) =>
  if (9 : Int32) < s2.2.1 then
    some (.inr (s2.1, s2.2.1, s2.2.2))
  else
    (if ((a2 >>> (s2.2.1 &&& 31)) &&& (1 : Int32)) = (1 : Int32) then
      (f_X2_letGoAs 13 a1 s2.2.1 a3 s2.2.2).bind fun (y6 : Sg) =>
      app (if (f_X7_isPeg 13 (y6 23 0) y6) = 0 then
        (7 : Int32)
      else
        (y6 23 0)) fun (j7 : Int32) =>
      if inR j7 8 then
      if inR j7 8 then
      app (up2 y6 26 j7.toNatClampNeg ((y6 26 j7.toNatClampNeg) + (1 : Int32))) fun (σ11 : Sg) =>
      if inR j7 8 then
      app (iMax s2.1 (σ11 26 j7.toNatClampNeg)) fun (v13 : Int32) =>
      some (v13, σ11)
      else none
      else none
      else none
    else
      some (s2.1, s2.2.2)).bind fun (j4 : (Int32 × Sg)) =>
    some (.inl (j4.1, (s2.2.1 + 1), j4.2))
def f_X0_leftAtWorst (a1 : Int32) (a2 : Int32) (a3 : Int32) (σ : Sg) : Option (Int32 × Sg) :=
  app (upR σ 26 (fillR (σ 26) 8 (0 : Int32))) fun (σ1 : Sg) =>
  (wh (b_X0_leftAtWorst_14 a1 a2 a3) 4096 ((0 : Int32), (1 : Int32), σ1)).bind fun (e14 : (Int32 × Int32 × Sg)) =>
  some (e14.1, e14.2.2)
set_option maxHeartbeats 4000000 in
set_option maxRecDepth 20000 in
theorem i_X0_leftAtWorst (a1 : Int32) (a2 : Int32) (a3 : Int32) (σ : Sg) (τ : Sl) (Q : Option Value → Hp → Prop) : Imp (f_X0_leftAtWorst a1 a2 a3 σ) (fun (y : (Int32 × Sg)) => Q (some (.int y.1)) (mk y.2 τ)) (Go M_X0_leftAtWorst Q 0 0 0 [some (.ref 25), some (.int a1), some (.int a2), some (.int a3), none, none, none, none] [] (mk σ τ)) := by
  unfold f_X0_leftAtWorst
  refine im_st (r_aload_n (i := 0) dX0_leftAtWorst_0 rfl rfl rfl) ?_
  refine im_st (s_getR (b := 26) (tag := 0) (j := 4) dX0_leftAtWorst_1 rfl fl_X0_18 rfl (Nat.le_of_ble_eq_true rfl) rfl rfl) ?_
  refine im_st (r_iconst (v := 0) dX0_leftAtWorst_4 rfl kI_0) ?_
  refine im_st (r_callS (r := none) (kc1 := 0) (ks1 := 0) (st := []) (st1 := []) (es_J7_fill_53178 26 8 (0 : Int32) σ τ rfl (Nat.le_of_ble_eq_true rfl) (by decide)) ms_J7_fill_53178 lk_X0_109 ⟨by decide, by decide⟩ ⟨by decide, by decide⟩ (Nat.le_of_ble_eq_true rfl) dX0_leftAtWorst_5 rfl rfl rfl rfl rfl) ?_
  refine im_st (r_iconst (v := 0) dX0_leftAtWorst_8 rfl kI_0) ?_
  refine im_st (r_istore (i := 4) (L1 := [some (.ref 25), some (.int a1), some (.int a2), some (.int a3), some (.int (0 : Int32)), none, none, none]) dX0_leftAtWorst_9 rfl (by decide) rfl) ?_
  refine im_st (r_iconst (v := 1) dX0_leftAtWorst_11 rfl kI_1) ?_
  refine im_st (r_istore (i := 5) (L1 := [some (.ref 25), some (.int a1), some (.int a2), some (.int a3), some (.int (0 : Int32)), some (.int (1 : Int32)), none, none]) dX0_leftAtWorst_12 rfl (by decide) rfl) ?_
  refine im_app (Gm := fun (σ1 : Sg) => Go M_X0_leftAtWorst Q 0 0 14 [some (.ref 25), some (.int a1), some (.int a2), some (.int a3), some (.int (0 : Int32)), some (.int (1 : Int32)), none, none] [] (mk σ1 τ)) (fun σ1 => ?_)
  refine im_seq (Gm := fun (e14 : (Int32 × Int32 × Sg)) => Go M_X0_leftAtWorst Q 0 0 99 [none, none, none, none, some (.int e14.1), none, none, none] [] (mk e14.2.2 τ)) ?_ (fun e14 => ?_)
  · refine im_wh (G := fun (s2 : (Int32 × Int32 × Sg)) => Go M_X0_leftAtWorst Q 0 0 14 [some (.ref 25), some (.int a1), some (.int a2), some (.int a3), some (.int s2.1), some (.int s2.2.1), none, none] [] (mk s2.2.2 τ)) (fun s2 => ?_) _ _
    unfold b_X0_leftAtWorst_14
    refine im_st (r_iload (i := 5) dX0_leftAtWorst_14 rfl rfl) ?_
    refine im_st (r_bipush (v := 9) dX0_leftAtWorst_16 rfl kB_9) ?_
    refine im_br (r_icmp_gt (tgt := 99) dX0_leftAtWorst_18 rfl (by decide)) (fun c3 => ?_) (fun c3 => ?_)
    · refine im_st (r_fgt (L1 := [none, none, none, none, some (.int s2.1), none, none, none]) [0, 1, 2, 3, 5] rfl) ?_
      exact im_ret id
    · refine im_st (r_iload_n (i := 2) dX0_leftAtWorst_21 rfl rfl rfl) ?_
      refine im_st (r_iload (i := 5) dX0_leftAtWorst_22 rfl rfl) ?_
      refine im_st (r_ishr dX0_leftAtWorst_24 rfl) ?_
      refine im_st (r_iconst (v := 1) dX0_leftAtWorst_25 rfl kI_1) ?_
      refine im_st (r_iand dX0_leftAtWorst_26 rfl) ?_
      refine im_st (r_iconst (v := 1) dX0_leftAtWorst_27 rfl kI_1) ?_
      refine im_seq (Gm := fun (j4 : (Int32 × Sg)) => Go M_X0_leftAtWorst Q 0 0 93 [some (.ref 25), some (.int a1), some (.int a2), some (.int a3), some (.int j4.1), some (.int s2.2.1), none, none] [] (mk j4.2 τ)) ?_ (fun j4 => ?_)
      · refine im_br (r_icmp_ne (tgt := 93) dX0_leftAtWorst_28 rfl (by decide)) (fun c5 => ?_) (fun c5 => ?_)
        · refine im_st (r_aload_n (i := 0) dX0_leftAtWorst_31 rfl rfl rfl) ?_
          refine im_st (s_getR (b := 22) (tag := 0) (j := 0) dX0_leftAtWorst_32 rfl fl_X0_22 rfl (Nat.le_of_ble_eq_true rfl) rfl rfl) ?_
          refine im_st (r_iload_n (i := 1) dX0_leftAtWorst_35 rfl rfl rfl) ?_
          refine im_st (r_iload (i := 5) dX0_leftAtWorst_36 rfl rfl) ?_
          refine im_st (r_iload_n (i := 3) dX0_leftAtWorst_38 rfl rfl rfl) ?_
          refine im_bind (fun y6 hy6 => ?_)
          refine im_st (r_callV (as := [.int a1, .int s2.2.1, .int a3]) (r := some (.ref 23)) (kc1 := 0) (ks1 := 0) (st := []) (st1 := [.ref 23]) (e_X2_letGoAs 13 a1 s2.2.1 a3 s2.2.2 τ isCt_13 y6 hy6) mv_X2_letGoAs lk_X0_115 ⟨by decide, by decide⟩ rfl (Nat.le_of_ble_eq_true rfl) (by decide) ⟨_, rfl, rfl⟩ ⟨by decide, by decide⟩ (Nat.le_of_ble_eq_true rfl) dX0_leftAtWorst_39 rfl rfl rfl rfl rfl) ?_
          refine im_st (s_getI (tag := 1) (j := 0) dX0_leftAtWorst_42 rfl fl_X0_119 rfl (Nat.le_of_ble_eq_true rfl) rfl) ?_
          refine im_st (r_istore (i := 6) (L1 := [some (.ref 25), some (.int a1), some (.int a2), some (.int a3), some (.int s2.1), some (.int s2.2.1), some (.int (y6 23 0)), none]) dX0_leftAtWorst_45 rfl (by decide) rfl) ?_
          refine im_st (r_aload_n (i := 0) dX0_leftAtWorst_47 rfl rfl rfl) ?_
          refine im_st (s_getR (b := 13) (tag := 0) (j := 1) dX0_leftAtWorst_48 rfl fl_X0_32 rfl (Nat.le_of_ble_eq_true rfl) rfl rfl) ?_
          refine im_st (r_iload (i := 6) dX0_leftAtWorst_51 rfl rfl) ?_
          refine im_st (r_callV (as := [.int (y6 23 0)]) (r := some (.int (f_X7_isPeg 13 (y6 23 0) y6))) (kc1 := 0) (ks1 := 0) (st := []) (st1 := [.int (f_X7_isPeg 13 (y6 23 0) y6)]) (e_X7_isPeg 13 (y6 23 0) y6 τ isSl_13) mv_X7_isPeg lk_X0_62 ⟨by decide, by decide⟩ rfl (Nat.le_of_ble_eq_true rfl) (by decide) ⟨_, rfl, rfl⟩ ⟨by decide, by decide⟩ (Nat.le_of_ble_eq_true rfl) dX0_leftAtWorst_53 rfl rfl rfl rfl rfl) ?_
          refine im_seqT (Gm := fun (j7 : Int32) => Go M_X0_leftAtWorst Q 0 0 66 [some (.ref 25), some (.int a1), some (.int a2), some (.int a3), some (.int s2.1), some (.int s2.2.1), none, none] [.int j7] (mk y6 τ)) ?_ (fun j7 => ?_)
          · refine im_brS (r_if_eq (tgt := 64) dX0_leftAtWorst_56 rfl (by decide)) (fun c8 => ?_) (fun c8 => ?_)
            · refine im_st (r_bipush (v := 7) dX0_leftAtWorst_64 rfl kB_7) ?_
              refine im_st (r_fgt (L1 := [some (.ref 25), some (.int a1), some (.int a2), some (.int a3), some (.int s2.1), some (.int s2.2.1), none, none]) [6] rfl) ?_
              exact im_ret id
            · refine im_st (r_iload (i := 6) dX0_leftAtWorst_59 rfl rfl) ?_
              refine im_st (r_goto (pc1 := 66) dX0_leftAtWorst_61 (by decide)) ?_
              refine im_st (r_fgt (L1 := [some (.ref 25), some (.int a1), some (.int a2), some (.int a3), some (.int s2.1), some (.int s2.2.1), none, none]) [6] rfl) ?_
              exact im_ret id
          refine im_st (r_istore (i := 7) (L1 := [some (.ref 25), some (.int a1), some (.int a2), some (.int a3), some (.int s2.1), some (.int s2.2.1), none, some (.int j7)]) dX0_leftAtWorst_66 rfl (by decide) rfl) ?_
          refine im_st (r_aload_n (i := 0) dX0_leftAtWorst_68 rfl rfl rfl) ?_
          refine im_st (s_getR (b := 26) (tag := 0) (j := 4) dX0_leftAtWorst_69 rfl fl_X0_18 rfl (Nat.le_of_ble_eq_true rfl) rfl rfl) ?_
          refine im_st (r_iload (i := 7) dX0_leftAtWorst_72 rfl rfl) ?_
          refine im_st (r_dup2 dX0_leftAtWorst_74 rfl rfl rfl) ?_
          refine im_grd (fun g9 => ?_)
          refine im_st (s_iaload dX0_leftAtWorst_75 rfl rfl (Nat.le_of_ble_eq_true rfl) (inR_in g9)) ?_
          refine im_st (r_iconst (v := 1) dX0_leftAtWorst_76 rfl kI_1) ?_
          refine im_st (r_iadd dX0_leftAtWorst_77 rfl) ?_
          refine im_grd (fun g10 => ?_)
          refine im_st (s_iastore dX0_leftAtWorst_78 rfl rfl (Nat.le_of_ble_eq_true rfl) (inR_in g10)) ?_
          refine im_st (r_iload (i := 4) dX0_leftAtWorst_79 rfl rfl) ?_
          refine im_st (r_aload_n (i := 0) dX0_leftAtWorst_81 rfl rfl rfl) ?_
          refine im_st (s_getR (b := 26) (tag := 0) (j := 4) dX0_leftAtWorst_82 rfl fl_X0_18 rfl (Nat.le_of_ble_eq_true rfl) rfl rfl) ?_
          refine im_st (r_iload (i := 7) dX0_leftAtWorst_85 rfl rfl) ?_
          refine im_app (Gm := fun (σ11 : Sg) => Go M_X0_leftAtWorst Q 0 0 87 [some (.ref 25), some (.int a1), some (.int a2), some (.int a3), some (.int s2.1), some (.int s2.2.1), none, some (.int j7)] [.int j7, .ref 26, .int s2.1] (mk σ11 τ)) (fun σ11 => ?_)
          refine im_grd (fun g12 => ?_)
          refine im_st (s_iaload dX0_leftAtWorst_87 rfl rfl (Nat.le_of_ble_eq_true rfl) (inR_in g12)) ?_
          refine im_st (s_iMax lk_X0_124 (by decide) (Nat.le_of_ble_eq_true rfl) dX0_leftAtWorst_88 rfl) ?_
          refine im_app (Gm := fun (v13 : Int32) => Go M_X0_leftAtWorst Q 0 0 91 [some (.ref 25), some (.int a1), some (.int a2), some (.int a3), some (.int s2.1), some (.int s2.2.1), none, some (.int j7)] [.int v13] (mk σ11 τ)) (fun v13 => ?_)
          refine im_st (r_istore (i := 4) (L1 := [some (.ref 25), some (.int a1), some (.int a2), some (.int a3), some (.int v13), some (.int s2.2.1), none, some (.int j7)]) dX0_leftAtWorst_91 rfl (by decide) rfl) ?_
          refine im_st (r_fgt (L1 := [some (.ref 25), some (.int a1), some (.int a2), some (.int a3), some (.int v13), some (.int s2.2.1), none, none]) [7] rfl) ?_
          exact im_ret id
        · exact im_ret id
      refine im_st (r_iinc (i := 5) (x := s2.2.1) (v := (s2.2.1 + 1)) (L1 := [some (.ref 25), some (.int a1), some (.int a2), some (.int a3), some (.int j4.1), some (.int (s2.2.1 + 1)), none, none]) dX0_leftAtWorst_93 rfl rfl rfl (by decide) rfl) ?_
      refine im_st (r_goto (pc1 := 14) dX0_leftAtWorst_96 (by decide)) ?_
      exact im_ret id
  refine im_st (r_iload (i := 4) dX0_leftAtWorst_99 rfl rfl) ?_
  exact im_ret (fun q => g_iret rfl rfl rfl dX0_leftAtWorst_101 q)
theorem e_X0_leftAtWorst (a1 : Int32) (a2 : Int32) (a3 : Int32) (σ : Sg) (τ : Sl) (y : (Int32 × Sg)) (hy : f_X0_leftAtWorst a1 a2 a3 σ = some y) : EvD M_X0_leftAtWorst [.ref 25, .int a1, .int a2, .int a3] (mk σ τ) (some (.int y.1)) (mk y.2 τ) := EvM.of (by decide +kernel) (Nat.le_of_ble_eq_true rfl) (i_X0_leftAtWorst a1 a2 a3 σ τ _ y hy ⟨rfl, rfl⟩)
def M_X0_seekQuestion : Ms := (yX0_seekQuestion, cX0_seekQuestion, 4, none, 5, 113, 0, 0)
theorem mv_X0_seekQuestion : MV M_X0_seekQuestion 2 := ⟨⟨q890, q6, by decide, by decide, by decide +kernel⟩, q888, q889⟩
def b_X0_seekQuestion_10 (a1 : Int32) (a2 : Int32) : (Int32 × Sg) → Option ((Int32 × Sg) ⊕ (Int32 × Sg)) := fun (s2 : (Int32 × Sg)) =>
  if (8 : Int32) ≤ s2.1 then
    some (.inr (s2.1, s2.2))
  else
    (f_X0_leftAtWorst a1 a2 s2.1 s2.2).bind fun (y4 : (Int32 × Sg)) =>
    some (.inl ((s2.1 + 1), (f_X0_offerFewest s2.1 y4.1 y4.2)))
def f_X0_seekQuestion (a1 : Int32) (a2 : Int32) (σ : Sg) : Option Sg :=
  app (f_X0_seekFrom (f_J6_bitCount_0f7a4 a2) σ) fun (σ1 : Sg) =>
  (wh (b_X0_seekQuestion_10 a1 a2) 4096 ((0 : Int32), σ1)).bind fun (e5 : (Int32 × Sg)) =>
  some e5.2
set_option maxHeartbeats 4000000 in
set_option maxRecDepth 20000 in
theorem i_X0_seekQuestion (a1 : Int32) (a2 : Int32) (σ : Sg) (τ : Sl) (Q : Option Value → Hp → Prop) : Imp (f_X0_seekQuestion a1 a2 σ) (fun (y : Sg) => Q (none) (mk y τ)) (Go M_X0_seekQuestion Q 0 0 0 [some (.ref 25), some (.int a1), some (.int a2), none] [] (mk σ τ)) := by
  unfold f_X0_seekQuestion
  refine im_st (r_aload_n (i := 0) dX0_seekQuestion_0 rfl rfl rfl) ?_
  refine im_st (r_iload_n (i := 2) dX0_seekQuestion_1 rfl rfl rfl) ?_
  refine im_st (r_callS (as := [.int a2]) (r := some (.int (f_J6_bitCount_0f7a4 a2))) (kc1 := 0) (ks1 := 0) (st := [.ref 25]) (st1 := [.int (f_J6_bitCount_0f7a4 a2), .ref 25]) (e_J6_bitCount_0f7a4 a2 σ τ) ms_J6_bitCount_0f7a4 lk_X0_50 ⟨by decide, by decide⟩ ⟨by decide, by decide⟩ (Nat.le_of_ble_eq_true rfl) dX0_seekQuestion_2 rfl rfl rfl rfl rfl) ?_
  refine im_st (r_callV (as := [.int (f_J6_bitCount_0f7a4 a2)]) (r := none) (kc1 := 0) (ks1 := 0) (st := []) (st1 := []) (e_X0_seekFrom (f_J6_bitCount_0f7a4 a2) σ τ) mv_X0_seekFrom lk_X0_33 ⟨by decide, by decide⟩ rfl (Nat.le_of_ble_eq_true rfl) (by decide) ⟨_, rfl, rfl⟩ ⟨by decide, by decide⟩ (Nat.le_of_ble_eq_true rfl) dX0_seekQuestion_5 rfl rfl rfl rfl rfl) ?_
  refine im_st (r_iconst (v := 0) dX0_seekQuestion_8 rfl kI_0) ?_
  refine im_st (r_istore_n (i := 3) (L1 := [some (.ref 25), some (.int a1), some (.int a2), some (.int (0 : Int32))]) dX0_seekQuestion_9 rfl rfl (by decide) rfl) ?_
  refine im_app (Gm := fun (σ1 : Sg) => Go M_X0_seekQuestion Q 0 0 10 [some (.ref 25), some (.int a1), some (.int a2), some (.int (0 : Int32))] [] (mk σ1 τ)) (fun σ1 => ?_)
  refine im_seq (Gm := fun (e5 : (Int32 × Sg)) => Go M_X0_seekQuestion Q 0 0 34 [none, none, none, none] [] (mk e5.2 τ)) ?_ (fun e5 => ?_)
  · refine im_wh (G := fun (s2 : (Int32 × Sg)) => Go M_X0_seekQuestion Q 0 0 10 [some (.ref 25), some (.int a1), some (.int a2), some (.int s2.1)] [] (mk s2.2 τ)) (fun s2 => ?_) _ _
    unfold b_X0_seekQuestion_10
    refine im_st (r_iload_n (i := 3) dX0_seekQuestion_10 rfl rfl rfl) ?_
    refine im_st (r_bipush (v := 8) dX0_seekQuestion_11 rfl kB_8) ?_
    refine im_br (r_icmp_ge (tgt := 34) dX0_seekQuestion_13 rfl (by decide)) (fun c3 => ?_) (fun c3 => ?_)
    · refine im_st (r_fgt (L1 := [none, none, none, none]) [0, 1, 2, 3] rfl) ?_
      exact im_ret id
    · refine im_st (r_aload_n (i := 0) dX0_seekQuestion_16 rfl rfl rfl) ?_
      refine im_st (r_iload_n (i := 3) dX0_seekQuestion_17 rfl rfl rfl) ?_
      refine im_st (r_aload_n (i := 0) dX0_seekQuestion_18 rfl rfl rfl) ?_
      refine im_st (r_iload_n (i := 1) dX0_seekQuestion_19 rfl rfl rfl) ?_
      refine im_st (r_iload_n (i := 2) dX0_seekQuestion_20 rfl rfl rfl) ?_
      refine im_st (r_iload_n (i := 3) dX0_seekQuestion_21 rfl rfl rfl) ?_
      refine im_bind (fun y4 hy4 => ?_)
      refine im_st (r_callV (as := [.int a1, .int a2, .int s2.1]) (r := some (.int y4.1)) (kc1 := 0) (ks1 := 0) (st := [.int s2.1, .ref 25]) (st1 := [.int y4.1, .int s2.1, .ref 25]) (e_X0_leftAtWorst a1 a2 s2.1 s2.2 τ y4 hy4) mv_X0_leftAtWorst lk_X0_105 ⟨by decide, by decide⟩ rfl (Nat.le_of_ble_eq_true rfl) (by decide) ⟨_, rfl, rfl⟩ ⟨by decide, by decide⟩ (Nat.le_of_ble_eq_true rfl) dX0_seekQuestion_22 rfl rfl rfl rfl rfl) ?_
      refine im_st (r_callV (as := [.int s2.1, .int y4.1]) (r := none) (kc1 := 0) (ks1 := 0) (st := []) (st1 := []) (e_X0_offerFewest s2.1 y4.1 y4.2 τ) mv_X0_offerFewest lk_X0_87 ⟨by decide, by decide⟩ rfl (Nat.le_of_ble_eq_true rfl) (by decide) ⟨_, rfl, rfl⟩ ⟨by decide, by decide⟩ (Nat.le_of_ble_eq_true rfl) dX0_seekQuestion_25 rfl rfl rfl rfl rfl) ?_
      refine im_st (r_iinc (i := 3) (x := s2.1) (v := (s2.1 + 1)) (L1 := [some (.ref 25), some (.int a1), some (.int a2), some (.int (s2.1 + 1))]) dX0_seekQuestion_28 rfl rfl rfl (by decide) rfl) ?_
      refine im_st (r_goto (pc1 := 10) dX0_seekQuestion_31 (by decide)) ?_
      exact im_ret id
  exact im_ret (fun q => g_vret rfl rfl rfl dX0_seekQuestion_34 q)
theorem e_X0_seekQuestion (a1 : Int32) (a2 : Int32) (σ : Sg) (τ : Sl) (y : Sg) (hy : f_X0_seekQuestion a1 a2 σ = some y) : EvD M_X0_seekQuestion [.ref 25, .int a1, .int a2] (mk σ τ) (none) (mk y τ) := EvM.of (by decide +kernel) (Nat.le_of_ble_eq_true rfl) (i_X0_seekQuestion a1 a2 σ τ _ y hy ⟨rfl, rfl⟩)
