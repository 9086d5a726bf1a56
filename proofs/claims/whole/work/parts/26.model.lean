def M_X10_in : Ms := (yX10_in, cX10_in, 6, some .boolean, 0, 0, 0, 0)
theorem ms_X10_in : MS M_X10_in 3 := ⟨⟨q1082, q12, by decide, by decide, by decide +kernel⟩, q1081⟩
def f_X10_in (a0 : Int64) (a2 : Int64) (a4 : Int64) : Int32 :=
  if (lg_cmp a0 a2) < 0 then
    (0 : Int32)
  else
    if 0 < (lg_cmp a0 a4) then
      (0 : Int32)
    else
      (1 : Int32)
theorem z_X10_in (a0 : Int64) (a2 : Int64) (a4 : Int64) : isB (f_X10_in a0 a2 a4) = true := by
  unfold f_X10_in
  (repeat' split) <;> first | rfl
set_option maxHeartbeats 4000000 in
set_option maxRecDepth 20000 in
theorem i_X10_in (a0 : Int64) (a2 : Int64) (a4 : Int64) (σ : Sg) (τ : Sl) (Q : Option Value → Hp → Prop) : Imp (some (f_X10_in a0 a2 a4)) (fun (y : Int32) => Q (some (.int y)) (mk σ τ)) (Go M_X10_in Q 0 0 0 [some (.long a0), none, some (.long a2), none, some (.long a4), none] [] (mk σ τ)) := by
  unfold f_X10_in
  refine im_st (r_lload_n (i := 0) dX10_in_0 rfl rfl rfl) ?_
  refine im_st (r_lload_n (i := 2) dX10_in_1 rfl rfl rfl) ?_
  refine im_st (r_lcmp dX10_in_2 rfl) ?_
  refine im_brS (r_if_lt (tgt := 17) dX10_in_3 rfl (by decide)) (fun c1 => ?_) (fun c1 => ?_)
  · refine im_st (r_iconst (v := 0) dX10_in_17 rfl kI_0) ?_
    exact im_ret (fun q => g_zret (ty := .boolean) rfl rfl rfl rfl dX10_in_18 q)
  · refine im_st (r_lload_n (i := 0) dX10_in_6 rfl rfl rfl) ?_
    refine im_st (r_lload (i := 4) dX10_in_7 rfl rfl) ?_
    refine im_st (r_lcmp dX10_in_9 rfl) ?_
    refine im_brS (r_if_gt (tgt := 17) dX10_in_10 rfl (by decide)) (fun c2 => ?_) (fun c2 => ?_)
    · refine im_st (r_iconst (v := 0) dX10_in_17 rfl kI_0) ?_
      exact im_ret (fun q => g_zret (ty := .boolean) rfl rfl rfl rfl dX10_in_18 q)
    · refine im_st (r_iconst (v := 1) dX10_in_13 rfl kI_1) ?_
      refine im_st (r_goto (pc1 := 18) dX10_in_14 (by decide)) ?_
      exact im_ret (fun q => g_zret (ty := .boolean) rfl rfl rfl rfl dX10_in_18 q)
theorem e_X10_in (a0 : Int64) (a2 : Int64) (a4 : Int64) (σ : Sg) (τ : Sl) : EvD M_X10_in [.long a0, .long a2, .long a4] (mk σ τ) (some (.int (f_X10_in a0 a2 a4))) (mk σ τ) := EvM.of (by decide +kernel) (Nat.le_of_ble_eq_true rfl) (i_X10_in a0 a2 a4 σ τ _ _ rfl ⟨rfl, rfl⟩)
def M_X10_feed : Ms := (yX10_feed, cX10_feed, 2, some .int, 1, 25, 0, 0)
theorem mv_X10_feed : MV M_X10_feed 1 := ⟨⟨q1078, q12, by decide, by decide, by decide +kernel⟩, q1076, q1077⟩
def f_X10_feed (a1 : Int32) (σ : Sg) : Option (Int32 × Sg) :=
  if (f_X10_in (a1.toInt64) (0 : Int64) (127 : Int64)) = 0 then
    some ((-1 : Int32), σ)
  else
    if (σ 75 6) = (160 : Int32) then
      some ((-3 : Int32), σ)
    else
      if inR (σ 75 6) 160 then
      app (up2 σ 78 (σ 75 6).toNatClampNeg a1) fun (σ4 : Sg) =>
      app (up2 σ4 75 6 ((σ4 75 6) + (1 : Int32))) fun (σ5 : Sg) =>
      some ((σ5 75 6), σ5)
      else none
set_option maxHeartbeats 4000000 in
set_option maxRecDepth 20000 in
theorem i_X10_feed (a1 : Int32) (σ : Sg) (τ : Sl) (Q : Option Value → Hp → Prop) : Imp (f_X10_feed a1 σ) (fun (y : (Int32 × Sg)) => Q (some (.int y.1)) (mk y.2 τ)) (Go M_X10_feed Q 0 0 0 [some (.ref 75), some (.int a1)] [] (mk σ τ)) := by
  unfold f_X10_feed
  refine im_st (r_iload_n (i := 1) dX10_feed_0 rfl rfl rfl) ?_
  refine im_st (r_i2l (v := a1.toInt64) dX10_feed_1 rfl rfl) ?_
  refine im_st (r_lconst (v := 0) dX10_feed_2 rfl rfl) ?_
  refine im_st (r_ldc2 (v := 127) dX10_feed_3 rfl q1079) ?_
  refine im_st (r_callS (as := [.long (a1.toInt64), .long (0 : Int64), .long (127 : Int64)]) (r := some (.int (f_X10_in (a1.toInt64) (0 : Int64) (127 : Int64)))) (kc1 := 0) (ks1 := 0) (st := []) (st1 := [.int (f_X10_in (a1.toInt64) (0 : Int64) (127 : Int64))]) (e_X10_in (a1.toInt64) (0 : Int64) (127 : Int64) σ τ) ms_X10_in lk_X10_49 ⟨by decide, by decide⟩ ⟨by decide, by decide⟩ (Nat.le_of_ble_eq_true rfl) dX10_feed_6 rfl rfl rfl rfl rfl) ?_
  refine im_br (r_if_ne (tgt := 14) dX10_feed_9 rfl (by decide)) (fun c1 => ?_) (fun c1 => ?_)
  · refine im_st (r_iconst (v := -1) dX10_feed_12 rfl kI_m1) ?_
    exact im_ret (fun q => g_iret rfl rfl rfl dX10_feed_13 q)
  · refine im_st (r_aload_n (i := 0) dX10_feed_14 rfl rfl rfl) ?_
    refine im_st (s_getI (tag := 10) (j := 6) dX10_feed_15 rfl fl_X10_53 rfl (Nat.le_of_ble_eq_true rfl) rfl) ?_
    refine im_st (r_sipush (v := 160) dX10_feed_18 rfl kS_160) ?_
    refine im_br (r_icmp_ne (tgt := 27) dX10_feed_21 rfl (by decide)) (fun c2 => ?_) (fun c2 => ?_)
    · refine im_st (r_bipush (v := -3) dX10_feed_24 rfl kB_m3) ?_
      exact im_ret (fun q => g_iret rfl rfl rfl dX10_feed_26 q)
    · refine im_st (r_aload_n (i := 0) dX10_feed_27 rfl rfl rfl) ?_
      refine im_st (s_getR (b := 78) (tag := 10) (j := 5) dX10_feed_28 rfl fl_X10_16 rfl (Nat.le_of_ble_eq_true rfl) rfl rfl) ?_
      refine im_st (r_aload_n (i := 0) dX10_feed_31 rfl rfl rfl) ?_
      refine im_st (s_getI (tag := 10) (j := 6) dX10_feed_32 rfl fl_X10_53 rfl (Nat.le_of_ble_eq_true rfl) rfl) ?_
      refine im_st (r_iload_n (i := 1) dX10_feed_35 rfl rfl rfl) ?_
      refine im_grd (fun g3 => ?_)
      refine im_st (s_iastore dX10_feed_36 rfl rfl (Nat.le_of_ble_eq_true rfl) (inR_in g3)) ?_
      refine im_st (r_aload_n (i := 0) dX10_feed_37 rfl rfl rfl) ?_
      refine im_st (r_dup dX10_feed_38 rfl rfl) ?_
      refine im_app (Gm := fun (σ4 : Sg) => Go M_X10_feed Q 0 0 39 [some (.ref 75), some (.int a1)] [.ref 75, .ref 75] (mk σ4 τ)) (fun σ4 => ?_)
      refine im_st (s_getI (tag := 10) (j := 6) dX10_feed_39 rfl fl_X10_53 rfl (Nat.le_of_ble_eq_true rfl) rfl) ?_
      refine im_st (r_iconst (v := 1) dX10_feed_42 rfl kI_1) ?_
      refine im_st (r_iadd dX10_feed_43 rfl) ?_
      refine im_st (s_putI (tag := 10) (j := 6) dX10_feed_44 rfl fl_X10_53 rfl (Nat.le_of_ble_eq_true rfl) rfl fw_10_6) ?_
      refine im_st (r_aload_n (i := 0) dX10_feed_47 rfl rfl rfl) ?_
      refine im_app (Gm := fun (σ5 : Sg) => Go M_X10_feed Q 0 0 48 [some (.ref 75), some (.int a1)] [.ref 75] (mk σ5 τ)) (fun σ5 => ?_)
      refine im_st (s_getI (tag := 10) (j := 6) dX10_feed_48 rfl fl_X10_53 rfl (Nat.le_of_ble_eq_true rfl) rfl) ?_
      exact im_ret (fun q => g_iret rfl rfl rfl dX10_feed_51 q)
theorem e_X10_feed (a1 : Int32) (σ : Sg) (τ : Sl) (y : (Int32 × Sg)) (hy : f_X10_feed a1 σ = some y) : EvD M_X10_feed [.ref 75, .int a1] (mk σ τ) (some (.int y.1)) (mk y.2 τ) := EvM.of (by decide +kernel) (Nat.le_of_ble_eq_true rfl) (i_X10_feed a1 σ τ _ y hy ⟨rfl, rfl⟩)
def M_X10_end : Ms := (yX10_end, cX10_end, 3, some .int, 1, 25, 0, 0)
theorem mv_X10_end : MV M_X10_end 1 := ⟨⟨q1086, q12, by decide, by decide, by decide +kernel⟩, q1084, q1085⟩
def f_X10_end (a1 : Int32) (σ : Sg) : (Int32 × Sg) :=
  if (f_X10_in (a1.toInt64) (0 : Int64) ((σ 75 6).toInt64)) = 0 then
    ((-1 : Int32), σ)
  else
    ((σ 75 6), (up2 σ 75 6 a1))
set_option maxHeartbeats 4000000 in
set_option maxRecDepth 20000 in
theorem i_X10_end (a1 : Int32) (σ : Sg) (τ : Sl) (Q : Option Value → Hp → Prop) : Imp (some (f_X10_end a1 σ)) (fun (y : (Int32 × Sg)) => Q (some (.int y.1)) (mk y.2 τ)) (Go M_X10_end Q 0 0 0 [some (.ref 75), some (.int a1), none] [] (mk σ τ)) := by
  unfold f_X10_end
  refine im_st (r_iload_n (i := 1) dX10_end_0 rfl rfl rfl) ?_
  refine im_st (r_i2l (v := a1.toInt64) dX10_end_1 rfl rfl) ?_
  refine im_st (r_lconst (v := 0) dX10_end_2 rfl rfl) ?_
  refine im_st (r_aload_n (i := 0) dX10_end_3 rfl rfl rfl) ?_
  refine im_st (s_getI (tag := 10) (j := 6) dX10_end_4 rfl fl_X10_53 rfl (Nat.le_of_ble_eq_true rfl) rfl) ?_
  refine im_st (r_i2l (v := (σ 75 6).toInt64) dX10_end_7 rfl rfl) ?_
  refine im_st (r_callS (as := [.long (a1.toInt64), .long (0 : Int64), .long ((σ 75 6).toInt64)]) (r := some (.int (f_X10_in (a1.toInt64) (0 : Int64) ((σ 75 6).toInt64)))) (kc1 := 0) (ks1 := 0) (st := []) (st1 := [.int (f_X10_in (a1.toInt64) (0 : Int64) ((σ 75 6).toInt64))]) (e_X10_in (a1.toInt64) (0 : Int64) ((σ 75 6).toInt64) σ τ) ms_X10_in lk_X10_49 ⟨by decide, by decide⟩ ⟨by decide, by decide⟩ (Nat.le_of_ble_eq_true rfl) dX10_end_8 rfl rfl rfl rfl rfl) ?_
  refine im_brS (r_if_ne (tgt := 16) dX10_end_11 rfl (by decide)) (fun c1 => ?_) (fun c1 => ?_)
  · refine im_st (r_iconst (v := -1) dX10_end_14 rfl kI_m1) ?_
    exact im_ret (fun q => g_iret rfl rfl rfl dX10_end_15 q)
  · refine im_st (r_aload_n (i := 0) dX10_end_16 rfl rfl rfl) ?_
    refine im_st (s_getI (tag := 10) (j := 6) dX10_end_17 rfl fl_X10_53 rfl (Nat.le_of_ble_eq_true rfl) rfl) ?_
    refine im_st (r_istore_n (i := 2) (L1 := [some (.ref 75), some (.int a1), some (.int (σ 75 6))]) dX10_end_20 rfl rfl (by decide) rfl) ?_
    refine im_st (r_aload_n (i := 0) dX10_end_21 rfl rfl rfl) ?_
    refine im_st (r_iload_n (i := 1) dX10_end_22 rfl rfl rfl) ?_
    refine im_st (s_putI (tag := 10) (j := 6) dX10_end_23 rfl fl_X10_53 rfl (Nat.le_of_ble_eq_true rfl) rfl fw_10_6) ?_
    refine im_st (r_iload_n (i := 2) dX10_end_26 rfl rfl rfl) ?_
    exact im_ret (fun q => g_iret rfl rfl rfl dX10_end_27 q)
theorem e_X10_end (a1 : Int32) (σ : Sg) (τ : Sl) : EvD M_X10_end [.ref 75, .int a1] (mk σ τ) (some (.int (f_X10_end a1 σ).1)) (mk (f_X10_end a1 σ).2 τ) := EvM.of (by decide +kernel) (Nat.le_of_ble_eq_true rfl) (i_X10_end a1 σ τ _ _ rfl ⟨rfl, rfl⟩)
def M_X10_byteAt : Ms := (yX10_byteAt, cX10_byteAt, 2, some .int, 0, 0, 0, 0)
theorem mv_X10_byteAt : MV M_X10_byteAt 1 := ⟨⟨q1098, q12, by decide, by decide, by decide +kernel⟩, q1097, p24⟩
def f_X10_byteAt (a1 : Int32) (σ : Sg) : Option Int32 :=
  if (σ 75 6) ≤ a1 then
    some (-4 : Int32)
  else
    if inR a1 160 then
    some (σ 78 a1.toNatClampNeg)
    else none
set_option maxHeartbeats 4000000 in
set_option maxRecDepth 20000 in
theorem i_X10_byteAt (a1 : Int32) (σ : Sg) (τ : Sl) (Q : Option Value → Hp → Prop) : Imp (f_X10_byteAt a1 σ) (fun (y : Int32) => Q (some (.int y)) (mk σ τ)) (Go M_X10_byteAt Q 0 0 0 [some (.ref 75), some (.int a1)] [] (mk σ τ)) := by
  unfold f_X10_byteAt
  refine im_st (r_iload_n (i := 1) dX10_byteAt_0 rfl rfl rfl) ?_
  refine im_st (r_aload_n (i := 0) dX10_byteAt_1 rfl rfl rfl) ?_
  refine im_st (s_getI (tag := 10) (j := 6) dX10_byteAt_2 rfl fl_X10_53 rfl (Nat.le_of_ble_eq_true rfl) rfl) ?_
  refine im_br (r_icmp_ge (tgt := 17) dX10_byteAt_5 rfl (by decide)) (fun c1 => ?_) (fun c1 => ?_)
  · refine im_st (r_bipush (v := -4) dX10_byteAt_17 rfl kB_m4) ?_
    exact im_ret (fun q => g_iret rfl rfl rfl dX10_byteAt_19 q)
  · refine im_st (r_aload_n (i := 0) dX10_byteAt_8 rfl rfl rfl) ?_
    refine im_st (s_getR (b := 78) (tag := 10) (j := 5) dX10_byteAt_9 rfl fl_X10_16 rfl (Nat.le_of_ble_eq_true rfl) rfl rfl) ?_
    refine im_st (r_iload_n (i := 1) dX10_byteAt_12 rfl rfl rfl) ?_
    refine im_grd (fun g2 => ?_)
    refine im_st (s_iaload dX10_byteAt_13 rfl rfl (Nat.le_of_ble_eq_true rfl) (inR_in g2)) ?_
    refine im_st (r_goto (pc1 := 19) dX10_byteAt_14 (by decide)) ?_
    exact im_ret (fun q => g_iret rfl rfl rfl dX10_byteAt_19 q)
theorem e_X10_byteAt (a1 : Int32) (σ : Sg) (τ : Sl) (y : Int32) (hy : f_X10_byteAt a1 σ = some y) : EvD M_X10_byteAt [.ref 75, .int a1] (mk σ τ) (some (.int y)) (mk σ τ) := EvM.of (by decide +kernel) (Nat.le_of_ble_eq_true rfl) (i_X10_byteAt a1 σ τ _ y hy ⟨rfl, rfl⟩)
def M_X10_fails : Ms := (yX10_fails, cX10_fails, 2, none, 0, 0, 0, 0)
theorem mv_X10_fails : MV M_X10_fails 1 := ⟨⟨q1106, q12, by decide, by decide, by decide +kernel⟩, q1105, p25⟩
def f_X10_fails (a1 : Int32) (σ : Sg) : Sg :=
  if (σ 75 8) = 0 then
    app (up2 σ 75 8 a1) fun (σ2 : Sg) =>
    (up2 σ2 75 9 (σ2 75 11))
  else
    σ
set_option maxHeartbeats 4000000 in
set_option maxRecDepth 20000 in
theorem i_X10_fails (a1 : Int32) (σ : Sg) (τ : Sl) (Q : Option Value → Hp → Prop) : Imp (some (f_X10_fails a1 σ)) (fun (y : Sg) => Q (none) (mk y τ)) (Go M_X10_fails Q 0 0 0 [some (.ref 75), some (.int a1)] [] (mk σ τ)) := by
  unfold f_X10_fails
  refine im_st (r_aload_n (i := 0) dX10_fails_0 rfl rfl rfl) ?_
  refine im_st (s_getI (tag := 10) (j := 8) dX10_fails_1 rfl fl_X10_57 rfl (Nat.le_of_ble_eq_true rfl) rfl) ?_
  refine im_brS (r_if_ne (tgt := 20) dX10_fails_4 rfl (by decide)) (fun c1 => ?_) (fun c1 => ?_)
  · refine im_st (r_aload_n (i := 0) dX10_fails_7 rfl rfl rfl) ?_
    refine im_st (r_iload_n (i := 1) dX10_fails_8 rfl rfl rfl) ?_
    refine im_st (s_putI (tag := 10) (j := 8) dX10_fails_9 rfl fl_X10_57 rfl (Nat.le_of_ble_eq_true rfl) rfl fw_10_8) ?_
    refine im_st (r_aload_n (i := 0) dX10_fails_12 rfl rfl rfl) ?_
    refine im_st (r_aload_n (i := 0) dX10_fails_13 rfl rfl rfl) ?_
    refine im_appS (Gm := fun (σ2 : Sg) => Go M_X10_fails Q 0 0 14 [some (.ref 75), some (.int a1)] [.ref 75, .ref 75] (mk σ2 τ)) (fun σ2 => ?_)
    refine im_st (s_getI (tag := 10) (j := 11) dX10_fails_14 rfl fl_X10_60 rfl (Nat.le_of_ble_eq_true rfl) rfl) ?_
    refine im_st (s_putI (tag := 10) (j := 9) dX10_fails_17 rfl fl_X10_63 rfl (Nat.le_of_ble_eq_true rfl) rfl fw_10_9) ?_
    exact im_ret (fun q => g_vret rfl rfl rfl dX10_fails_20 q)
  · exact im_ret (fun q => g_vret rfl rfl rfl dX10_fails_20 q)
theorem e_X10_fails (a1 : Int32) (σ : Sg) (τ : Sl) : EvD M_X10_fails [.ref 75, .int a1] (mk σ τ) (none) (mk (f_X10_fails a1 σ) τ) := EvM.of (by decide +kernel) (Nat.le_of_ble_eq_true rfl) (i_X10_fails a1 σ τ _ _ rfl ⟨rfl, rfl⟩)
def M_X10_nameHere : Ms := (yX10_nameHere, cX10_nameHere, 4, some .int, 1, 21, 0, 0)
theorem mv_X10_nameHere : MV M_X10_nameHere 0 := ⟨⟨q1114, q12, by decide, by decide, by decide +kernel⟩, q1113, p27⟩
def b_X10_nameHere_51 (σ : Sg) (s1 : Int32) : (Int32 × Int32) → Option ((Int32 × Int32) ⊕ (Int32 × Int32)) := fun (s8 : (Int32 × Int32)) =>
  if s8.1 = 0 then
    some (.inr (s8.1, s8.2))
  else
    if ((σ 75 10) - (σ 75 11)) ≤ s8.2 then
      some (.inr (s8.1, s8.2))
    else
      (f_X10_byteAt ((σ 75 11) + s8.2) σ).bind fun (y11 : Int32) =>
      if inR s1 8 then
      if inR ((σ 79 s1.toNatClampNeg) + s8.2) 28 then
      app (if y11 = (σ 80 ((σ 79 s1.toNatClampNeg) + s8.2).toNatClampNeg) then
        (1 : Int32)
      else
        (0 : Int32)) fun (j14 : Int32) =>
      some (.inl (j14, (s8.2 + 1)))
      else none
      else none
def b_X10_nameHere_2 (σ : Sg) : Int32 → Option (Int32 ⊕ (Int32 ⊕ Int32)) := fun (s1 : Int32) =>
  if (7 : Int32) ≤ s1 then
    some (.inr (.inl s1))
  else
    if (σ 75 12) = (1 : Int32) then
      if inR (s1 + (1 : Int32)) 8 then
      if inR s1 8 then
      app (if ((σ 75 10) - (σ 75 11)) = ((σ 79 (s1 + (1 : Int32)).toNatClampNeg) - (σ 79 s1.toNatClampNeg)) then
        (1 : Int32)
      else
        (0 : Int32)) fun (j6 : Int32) =>
      (wh (b_X10_nameHere_51 σ s1) 4096 (j6, (0 : Int32))).bind fun (e16 : (Int32 × Int32)) =>
      if e16.1 = 0 then
        some (.inl (s1 + 1))
      else
        some (.inr (.inr s1))
      else none
      else none
    else
      some (.inr (.inl s1))
def f_X10_nameHere (σ : Sg) : Option Int32 :=
  (wh (b_X10_nameHere_2 σ) 4096 (0 : Int32)).bind fun (r20 : (Int32 ⊕ Int32)) =>
  Sum.elim (fun (e18 : Int32) =>
    some (-4 : Int32)) (fun (y19 : Int32) => some y19) r20
set_option maxHeartbeats 4000000 in
set_option maxRecDepth 20000 in
theorem i_X10_nameHere (σ : Sg) (τ : Sl) (Q : Option Value → Hp → Prop) : Imp (f_X10_nameHere σ) (fun (y : Int32) => Q (some (.int y)) (mk σ τ)) (Go M_X10_nameHere Q 0 0 0 [some (.ref 75), none, none, none] [] (mk σ τ)) := by
  unfold f_X10_nameHere
  refine im_st (r_iconst (v := 0) dX10_nameHere_0 rfl kI_0) ?_
  refine im_st (r_istore_n (i := 1) (L1 := [some (.ref 75), some (.int (0 : Int32)), none, none]) dX10_nameHere_1 rfl rfl (by decide) rfl) ?_
  refine im_seq (Gm := Sum.elim (fun (e18 : Int32) => Go M_X10_nameHere Q 0 0 118 [none, none, none, none] [] (mk σ τ)) (fun (y : Int32) => Q (some (.int y)) (mk σ τ))) ?_ (fun r20 => ?_)
  · refine im_wh (G := fun (s1 : Int32) => Go M_X10_nameHere Q 0 0 2 [some (.ref 75), some (.int s1), none, none] [] (mk σ τ)) (fun s1 => ?_) _ _
    unfold b_X10_nameHere_2
    refine im_st (r_iload_n (i := 1) dX10_nameHere_2 rfl rfl rfl) ?_
    refine im_st (r_bipush (v := 7) dX10_nameHere_3 rfl kB_7) ?_
    refine im_br (r_icmp_ge (tgt := 118) dX10_nameHere_5 rfl (by decide)) (fun c2 => ?_) (fun c2 => ?_)
    · refine im_st (r_fgt (L1 := [none, none, none, none]) [0, 1] rfl) ?_
      exact im_ret id
    · refine im_st (r_aload_n (i := 0) dX10_nameHere_8 rfl rfl rfl) ?_
      refine im_st (s_getI (tag := 10) (j := 12) dX10_nameHere_9 rfl fl_X10_66 rfl (Nat.le_of_ble_eq_true rfl) rfl) ?_
      refine im_st (r_iconst (v := 1) dX10_nameHere_12 rfl kI_1) ?_
      refine im_br (r_icmp_ne (tgt := 118) dX10_nameHere_13 rfl (by decide)) (fun c3 => ?_) (fun c3 => ?_)
      · refine im_st (r_aload_n (i := 0) dX10_nameHere_16 rfl rfl rfl) ?_
        refine im_st (s_getI (tag := 10) (j := 10) dX10_nameHere_17 rfl fl_X10_69 rfl (Nat.le_of_ble_eq_true rfl) rfl) ?_
        refine im_st (r_aload_n (i := 0) dX10_nameHere_20 rfl rfl rfl) ?_
        refine im_st (s_getI (tag := 10) (j := 11) dX10_nameHere_21 rfl fl_X10_60 rfl (Nat.le_of_ble_eq_true rfl) rfl) ?_
        refine im_st (r_isub dX10_nameHere_24 rfl) ?_
        refine im_st (r_aload_n (i := 0) dX10_nameHere_25 rfl rfl rfl) ?_
        refine im_st (s_getR (b := 79) (tag := 10) (j := 14) dX10_nameHere_26 rfl fl_X10_19 rfl (Nat.le_of_ble_eq_true rfl) rfl rfl) ?_
        refine im_st (r_iload_n (i := 1) dX10_nameHere_29 rfl rfl rfl) ?_
        refine im_st (r_iconst (v := 1) dX10_nameHere_30 rfl kI_1) ?_
        refine im_st (r_iadd dX10_nameHere_31 rfl) ?_
        refine im_grd (fun g4 => ?_)
        refine im_st (s_iaload dX10_nameHere_32 rfl rfl (Nat.le_of_ble_eq_true rfl) (inR_in g4)) ?_
        refine im_st (r_aload_n (i := 0) dX10_nameHere_33 rfl rfl rfl) ?_
        refine im_st (s_getR (b := 79) (tag := 10) (j := 14) dX10_nameHere_34 rfl fl_X10_19 rfl (Nat.le_of_ble_eq_true rfl) rfl rfl) ?_
        refine im_st (r_iload_n (i := 1) dX10_nameHere_37 rfl rfl rfl) ?_
        refine im_grd (fun g5 => ?_)
        refine im_st (s_iaload dX10_nameHere_38 rfl rfl (Nat.le_of_ble_eq_true rfl) (inR_in g5)) ?_
        refine im_st (r_isub dX10_nameHere_39 rfl) ?_
        refine im_seqT (Gm := fun (j6 : Int32) => Go M_X10_nameHere Q 0 0 48 [some (.ref 75), some (.int s1), none, none] [.int j6] (mk σ τ)) ?_ (fun j6 => ?_)
        · refine im_brS (r_icmp_ne (tgt := 47) dX10_nameHere_40 rfl (by decide)) (fun c7 => ?_) (fun c7 => ?_)
          · refine im_st (r_iconst (v := 1) dX10_nameHere_43 rfl kI_1) ?_
            refine im_st (r_goto (pc1 := 48) dX10_nameHere_44 (by decide)) ?_
            exact im_ret id
          · refine im_st (r_iconst (v := 0) dX10_nameHere_47 rfl kI_0) ?_
            exact im_ret id
        refine im_st (r_istore_n (i := 2) (L1 := [some (.ref 75), some (.int s1), some (.int j6), none]) dX10_nameHere_48 rfl rfl (by decide) rfl) ?_
        refine im_st (r_iconst (v := 0) dX10_nameHere_49 rfl kI_0) ?_
        refine im_st (r_istore_n (i := 3) (L1 := [some (.ref 75), some (.int s1), some (.int j6), some (.int (0 : Int32))]) dX10_nameHere_50 rfl rfl (by decide) rfl) ?_
        refine im_seq (Gm := fun (e16 : (Int32 × Int32)) => Go M_X10_nameHere Q 0 0 106 [some (.ref 75), some (.int s1), some (.int e16.1), none] [] (mk σ τ)) ?_ (fun e16 => ?_)
        · refine im_wh (G := fun (s8 : (Int32 × Int32)) => Go M_X10_nameHere Q 0 0 51 [some (.ref 75), some (.int s1), some (.int s8.1), some (.int s8.2)] [] (mk σ τ)) (fun s8 => ?_) _ _
          unfold b_X10_nameHere_51
          refine im_st (r_iload_n (i := 2) dX10_nameHere_51 rfl rfl rfl) ?_
          refine im_br (r_if_eq (tgt := 106) dX10_nameHere_52 rfl (by decide)) (fun c9 => ?_) (fun c9 => ?_)
          · refine im_st (r_fgt (L1 := [some (.ref 75), some (.int s1), some (.int s8.1), none]) [3] rfl) ?_
            exact im_ret id
          · refine im_st (r_iload_n (i := 3) dX10_nameHere_55 rfl rfl rfl) ?_
            refine im_st (r_aload_n (i := 0) dX10_nameHere_56 rfl rfl rfl) ?_
            refine im_st (s_getI (tag := 10) (j := 10) dX10_nameHere_57 rfl fl_X10_69 rfl (Nat.le_of_ble_eq_true rfl) rfl) ?_
            refine im_st (r_aload_n (i := 0) dX10_nameHere_60 rfl rfl rfl) ?_
            refine im_st (s_getI (tag := 10) (j := 11) dX10_nameHere_61 rfl fl_X10_60 rfl (Nat.le_of_ble_eq_true rfl) rfl) ?_
            refine im_st (r_isub dX10_nameHere_64 rfl) ?_
            refine im_br (r_icmp_ge (tgt := 106) dX10_nameHere_65 rfl (by decide)) (fun c10 => ?_) (fun c10 => ?_)
            · refine im_st (r_fgt (L1 := [some (.ref 75), some (.int s1), some (.int s8.1), none]) [3] rfl) ?_
              exact im_ret id
            · refine im_st (r_aload_n (i := 0) dX10_nameHere_68 rfl rfl rfl) ?_
              refine im_st (r_aload_n (i := 0) dX10_nameHere_69 rfl rfl rfl) ?_
              refine im_st (s_getI (tag := 10) (j := 11) dX10_nameHere_70 rfl fl_X10_60 rfl (Nat.le_of_ble_eq_true rfl) rfl) ?_
              refine im_st (r_iload_n (i := 3) dX10_nameHere_73 rfl rfl rfl) ?_
              refine im_st (r_iadd dX10_nameHere_74 rfl) ?_
              refine im_bind (fun y11 hy11 => ?_)
              refine im_st (r_callV (as := [.int ((σ 75 11) + s8.2)]) (r := some (.int y11)) (kc1 := 0) (ks1 := 0) (st := []) (st1 := [.int y11]) (e_X10_byteAt ((σ 75 11) + s8.2) σ τ y11 hy11) mv_X10_byteAt lk_X10_72 ⟨by decide, by decide⟩ rfl (Nat.le_of_ble_eq_true rfl) (by decide) ⟨_, rfl, rfl⟩ ⟨by decide, by decide⟩ (Nat.le_of_ble_eq_true rfl) dX10_nameHere_75 rfl rfl rfl rfl rfl) ?_
              refine im_st (r_aload_n (i := 0) dX10_nameHere_78 rfl rfl rfl) ?_
              refine im_st (s_getR (b := 80) (tag := 10) (j := 15) dX10_nameHere_79 rfl fl_X10_22 rfl (Nat.le_of_ble_eq_true rfl) rfl rfl) ?_
              refine im_st (r_aload_n (i := 0) dX10_nameHere_82 rfl rfl rfl) ?_
              refine im_st (s_getR (b := 79) (tag := 10) (j := 14) dX10_nameHere_83 rfl fl_X10_19 rfl (Nat.le_of_ble_eq_true rfl) rfl rfl) ?_
              refine im_st (r_iload_n (i := 1) dX10_nameHere_86 rfl rfl rfl) ?_
              refine im_grd (fun g12 => ?_)
              refine im_st (s_iaload dX10_nameHere_87 rfl rfl (Nat.le_of_ble_eq_true rfl) (inR_in g12)) ?_
              refine im_st (r_iload_n (i := 3) dX10_nameHere_88 rfl rfl rfl) ?_
              refine im_st (r_iadd dX10_nameHere_89 rfl) ?_
              refine im_grd (fun g13 => ?_)
              refine im_st (s_iaload dX10_nameHere_90 rfl rfl (Nat.le_of_ble_eq_true rfl) (inR_in g13)) ?_
              refine im_seqT (Gm := fun (j14 : Int32) => Go M_X10_nameHere Q 0 0 99 [some (.ref 75), some (.int s1), none, some (.int s8.2)] [.int j14] (mk σ τ)) ?_ (fun j14 => ?_)
              · refine im_brS (r_icmp_ne (tgt := 98) dX10_nameHere_91 rfl (by decide)) (fun c15 => ?_) (fun c15 => ?_)
                · refine im_st (r_iconst (v := 1) dX10_nameHere_94 rfl kI_1) ?_
                  refine im_st (r_goto (pc1 := 99) dX10_nameHere_95 (by decide)) ?_
                  refine im_st (r_fgt (L1 := [some (.ref 75), some (.int s1), none, some (.int s8.2)]) [2] rfl) ?_
                  exact im_ret id
                · refine im_st (r_iconst (v := 0) dX10_nameHere_98 rfl kI_0) ?_
                  refine im_st (r_fgt (L1 := [some (.ref 75), some (.int s1), none, some (.int s8.2)]) [2] rfl) ?_
                  exact im_ret id
              refine im_st (r_istore_n (i := 2) (L1 := [some (.ref 75), some (.int s1), some (.int j14), some (.int s8.2)]) dX10_nameHere_99 rfl rfl (by decide) rfl) ?_
              refine im_st (r_iinc (i := 3) (x := s8.2) (v := (s8.2 + 1)) (L1 := [some (.ref 75), some (.int s1), some (.int j14), some (.int (s8.2 + 1))]) dX10_nameHere_100 rfl rfl rfl (by decide) rfl) ?_
              refine im_st (r_goto (pc1 := 51) dX10_nameHere_103 (by decide)) ?_
              exact im_ret id
        refine im_st (r_iload_n (i := 2) dX10_nameHere_106 rfl rfl rfl) ?_
        refine im_br (r_if_eq (tgt := 112) dX10_nameHere_107 rfl (by decide)) (fun c17 => ?_) (fun c17 => ?_)
        · refine im_st (r_iinc (i := 1) (x := s1) (v := (s1 + 1)) (L1 := [some (.ref 75), some (.int (s1 + 1)), some (.int e16.1), none]) dX10_nameHere_112 rfl rfl rfl (by decide) rfl) ?_
          refine im_st (r_goto (pc1 := 2) dX10_nameHere_115 (by decide)) ?_
          refine im_st (r_fgt (L1 := [some (.ref 75), some (.int (s1 + 1)), none, none]) [2] rfl) ?_
          exact im_ret id
        · refine im_st (r_iload_n (i := 1) dX10_nameHere_110 rfl rfl rfl) ?_
          exact im_ret (fun q => g_iret rfl rfl rfl dX10_nameHere_111 q)
      · refine im_st (r_fgt (L1 := [none, none, none, none]) [0, 1] rfl) ?_
        exact im_ret id
  refine im_sum (fun e18 => ?_) (fun y19 => im_ret id) r20
  refine im_st (r_bipush (v := -4) dX10_nameHere_118 rfl kB_m4) ?_
  exact im_ret (fun q => g_iret rfl rfl rfl dX10_nameHere_120 q)
theorem e_X10_nameHere (σ : Sg) (τ : Sl) (y : Int32) (hy : f_X10_nameHere σ = some y) : EvD M_X10_nameHere [.ref 75] (mk σ τ) (some (.int y)) (mk σ τ) := EvM.of (by decide +kernel) (Nat.le_of_ble_eq_true rfl) (i_X10_nameHere σ τ _ y hy ⟨rfl, rfl⟩)
def M_X10_step : Ms := (yX10_step, cX10_step, 2, none, 1, 25, 0, 0)
theorem mv_X10_step : MV M_X10_step 0 := ⟨⟨q1094, q12, by decide, by decide, by decide +kernel⟩, q1093, p23⟩
def b_X10_step_8 : Sg → Option (Sg ⊕ Sg) := fun (s2 : Sg) =>
  (f_X10_byteAt (s2 75 10) s2).bind fun (y3 : Int32) =>
  if y3 = (32 : Int32) then
    some (.inl (up2 s2 75 10 ((s2 75 10) + (1 : Int32))))
  else
    some (.inr s2)
def b_X10_step_140 : Sg → Option (Sg ⊕ Sg) := fun (s17 : Sg) =>
  (f_X10_byteAt (s17 75 10) s17).bind fun (y18 : Int32) =>
  if (f_X10_in (y18.toInt64) (48 : Int64) (57 : Int64)) = 0 then
    some (.inr s17)
  else
    (if (2 : Int32) ≤ ((s17 75 10) - (s17 75 11)) then
      some (s17 75 13)
    else
      (f_X10_byteAt (s17 75 10) s17).bind fun (y22 : Int32) =>
      some ((((10 : Int32) * (s17 75 13)) + y22) - (48 : Int32))).bind fun (j20 : Int32) =>
    app (up2 s17 75 13 j20) fun (σ23 : Sg) =>
    some (.inl (up2 σ23 75 10 ((σ23 75 10) + (1 : Int32))))
def b_X10_step_84 : Sg → Option (Sg ⊕ Sg) := fun (s28 : Sg) =>
  (f_X10_byteAt (s28 75 10) s28).bind fun (y29 : Int32) =>
  if (f_X10_in (y29.toInt64) (97 : Int64) (122 : Int64)) = 0 then
    some (.inr s28)
  else
    some (.inl (up2 s28 75 10 ((s28 75 10) + (1 : Int32))))
def f_X10_step (σ : Sg) : Option Sg :=
  if (σ 75 8) ≤ 0 then
    (wh b_X10_step_8 4096 σ).bind fun (e5 : Sg) =>
    app (up2 e5 75 11 (e5 75 10)) fun (σ6 : Sg) =>
    (f_X10_byteAt (σ6 75 10) σ6).bind fun (y7 : Int32) =>
    if y7 = (-4 : Int32) then
      app (up2 σ6 75 13 (0 : Int32)) fun (σ9 : Sg) =>
      some (up2 σ9 75 12 (0 : Int32))
    else
      if (f_X10_in (y7.toInt64) (97 : Int64) (122 : Int64)) = 0 then
        if (f_X10_in (y7.toInt64) (48 : Int64) (57 : Int64)) = 0 then
          app (up2 σ6 75 13 (0 : Int32)) fun (σ12 : Sg) =>
          app (up2 σ12 75 12 (3 : Int32)) fun (σ13 : Sg) =>
          if y7 = (59 : Int32) then
            some (up2 σ13 75 10 ((σ13 75 10) + (1 : Int32)))
          else
            app (up2 σ13 75 10 ((σ13 75 10) + (1 : Int32))) fun (σ15 : Sg) =>
            some (f_X10_fails (1 : Int32) σ15)
        else
          app (up2 σ6 75 13 (0 : Int32)) fun (σ16 : Sg) =>
          (wh b_X10_step_140 4096 σ16).bind fun (e24 : Sg) =>
          app (up2 e24 75 12 (2 : Int32)) fun (σ25 : Sg) =>
          if ((σ25 75 10) - (σ25 75 11)) ≤ (2 : Int32) then
            some σ25
          else
            some (f_X10_fails (1 : Int32) σ25)
      else
        app (up2 σ6 75 13 (0 : Int32)) fun (σ27 : Sg) =>
        (wh b_X10_step_84 4096 σ27).bind fun (e31 : Sg) =>
        some (up2 e31 75 12 (1 : Int32))
  else
    some σ
set_option maxHeartbeats 4000000 in
set_option maxRecDepth 20000 in
theorem i_X10_step (σ : Sg) (τ : Sl) (Q : Option Value → Hp → Prop) : Imp (f_X10_step σ) (fun (y : Sg) => Q (none) (mk y τ)) (Go M_X10_step Q 0 0 0 [some (.ref 75), none] [] (mk σ τ)) := by
  unfold f_X10_step
  refine im_st (r_aload_n (i := 0) dX10_step_0 rfl rfl rfl) ?_
  refine im_st (s_getI (tag := 10) (j := 8) dX10_step_1 rfl fl_X10_57 rfl (Nat.le_of_ble_eq_true rfl) rfl) ?_
  refine im_br (r_if_le (tgt := 8) dX10_step_4 rfl (by decide)) (fun c1 => ?_) (fun c1 => ?_)
  · refine im_seq (Gm := fun (e5 : Sg) => Go M_X10_step Q 0 0 34 [some (.ref 75), none] [] (mk e5 τ)) ?_ (fun e5 => ?_)
    · refine im_wh (G := fun (s2 : Sg) => Go M_X10_step Q 0 0 8 [some (.ref 75), none] [] (mk s2 τ)) (fun s2 => ?_) _ _
      unfold b_X10_step_8
      refine im_st (r_aload_n (i := 0) dX10_step_8 rfl rfl rfl) ?_
      refine im_st (r_aload_n (i := 0) dX10_step_9 rfl rfl rfl) ?_
      refine im_st (s_getI (tag := 10) (j := 10) dX10_step_10 rfl fl_X10_69 rfl (Nat.le_of_ble_eq_true rfl) rfl) ?_
      refine im_bind (fun y3 hy3 => ?_)
      refine im_st (r_callV (as := [.int (s2 75 10)]) (r := some (.int y3)) (kc1 := 0) (ks1 := 0) (st := []) (st1 := [.int y3]) (e_X10_byteAt (s2 75 10) s2 τ y3 hy3) mv_X10_byteAt lk_X10_72 ⟨by decide, by decide⟩ rfl (Nat.le_of_ble_eq_true rfl) (by decide) ⟨_, rfl, rfl⟩ ⟨by decide, by decide⟩ (Nat.le_of_ble_eq_true rfl) dX10_step_13 rfl rfl rfl rfl rfl) ?_
      refine im_st (r_bipush (v := 32) dX10_step_16 rfl kB_32) ?_
      refine im_br (r_icmp_ne (tgt := 34) dX10_step_18 rfl (by decide)) (fun c4 => ?_) (fun c4 => ?_)
      · refine im_st (r_aload_n (i := 0) dX10_step_21 rfl rfl rfl) ?_
        refine im_st (r_dup dX10_step_22 rfl rfl) ?_
        refine im_st (s_getI (tag := 10) (j := 10) dX10_step_23 rfl fl_X10_69 rfl (Nat.le_of_ble_eq_true rfl) rfl) ?_
        refine im_st (r_iconst (v := 1) dX10_step_26 rfl kI_1) ?_
        refine im_st (r_iadd dX10_step_27 rfl) ?_
        refine im_st (s_putI (tag := 10) (j := 10) dX10_step_28 rfl fl_X10_69 rfl (Nat.le_of_ble_eq_true rfl) rfl fw_10_10) ?_
        refine im_st (r_goto (pc1 := 8) dX10_step_31 (by decide)) ?_
        exact im_ret id
      · exact im_ret id
    refine im_st (r_aload_n (i := 0) dX10_step_34 rfl rfl rfl) ?_
    refine im_st (r_aload_n (i := 0) dX10_step_35 rfl rfl rfl) ?_
    refine im_st (s_getI (tag := 10) (j := 10) dX10_step_36 rfl fl_X10_69 rfl (Nat.le_of_ble_eq_true rfl) rfl) ?_
    refine im_st (s_putI (tag := 10) (j := 11) dX10_step_39 rfl fl_X10_60 rfl (Nat.le_of_ble_eq_true rfl) rfl fw_10_11) ?_
    refine im_st (r_aload_n (i := 0) dX10_step_42 rfl rfl rfl) ?_
    refine im_st (r_aload_n (i := 0) dX10_step_43 rfl rfl rfl) ?_
    refine im_app (Gm := fun (σ6 : Sg) => Go M_X10_step Q 0 0 44 [some (.ref 75), none] [.ref 75, .ref 75] (mk σ6 τ)) (fun σ6 => ?_)
    refine im_st (s_getI (tag := 10) (j := 10) dX10_step_44 rfl fl_X10_69 rfl (Nat.le_of_ble_eq_true rfl) rfl) ?_
    refine im_bind (fun y7 hy7 => ?_)
    refine im_st (r_callV (as := [.int (σ6 75 10)]) (r := some (.int y7)) (kc1 := 0) (ks1 := 0) (st := []) (st1 := [.int y7]) (e_X10_byteAt (σ6 75 10) σ6 τ y7 hy7) mv_X10_byteAt lk_X10_72 ⟨by decide, by decide⟩ rfl (Nat.le_of_ble_eq_true rfl) (by decide) ⟨_, rfl, rfl⟩ ⟨by decide, by decide⟩ (Nat.le_of_ble_eq_true rfl) dX10_step_47 rfl rfl rfl rfl rfl) ?_
    refine im_st (r_istore_n (i := 1) (L1 := [some (.ref 75), some (.int y7)]) dX10_step_50 rfl rfl (by decide) rfl) ?_
    refine im_st (r_aload_n (i := 0) dX10_step_51 rfl rfl rfl) ?_
    refine im_st (r_iconst (v := 0) dX10_step_52 rfl kI_0) ?_
    refine im_st (s_putI (tag := 10) (j := 13) dX10_step_53 rfl fl_X10_76 rfl (Nat.le_of_ble_eq_true rfl) rfl fw_10_13) ?_
    refine im_st (r_iload_n (i := 1) dX10_step_56 rfl rfl rfl) ?_
    refine im_st (r_bipush (v := -4) dX10_step_57 rfl kB_m4) ?_
    refine im_br (r_icmp_ne (tgt := 70) dX10_step_59 rfl (by decide)) (fun c8 => ?_) (fun c8 => ?_)
    · refine im_st (r_aload_n (i := 0) dX10_step_62 rfl rfl rfl) ?_
      refine im_st (r_iconst (v := 0) dX10_step_63 rfl kI_0) ?_
      refine im_app (Gm := fun (σ9 : Sg) => Go M_X10_step Q 0 0 64 [some (.ref 75), some (.int y7)] [.int (0 : Int32), .ref 75] (mk σ9 τ)) (fun σ9 => ?_)
      refine im_st (s_putI (tag := 10) (j := 12) dX10_step_64 rfl fl_X10_66 rfl (Nat.le_of_ble_eq_true rfl) rfl fw_10_12) ?_
      refine im_st (r_goto (pc1 := 269) dX10_step_67 (by decide)) ?_
      exact im_ret (fun q => g_vret rfl rfl rfl dX10_step_269 q)
    · refine im_st (r_iload_n (i := 1) dX10_step_70 rfl rfl rfl) ?_
      refine im_st (r_i2l (v := y7.toInt64) dX10_step_71 rfl rfl) ?_
      refine im_st (r_ldc2 (v := 97) dX10_step_72 rfl q1099) ?_
      refine im_st (r_ldc2 (v := 122) dX10_step_75 rfl q1100) ?_
      refine im_st (r_callS (as := [.long (y7.toInt64), .long (97 : Int64), .long (122 : Int64)]) (r := some (.int (f_X10_in (y7.toInt64) (97 : Int64) (122 : Int64)))) (kc1 := 0) (ks1 := 0) (st := []) (st1 := [.int (f_X10_in (y7.toInt64) (97 : Int64) (122 : Int64))]) (e_X10_in (y7.toInt64) (97 : Int64) (122 : Int64) (up2 σ6 75 13 (0 : Int32)) τ) ms_X10_in lk_X10_49 ⟨by decide, by decide⟩ ⟨by decide, by decide⟩ (Nat.le_of_ble_eq_true rfl) dX10_step_78 rfl rfl rfl rfl rfl) ?_
      refine im_br (r_if_eq (tgt := 126) dX10_step_81 rfl (by decide)) (fun c10 => ?_) (fun c10 => ?_)
      · refine im_st (r_iload_n (i := 1) dX10_step_126 rfl rfl rfl) ?_
        refine im_st (r_i2l (v := y7.toInt64) dX10_step_127 rfl rfl) ?_
        refine im_st (r_ldc2 (v := 48) dX10_step_128 rfl q1101) ?_
        refine im_st (r_ldc2 (v := 57) dX10_step_131 rfl q1102) ?_
        refine im_st (r_callS (as := [.long (y7.toInt64), .long (48 : Int64), .long (57 : Int64)]) (r := some (.int (f_X10_in (y7.toInt64) (48 : Int64) (57 : Int64)))) (kc1 := 0) (ks1 := 0) (st := []) (st1 := [.int (f_X10_in (y7.toInt64) (48 : Int64) (57 : Int64))]) (e_X10_in (y7.toInt64) (48 : Int64) (57 : Int64) (up2 σ6 75 13 (0 : Int32)) τ) ms_X10_in lk_X10_49 ⟨by decide, by decide⟩ ⟨by decide, by decide⟩ (Nat.le_of_ble_eq_true rfl) dX10_step_134 rfl rfl rfl rfl rfl) ?_
        refine im_br (r_if_eq (tgt := 243) dX10_step_137 rfl (by decide)) (fun c11 => ?_) (fun c11 => ?_)
        · refine im_st (r_aload_n (i := 0) dX10_step_243 rfl rfl rfl) ?_
          refine im_st (r_iconst (v := 3) dX10_step_244 rfl kI_3) ?_
          refine im_app (Gm := fun (σ12 : Sg) => Go M_X10_step Q 0 0 245 [some (.ref 75), some (.int y7)] [.int (3 : Int32), .ref 75] (mk σ12 τ)) (fun σ12 => ?_)
          refine im_st (s_putI (tag := 10) (j := 12) dX10_step_245 rfl fl_X10_66 rfl (Nat.le_of_ble_eq_true rfl) rfl fw_10_12) ?_
          refine im_st (r_aload_n (i := 0) dX10_step_248 rfl rfl rfl) ?_
          refine im_st (r_dup dX10_step_249 rfl rfl) ?_
          refine im_app (Gm := fun (σ13 : Sg) => Go M_X10_step Q 0 0 250 [some (.ref 75), some (.int y7)] [.ref 75, .ref 75] (mk σ13 τ)) (fun σ13 => ?_)
          refine im_st (s_getI (tag := 10) (j := 10) dX10_step_250 rfl fl_X10_69 rfl (Nat.le_of_ble_eq_true rfl) rfl) ?_
          refine im_st (r_iconst (v := 1) dX10_step_253 rfl kI_1) ?_
          refine im_st (r_iadd dX10_step_254 rfl) ?_
          refine im_st (s_putI (tag := 10) (j := 10) dX10_step_255 rfl fl_X10_69 rfl (Nat.le_of_ble_eq_true rfl) rfl fw_10_10) ?_
          refine im_st (r_iload_n (i := 1) dX10_step_258 rfl rfl rfl) ?_
          refine im_st (r_bipush (v := 59) dX10_step_259 rfl kB_59) ?_
          refine im_br (r_icmp_eq (tgt := 269) dX10_step_261 rfl (by decide)) (fun c14 => ?_) (fun c14 => ?_)
          · exact im_ret (fun q => g_vret rfl rfl rfl dX10_step_269 q)
          · refine im_st (r_aload_n (i := 0) dX10_step_264 rfl rfl rfl) ?_
            refine im_st (r_iconst (v := 1) dX10_step_265 rfl kI_1) ?_
            refine im_app (Gm := fun (σ15 : Sg) => Go M_X10_step Q 0 0 266 [some (.ref 75), some (.int y7)] [.int (1 : Int32), .ref 75] (mk σ15 τ)) (fun σ15 => ?_)
            refine im_st (r_callV (as := [.int (1 : Int32)]) (r := none) (kc1 := 0) (ks1 := 0) (st := []) (st1 := []) (e_X10_fails (1 : Int32) σ15 τ) mv_X10_fails lk_X10_87 ⟨by decide, by decide⟩ rfl (Nat.le_of_ble_eq_true rfl) (by decide) ⟨_, rfl, rfl⟩ ⟨by decide, by decide⟩ (Nat.le_of_ble_eq_true rfl) dX10_step_266 rfl rfl rfl rfl rfl) ?_
            exact im_ret (fun q => g_vret rfl rfl rfl dX10_step_269 q)
        · refine im_app (Gm := fun (σ16 : Sg) => Go M_X10_step Q 0 0 140 [some (.ref 75), some (.int y7)] [] (mk σ16 τ)) (fun σ16 => ?_)
          refine im_st (r_fgt (L1 := [some (.ref 75), none]) [1] rfl) ?_
          refine im_seq (Gm := fun (e24 : Sg) => Go M_X10_step Q 0 0 217 [some (.ref 75), none] [] (mk e24 τ)) ?_ (fun e24 => ?_)
          · refine im_wh (G := fun (s17 : Sg) => Go M_X10_step Q 0 0 140 [some (.ref 75), none] [] (mk s17 τ)) (fun s17 => ?_) _ _
            unfold b_X10_step_140
            refine im_st (r_aload_n (i := 0) dX10_step_140 rfl rfl rfl) ?_
            refine im_st (r_aload_n (i := 0) dX10_step_141 rfl rfl rfl) ?_
            refine im_st (s_getI (tag := 10) (j := 10) dX10_step_142 rfl fl_X10_69 rfl (Nat.le_of_ble_eq_true rfl) rfl) ?_
            refine im_bind (fun y18 hy18 => ?_)
            refine im_st (r_callV (as := [.int (s17 75 10)]) (r := some (.int y18)) (kc1 := 0) (ks1 := 0) (st := []) (st1 := [.int y18]) (e_X10_byteAt (s17 75 10) s17 τ y18 hy18) mv_X10_byteAt lk_X10_72 ⟨by decide, by decide⟩ rfl (Nat.le_of_ble_eq_true rfl) (by decide) ⟨_, rfl, rfl⟩ ⟨by decide, by decide⟩ (Nat.le_of_ble_eq_true rfl) dX10_step_145 rfl rfl rfl rfl rfl) ?_
            refine im_st (r_i2l (v := y18.toInt64) dX10_step_148 rfl rfl) ?_
            refine im_st (r_ldc2 (v := 48) dX10_step_149 rfl q1101) ?_
            refine im_st (r_ldc2 (v := 57) dX10_step_152 rfl q1102) ?_
            refine im_st (r_callS (as := [.long (y18.toInt64), .long (48 : Int64), .long (57 : Int64)]) (r := some (.int (f_X10_in (y18.toInt64) (48 : Int64) (57 : Int64)))) (kc1 := 0) (ks1 := 0) (st := []) (st1 := [.int (f_X10_in (y18.toInt64) (48 : Int64) (57 : Int64))]) (e_X10_in (y18.toInt64) (48 : Int64) (57 : Int64) s17 τ) ms_X10_in lk_X10_49 ⟨by decide, by decide⟩ ⟨by decide, by decide⟩ (Nat.le_of_ble_eq_true rfl) dX10_step_155 rfl rfl rfl rfl rfl) ?_
            refine im_br (r_if_eq (tgt := 217) dX10_step_158 rfl (by decide)) (fun c19 => ?_) (fun c19 => ?_)
            · exact im_ret id
            · refine im_st (r_aload_n (i := 0) dX10_step_161 rfl rfl rfl) ?_
              refine im_st (r_aload_n (i := 0) dX10_step_162 rfl rfl rfl) ?_
              refine im_st (s_getI (tag := 10) (j := 10) dX10_step_163 rfl fl_X10_69 rfl (Nat.le_of_ble_eq_true rfl) rfl) ?_
              refine im_st (r_aload_n (i := 0) dX10_step_166 rfl rfl rfl) ?_
              refine im_st (s_getI (tag := 10) (j := 11) dX10_step_167 rfl fl_X10_60 rfl (Nat.le_of_ble_eq_true rfl) rfl) ?_
              refine im_st (r_isub dX10_step_170 rfl) ?_
              refine im_st (r_iconst (v := 2) dX10_step_171 rfl kI_2) ?_
              refine im_seq (Gm := fun (j20 : Int32) => Go M_X10_step Q 0 0 201 [some (.ref 75), none] [.int j20, .ref 75] (mk s17 τ)) ?_ (fun j20 => ?_)
              · refine im_br (r_icmp_ge (tgt := 197) dX10_step_172 rfl (by decide)) (fun c21 => ?_) (fun c21 => ?_)
                · refine im_st (r_aload_n (i := 0) dX10_step_197 rfl rfl rfl) ?_
                  refine im_st (s_getI (tag := 10) (j := 13) dX10_step_198 rfl fl_X10_76 rfl (Nat.le_of_ble_eq_true rfl) rfl) ?_
                  exact im_ret id
                · refine im_st (r_bipush (v := 10) dX10_step_175 rfl kB_10) ?_
                  refine im_st (r_aload_n (i := 0) dX10_step_177 rfl rfl rfl) ?_
                  refine im_st (s_getI (tag := 10) (j := 13) dX10_step_178 rfl fl_X10_76 rfl (Nat.le_of_ble_eq_true rfl) rfl) ?_
                  refine im_st (r_imul dX10_step_181 rfl) ?_
                  refine im_st (r_aload_n (i := 0) dX10_step_182 rfl rfl rfl) ?_
                  refine im_st (r_aload_n (i := 0) dX10_step_183 rfl rfl rfl) ?_
                  refine im_st (s_getI (tag := 10) (j := 10) dX10_step_184 rfl fl_X10_69 rfl (Nat.le_of_ble_eq_true rfl) rfl) ?_
                  refine im_bind (fun y22 hy22 => ?_)
                  refine im_st (r_callV (as := [.int (s17 75 10)]) (r := some (.int y22)) (kc1 := 0) (ks1 := 0) (st := [.int ((10 : Int32) * (s17 75 13)), .ref 75]) (st1 := [.int y22, .int ((10 : Int32) * (s17 75 13)), .ref 75]) (e_X10_byteAt (s17 75 10) s17 τ y22 hy22) mv_X10_byteAt lk_X10_72 ⟨by decide, by decide⟩ rfl (Nat.le_of_ble_eq_true rfl) (by decide) ⟨_, rfl, rfl⟩ ⟨by decide, by decide⟩ (Nat.le_of_ble_eq_true rfl) dX10_step_187 rfl rfl rfl rfl rfl) ?_
                  refine im_st (r_iadd dX10_step_190 rfl) ?_
                  refine im_st (r_bipush (v := 48) dX10_step_191 rfl kB_48) ?_
                  refine im_st (r_isub dX10_step_193 rfl) ?_
                  refine im_st (r_goto (pc1 := 201) dX10_step_194 (by decide)) ?_
                  exact im_ret id
              refine im_st (s_putI (tag := 10) (j := 13) dX10_step_201 rfl fl_X10_76 rfl (Nat.le_of_ble_eq_true rfl) rfl fw_10_13) ?_
              refine im_st (r_aload_n (i := 0) dX10_step_204 rfl rfl rfl) ?_
              refine im_st (r_dup dX10_step_205 rfl rfl) ?_
              refine im_app (Gm := fun (σ23 : Sg) => Go M_X10_step Q 0 0 206 [some (.ref 75), none] [.ref 75, .ref 75] (mk σ23 τ)) (fun σ23 => ?_)
              refine im_st (s_getI (tag := 10) (j := 10) dX10_step_206 rfl fl_X10_69 rfl (Nat.le_of_ble_eq_true rfl) rfl) ?_
              refine im_st (r_iconst (v := 1) dX10_step_209 rfl kI_1) ?_
              refine im_st (r_iadd dX10_step_210 rfl) ?_
              refine im_st (s_putI (tag := 10) (j := 10) dX10_step_211 rfl fl_X10_69 rfl (Nat.le_of_ble_eq_true rfl) rfl fw_10_10) ?_
              refine im_st (r_goto (pc1 := 140) dX10_step_214 (by decide)) ?_
              exact im_ret id
          refine im_st (r_aload_n (i := 0) dX10_step_217 rfl rfl rfl) ?_
          refine im_st (r_iconst (v := 2) dX10_step_218 rfl kI_2) ?_
          refine im_st (s_putI (tag := 10) (j := 12) dX10_step_219 rfl fl_X10_66 rfl (Nat.le_of_ble_eq_true rfl) rfl fw_10_12) ?_
          refine im_st (r_aload_n (i := 0) dX10_step_222 rfl rfl rfl) ?_
          refine im_app (Gm := fun (σ25 : Sg) => Go M_X10_step Q 0 0 223 [some (.ref 75), none] [.ref 75] (mk σ25 τ)) (fun σ25 => ?_)
          refine im_st (s_getI (tag := 10) (j := 10) dX10_step_223 rfl fl_X10_69 rfl (Nat.le_of_ble_eq_true rfl) rfl) ?_
          refine im_st (r_aload_n (i := 0) dX10_step_226 rfl rfl rfl) ?_
          refine im_st (s_getI (tag := 10) (j := 11) dX10_step_227 rfl fl_X10_60 rfl (Nat.le_of_ble_eq_true rfl) rfl) ?_
          refine im_st (r_isub dX10_step_230 rfl) ?_
          refine im_st (r_iconst (v := 2) dX10_step_231 rfl kI_2) ?_
          refine im_br (r_icmp_le (tgt := 269) dX10_step_232 rfl (by decide)) (fun c26 => ?_) (fun c26 => ?_)
          · exact im_ret (fun q => g_vret rfl rfl rfl dX10_step_269 q)
          · refine im_st (r_aload_n (i := 0) dX10_step_235 rfl rfl rfl) ?_
            refine im_st (r_iconst (v := 1) dX10_step_236 rfl kI_1) ?_
            refine im_st (r_callV (as := [.int (1 : Int32)]) (r := none) (kc1 := 0) (ks1 := 0) (st := []) (st1 := []) (e_X10_fails (1 : Int32) σ25 τ) mv_X10_fails lk_X10_87 ⟨by decide, by decide⟩ rfl (Nat.le_of_ble_eq_true rfl) (by decide) ⟨_, rfl, rfl⟩ ⟨by decide, by decide⟩ (Nat.le_of_ble_eq_true rfl) dX10_step_237 rfl rfl rfl rfl rfl) ?_
            refine im_st (r_goto (pc1 := 269) dX10_step_240 (by decide)) ?_
            exact im_ret (fun q => g_vret rfl rfl rfl dX10_step_269 q)
      · refine im_app (Gm := fun (σ27 : Sg) => Go M_X10_step Q 0 0 84 [some (.ref 75), some (.int y7)] [] (mk σ27 τ)) (fun σ27 => ?_)
        refine im_st (r_fgt (L1 := [some (.ref 75), none]) [1] rfl) ?_
        refine im_seq (Gm := fun (e31 : Sg) => Go M_X10_step Q 0 0 118 [some (.ref 75), none] [] (mk e31 τ)) ?_ (fun e31 => ?_)
        · refine im_wh (G := fun (s28 : Sg) => Go M_X10_step Q 0 0 84 [some (.ref 75), none] [] (mk s28 τ)) (fun s28 => ?_) _ _
          unfold b_X10_step_84
          refine im_st (r_aload_n (i := 0) dX10_step_84 rfl rfl rfl) ?_
          refine im_st (r_aload_n (i := 0) dX10_step_85 rfl rfl rfl) ?_
          refine im_st (s_getI (tag := 10) (j := 10) dX10_step_86 rfl fl_X10_69 rfl (Nat.le_of_ble_eq_true rfl) rfl) ?_
          refine im_bind (fun y29 hy29 => ?_)
          refine im_st (r_callV (as := [.int (s28 75 10)]) (r := some (.int y29)) (kc1 := 0) (ks1 := 0) (st := []) (st1 := [.int y29]) (e_X10_byteAt (s28 75 10) s28 τ y29 hy29) mv_X10_byteAt lk_X10_72 ⟨by decide, by decide⟩ rfl (Nat.le_of_ble_eq_true rfl) (by decide) ⟨_, rfl, rfl⟩ ⟨by decide, by decide⟩ (Nat.le_of_ble_eq_true rfl) dX10_step_89 rfl rfl rfl rfl rfl) ?_
          refine im_st (r_i2l (v := y29.toInt64) dX10_step_92 rfl rfl) ?_
          refine im_st (r_ldc2 (v := 97) dX10_step_93 rfl q1099) ?_
          refine im_st (r_ldc2 (v := 122) dX10_step_96 rfl q1100) ?_
          refine im_st (r_callS (as := [.long (y29.toInt64), .long (97 : Int64), .long (122 : Int64)]) (r := some (.int (f_X10_in (y29.toInt64) (97 : Int64) (122 : Int64)))) (kc1 := 0) (ks1 := 0) (st := []) (st1 := [.int (f_X10_in (y29.toInt64) (97 : Int64) (122 : Int64))]) (e_X10_in (y29.toInt64) (97 : Int64) (122 : Int64) s28 τ) ms_X10_in lk_X10_49 ⟨by decide, by decide⟩ ⟨by decide, by decide⟩ (Nat.le_of_ble_eq_true rfl) dX10_step_99 rfl rfl rfl rfl rfl) ?_
          refine im_br (r_if_eq (tgt := 118) dX10_step_102 rfl (by decide)) (fun c30 => ?_) (fun c30 => ?_)
          · exact im_ret id
          · refine im_st (r_aload_n (i := 0) dX10_step_105 rfl rfl rfl) ?_
            refine im_st (r_dup dX10_step_106 rfl rfl) ?_
            refine im_st (s_getI (tag := 10) (j := 10) dX10_step_107 rfl fl_X10_69 rfl (Nat.le_of_ble_eq_true rfl) rfl) ?_
            refine im_st (r_iconst (v := 1) dX10_step_110 rfl kI_1) ?_
            refine im_st (r_iadd dX10_step_111 rfl) ?_
            refine im_st (s_putI (tag := 10) (j := 10) dX10_step_112 rfl fl_X10_69 rfl (Nat.le_of_ble_eq_true rfl) rfl fw_10_10) ?_
            refine im_st (r_goto (pc1 := 84) dX10_step_115 (by decide)) ?_
            exact im_ret id
        refine im_st (r_aload_n (i := 0) dX10_step_118 rfl rfl rfl) ?_
        refine im_st (r_iconst (v := 1) dX10_step_119 rfl kI_1) ?_
        refine im_st (s_putI (tag := 10) (j := 12) dX10_step_120 rfl fl_X10_66 rfl (Nat.le_of_ble_eq_true rfl) rfl fw_10_12) ?_
        refine im_st (r_goto (pc1 := 269) dX10_step_123 (by decide)) ?_
        exact im_ret (fun q => g_vret rfl rfl rfl dX10_step_269 q)
  · exact im_ret (fun q => g_vret rfl rfl rfl dX10_step_7 q)
theorem e_X10_step (σ : Sg) (τ : Sl) (y : Sg) (hy : f_X10_step σ = some y) : EvD M_X10_step [.ref 75] (mk σ τ) (none) (mk y τ) := EvM.of (by decide +kernel) (Nat.le_of_ble_eq_true rfl) (i_X10_step σ τ _ y hy ⟨rfl, rfl⟩)
def M_X10_number : Ms := (yX10_number, cX10_number, 4, some .int, 2, 46, 0, 0)
theorem mv_X10_number : MV M_X10_number 2 := ⟨⟨q1127, q12, by decide, by decide, by decide +kernel⟩, q1126, p30⟩
def f_X10_number (a1 : Int32) (a2 : Int32) (σ : Sg) : Option (Int32 × Sg) :=
  app (if (σ 75 8) = 0 then
    if (σ 75 12) = (2 : Int32) then
      σ
    else
      (f_X10_fails (2 : Int32) σ)
  else
    σ) fun (j1 : Sg) =>
  app (if (j1 75 8) = 0 then
    if (f_X10_in ((j1 75 13).toInt64) (a1.toInt64) (a2.toInt64)) = 0 then
      (f_X10_fails (3 : Int32) j1)
    else
      j1
  else
    j1) fun (j4 : Sg) =>
  app (if (j4 75 8) = 0 then
    (j4 75 13)
  else
    a1) fun (j7 : Int32) =>
  (f_X10_step j4).bind fun (y9 : Sg) =>
  some (j7, y9)
set_option maxHeartbeats 4000000 in
set_option maxRecDepth 20000 in
theorem i_X10_number (a1 : Int32) (a2 : Int32) (σ : Sg) (τ : Sl) (Q : Option Value → Hp → Prop) : Imp (f_X10_number a1 a2 σ) (fun (y : (Int32 × Sg)) => Q (some (.int y.1)) (mk y.2 τ)) (Go M_X10_number Q 0 0 0 [some (.ref 75), some (.int a1), some (.int a2), none] [] (mk σ τ)) := by
  unfold f_X10_number
  refine im_st (r_aload_n (i := 0) dX10_number_0 rfl rfl rfl) ?_
  refine im_st (s_getI (tag := 10) (j := 8) dX10_number_1 rfl fl_X10_57 rfl (Nat.le_of_ble_eq_true rfl) rfl) ?_
  refine im_seqT (Gm := fun (j1 : Sg) => Go M_X10_number Q 0 0 20 [some (.ref 75), some (.int a1), some (.int a2), none] [] (mk j1 τ)) ?_ (fun j1 => ?_)
  · refine im_brS (r_if_ne (tgt := 20) dX10_number_4 rfl (by decide)) (fun c2 => ?_) (fun c2 => ?_)
    · refine im_st (r_aload_n (i := 0) dX10_number_7 rfl rfl rfl) ?_
      refine im_st (s_getI (tag := 10) (j := 12) dX10_number_8 rfl fl_X10_66 rfl (Nat.le_of_ble_eq_true rfl) rfl) ?_
      refine im_st (r_iconst (v := 2) dX10_number_11 rfl kI_2) ?_
      refine im_brS (r_icmp_eq (tgt := 20) dX10_number_12 rfl (by decide)) (fun c3 => ?_) (fun c3 => ?_)
      · exact im_ret id
      · refine im_st (r_aload_n (i := 0) dX10_number_15 rfl rfl rfl) ?_
        refine im_st (r_iconst (v := 2) dX10_number_16 rfl kI_2) ?_
        refine im_st (r_callV (as := [.int (2 : Int32)]) (r := none) (kc1 := 0) (ks1 := 0) (st := []) (st1 := []) (e_X10_fails (2 : Int32) σ τ) mv_X10_fails lk_X10_87 ⟨by decide, by decide⟩ rfl (Nat.le_of_ble_eq_true rfl) (by decide) ⟨_, rfl, rfl⟩ ⟨by decide, by decide⟩ (Nat.le_of_ble_eq_true rfl) dX10_number_17 rfl rfl rfl rfl rfl) ?_
        exact im_ret id
    · exact im_ret id
  refine im_st (r_aload_n (i := 0) dX10_number_20 rfl rfl rfl) ?_
  refine im_st (s_getI (tag := 10) (j := 8) dX10_number_21 rfl fl_X10_57 rfl (Nat.le_of_ble_eq_true rfl) rfl) ?_
  refine im_seqT (Gm := fun (j4 : Sg) => Go M_X10_number Q 0 0 47 [some (.ref 75), some (.int a1), none, none] [] (mk j4 τ)) ?_ (fun j4 => ?_)
  · refine im_brS (r_if_ne (tgt := 47) dX10_number_24 rfl (by decide)) (fun c5 => ?_) (fun c5 => ?_)
    · refine im_st (r_aload_n (i := 0) dX10_number_27 rfl rfl rfl) ?_
      refine im_st (s_getI (tag := 10) (j := 13) dX10_number_28 rfl fl_X10_76 rfl (Nat.le_of_ble_eq_true rfl) rfl) ?_
      refine im_st (r_i2l (v := (j1 75 13).toInt64) dX10_number_31 rfl rfl) ?_
      refine im_st (r_iload_n (i := 1) dX10_number_32 rfl rfl rfl) ?_
      refine im_st (r_i2l (v := a1.toInt64) dX10_number_33 rfl rfl) ?_
      refine im_st (r_iload_n (i := 2) dX10_number_34 rfl rfl rfl) ?_
      refine im_st (r_i2l (v := a2.toInt64) dX10_number_35 rfl rfl) ?_
      refine im_st (r_callS (as := [.long ((j1 75 13).toInt64), .long (a1.toInt64), .long (a2.toInt64)]) (r := some (.int (f_X10_in ((j1 75 13).toInt64) (a1.toInt64) (a2.toInt64)))) (kc1 := 0) (ks1 := 0) (st := []) (st1 := [.int (f_X10_in ((j1 75 13).toInt64) (a1.toInt64) (a2.toInt64))]) (e_X10_in ((j1 75 13).toInt64) (a1.toInt64) (a2.toInt64) j1 τ) ms_X10_in lk_X10_49 ⟨by decide, by decide⟩ ⟨by decide, by decide⟩ (Nat.le_of_ble_eq_true rfl) dX10_number_36 rfl rfl rfl rfl rfl) ?_
      refine im_brS (r_if_ne (tgt := 47) dX10_number_39 rfl (by decide)) (fun c6 => ?_) (fun c6 => ?_)
      · refine im_st (r_aload_n (i := 0) dX10_number_42 rfl rfl rfl) ?_
        refine im_st (r_iconst (v := 3) dX10_number_43 rfl kI_3) ?_
        refine im_st (r_callV (as := [.int (3 : Int32)]) (r := none) (kc1 := 0) (ks1 := 0) (st := []) (st1 := []) (e_X10_fails (3 : Int32) j1 τ) mv_X10_fails lk_X10_87 ⟨by decide, by decide⟩ rfl (Nat.le_of_ble_eq_true rfl) (by decide) ⟨_, rfl, rfl⟩ ⟨by decide, by decide⟩ (Nat.le_of_ble_eq_true rfl) dX10_number_44 rfl rfl rfl rfl rfl) ?_
        refine im_st (r_fgt (L1 := [some (.ref 75), some (.int a1), none, none]) [2] rfl) ?_
        exact im_ret id
      · refine im_st (r_fgt (L1 := [some (.ref 75), some (.int a1), none, none]) [2] rfl) ?_
        exact im_ret id
    · refine im_st (r_fgt (L1 := [some (.ref 75), some (.int a1), none, none]) [2] rfl) ?_
      exact im_ret id
  refine im_st (r_aload_n (i := 0) dX10_number_47 rfl rfl rfl) ?_
  refine im_st (s_getI (tag := 10) (j := 8) dX10_number_48 rfl fl_X10_57 rfl (Nat.le_of_ble_eq_true rfl) rfl) ?_
  refine im_seqT (Gm := fun (j7 : Int32) => Go M_X10_number Q 0 0 62 [some (.ref 75), none, none, none] [.int j7] (mk j4 τ)) ?_ (fun j7 => ?_)
  · refine im_brS (r_if_ne (tgt := 61) dX10_number_51 rfl (by decide)) (fun c8 => ?_) (fun c8 => ?_)
    · refine im_st (r_aload_n (i := 0) dX10_number_54 rfl rfl rfl) ?_
      refine im_st (s_getI (tag := 10) (j := 13) dX10_number_55 rfl fl_X10_76 rfl (Nat.le_of_ble_eq_true rfl) rfl) ?_
      refine im_st (r_goto (pc1 := 62) dX10_number_58 (by decide)) ?_
      refine im_st (r_fgt (L1 := [some (.ref 75), none, none, none]) [1] rfl) ?_
      exact im_ret id
    · refine im_st (r_iload_n (i := 1) dX10_number_61 rfl rfl rfl) ?_
      refine im_st (r_fgt (L1 := [some (.ref 75), none, none, none]) [1] rfl) ?_
      exact im_ret id
  refine im_st (r_istore_n (i := 3) (L1 := [some (.ref 75), none, none, some (.int j7)]) dX10_number_62 rfl rfl (by decide) rfl) ?_
  refine im_st (r_aload_n (i := 0) dX10_number_63 rfl rfl rfl) ?_
  refine im_bind (fun y9 hy9 => ?_)
  refine im_st (r_callV (as := []) (r := none) (kc1 := 0) (ks1 := 0) (st := []) (st1 := []) (e_X10_step j4 τ y9 hy9) mv_X10_step lk_X10_91 ⟨by decide, by decide⟩ rfl (Nat.le_of_ble_eq_true rfl) (by decide) ⟨_, rfl, rfl⟩ ⟨by decide, by decide⟩ (Nat.le_of_ble_eq_true rfl) dX10_number_64 rfl rfl rfl rfl rfl) ?_
  refine im_st (r_iload_n (i := 3) dX10_number_67 rfl rfl rfl) ?_
  exact im_ret (fun q => g_iret rfl rfl rfl dX10_number_68 q)
theorem e_X10_number (a1 : Int32) (a2 : Int32) (σ : Sg) (τ : Sl) (y : (Int32 × Sg)) (hy : f_X10_number a1 a2 σ = some y) : EvD M_X10_number [.ref 75, .int a1, .int a2] (mk σ τ) (some (.int y.1)) (mk y.2 τ) := EvM.of (by decide +kernel) (Nat.le_of_ble_eq_true rfl) (i_X10_number a1 a2 σ τ _ y hy ⟨rfl, rfl⟩)
def M_X10_isReadCell : Ms := (yX10_isReadCell, cX10_isReadCell, 4, some .boolean, 0, 0, 0, 0)
theorem mv_X10_isReadCell : MV M_X10_isReadCell 1 := ⟨⟨q1135, q12, by decide, by decide, by decide +kernel⟩, q1134, p32⟩
def b_X10_isReadCell_4 (a1 : Int32) (σ : Sg) : (Int32 × Int32) → Option ((Int32 × Int32) ⊕ (Int32 × Int32)) := fun (s1 : (Int32 × Int32)) =>
  if (σ 77 (38 : Int32).toNatClampNeg) ≤ s1.2 then
    some (.inr (s1.1, s1.2))
  else
    (if s1.1 = 0 then
      if inR s1.2 41 then
      if (σ 77 s1.2.toNatClampNeg) = a1 then
        some (1 : Int32)
      else
        some (0 : Int32)
      else none
    else
      some (1 : Int32)).bind fun (j3 : Int32) =>
    some (.inl (j3, (s1.2 + 1)))
def b_X10_isReadCell_43 (a1 : Int32) (σ : Sg) : (Int32 × Int32) → Option ((Int32 × Int32) ⊕ (Int32 × Int32)) := fun (s8 : (Int32 × Int32)) =>
  if (σ 77 (39 : Int32).toNatClampNeg) ≤ s8.2 then
    some (.inr (s8.1, s8.2))
  else
    (if s8.1 = 0 then
      if inR ((14 : Int32) + s8.2) 41 then
      if (σ 77 ((14 : Int32) + s8.2).toNatClampNeg) = a1 then
        some (1 : Int32)
      else
        some (0 : Int32)
      else none
    else
      some (1 : Int32)).bind fun (j10 : Int32) =>
    some (.inl (j10, (s8.2 + 1)))
def f_X10_isReadCell (a1 : Int32) (σ : Sg) : Option Int32 :=
  (wh (b_X10_isReadCell_4 a1 σ) 4096 ((0 : Int32), (0 : Int32))).bind fun (e7 : (Int32 × Int32)) =>
  (wh (b_X10_isReadCell_43 a1 σ) 4096 (e7.1, (0 : Int32))).bind fun (e14 : (Int32 × Int32)) =>
  if isB e14.1 then
  some e14.1
  else none
set_option maxHeartbeats 4000000 in
set_option maxRecDepth 20000 in
theorem i_X10_isReadCell (a1 : Int32) (σ : Sg) (τ : Sl) (Q : Option Value → Hp → Prop) : Imp (f_X10_isReadCell a1 σ) (fun (y : Int32) => Q (some (.int y)) (mk σ τ)) (Go M_X10_isReadCell Q 0 0 0 [some (.ref 75), some (.int a1), none, none] [] (mk σ τ)) := by
  unfold f_X10_isReadCell
  refine im_st (r_iconst (v := 0) dX10_isReadCell_0 rfl kI_0) ?_
  refine im_st (r_istore_n (i := 2) (L1 := [some (.ref 75), some (.int a1), some (.int (0 : Int32)), none]) dX10_isReadCell_1 rfl rfl (by decide) rfl) ?_
  refine im_st (r_iconst (v := 0) dX10_isReadCell_2 rfl kI_0) ?_
  refine im_st (r_istore_n (i := 3) (L1 := [some (.ref 75), some (.int a1), some (.int (0 : Int32)), some (.int (0 : Int32))]) dX10_isReadCell_3 rfl rfl (by decide) rfl) ?_
  refine im_seq (Gm := fun (e7 : (Int32 × Int32)) => Go M_X10_isReadCell Q 0 0 41 [some (.ref 75), some (.int a1), some (.int e7.1), none] [] (mk σ τ)) ?_ (fun e7 => ?_)
  · refine im_wh (G := fun (s1 : (Int32 × Int32)) => Go M_X10_isReadCell Q 0 0 4 [some (.ref 75), some (.int a1), some (.int s1.1), some (.int s1.2)] [] (mk σ τ)) (fun s1 => ?_) _ _
    unfold b_X10_isReadCell_4
    refine im_st (r_iload_n (i := 3) dX10_isReadCell_4 rfl rfl rfl) ?_
    refine im_st (r_aload_n (i := 0) dX10_isReadCell_5 rfl rfl rfl) ?_
    refine im_st (s_getR (b := 77) (tag := 10) (j := 2) dX10_isReadCell_6 rfl fl_X10_13 rfl (Nat.le_of_ble_eq_true rfl) rfl rfl) ?_
    refine im_st (r_bipush (v := 38) dX10_isReadCell_9 rfl kB_38) ?_
    refine im_st (s_iaload dX10_isReadCell_11 rfl rfl (Nat.le_of_ble_eq_true rfl) (inR_in rfl)) ?_
    refine im_br (r_icmp_ge (tgt := 41) dX10_isReadCell_12 rfl (by decide)) (fun c2 => ?_) (fun c2 => ?_)
    · refine im_st (r_fgt (L1 := [some (.ref 75), some (.int a1), some (.int s1.1), none]) [3] rfl) ?_
      exact im_ret id
    · refine im_st (r_iload_n (i := 2) dX10_isReadCell_15 rfl rfl rfl) ?_
      refine im_seq (Gm := fun (j3 : Int32) => Go M_X10_isReadCell Q 0 0 34 [some (.ref 75), some (.int a1), none, some (.int s1.2)] [.int j3] (mk σ τ)) ?_ (fun j3 => ?_)
      · refine im_br (r_if_ne (tgt := 29) dX10_isReadCell_16 rfl (by decide)) (fun c4 => ?_) (fun c4 => ?_)
        · refine im_st (r_aload_n (i := 0) dX10_isReadCell_19 rfl rfl rfl) ?_
          refine im_st (s_getR (b := 77) (tag := 10) (j := 2) dX10_isReadCell_20 rfl fl_X10_13 rfl (Nat.le_of_ble_eq_true rfl) rfl rfl) ?_
          refine im_st (r_iload_n (i := 3) dX10_isReadCell_23 rfl rfl rfl) ?_
          refine im_grd (fun g5 => ?_)
          refine im_st (s_iaload dX10_isReadCell_24 rfl rfl (Nat.le_of_ble_eq_true rfl) (inR_in g5)) ?_
          refine im_st (r_iload_n (i := 1) dX10_isReadCell_25 rfl rfl rfl) ?_
          refine im_br (r_icmp_ne (tgt := 33) dX10_isReadCell_26 rfl (by decide)) (fun c6 => ?_) (fun c6 => ?_)
          · refine im_st (r_iconst (v := 1) dX10_isReadCell_29 rfl kI_1) ?_
            refine im_st (r_goto (pc1 := 34) dX10_isReadCell_30 (by decide)) ?_
            refine im_st (r_fgt (L1 := [some (.ref 75), some (.int a1), none, some (.int s1.2)]) [2] rfl) ?_
            exact im_ret id
          · refine im_st (r_iconst (v := 0) dX10_isReadCell_33 rfl kI_0) ?_
            refine im_st (r_fgt (L1 := [some (.ref 75), some (.int a1), none, some (.int s1.2)]) [2] rfl) ?_
            exact im_ret id
        · refine im_st (r_iconst (v := 1) dX10_isReadCell_29 rfl kI_1) ?_
          refine im_st (r_goto (pc1 := 34) dX10_isReadCell_30 (by decide)) ?_
          refine im_st (r_fgt (L1 := [some (.ref 75), some (.int a1), none, some (.int s1.2)]) [2] rfl) ?_
          exact im_ret id
      refine im_st (r_istore_n (i := 2) (L1 := [some (.ref 75), some (.int a1), some (.int j3), some (.int s1.2)]) dX10_isReadCell_34 rfl rfl (by decide) rfl) ?_
      refine im_st (r_iinc (i := 3) (x := s1.2) (v := (s1.2 + 1)) (L1 := [some (.ref 75), some (.int a1), some (.int j3), some (.int (s1.2 + 1))]) dX10_isReadCell_35 rfl rfl rfl (by decide) rfl) ?_
      refine im_st (r_goto (pc1 := 4) dX10_isReadCell_38 (by decide)) ?_
      exact im_ret id
  refine im_st (r_iconst (v := 0) dX10_isReadCell_41 rfl kI_0) ?_
  refine im_st (r_istore_n (i := 3) (L1 := [some (.ref 75), some (.int a1), some (.int e7.1), some (.int (0 : Int32))]) dX10_isReadCell_42 rfl rfl (by decide) rfl) ?_
  refine im_seq (Gm := fun (e14 : (Int32 × Int32)) => Go M_X10_isReadCell Q 0 0 83 [none, none, some (.int e14.1), none] [] (mk σ τ)) ?_ (fun e14 => ?_)
  · refine im_wh (G := fun (s8 : (Int32 × Int32)) => Go M_X10_isReadCell Q 0 0 43 [some (.ref 75), some (.int a1), some (.int s8.1), some (.int s8.2)] [] (mk σ τ)) (fun s8 => ?_) _ _
    unfold b_X10_isReadCell_43
    refine im_st (r_iload_n (i := 3) dX10_isReadCell_43 rfl rfl rfl) ?_
    refine im_st (r_aload_n (i := 0) dX10_isReadCell_44 rfl rfl rfl) ?_
    refine im_st (s_getR (b := 77) (tag := 10) (j := 2) dX10_isReadCell_45 rfl fl_X10_13 rfl (Nat.le_of_ble_eq_true rfl) rfl rfl) ?_
    refine im_st (r_bipush (v := 39) dX10_isReadCell_48 rfl kB_39) ?_
    refine im_st (s_iaload dX10_isReadCell_50 rfl rfl (Nat.le_of_ble_eq_true rfl) (inR_in rfl)) ?_
    refine im_br (r_icmp_ge (tgt := 83) dX10_isReadCell_51 rfl (by decide)) (fun c9 => ?_) (fun c9 => ?_)
    · refine im_st (r_fgt (L1 := [none, none, some (.int s8.1), none]) [0, 1, 3] rfl) ?_
      exact im_ret id
    · refine im_st (r_iload_n (i := 2) dX10_isReadCell_54 rfl rfl rfl) ?_
      refine im_seq (Gm := fun (j10 : Int32) => Go M_X10_isReadCell Q 0 0 76 [some (.ref 75), some (.int a1), none, some (.int s8.2)] [.int j10] (mk σ τ)) ?_ (fun j10 => ?_)
      · refine im_br (r_if_ne (tgt := 71) dX10_isReadCell_55 rfl (by decide)) (fun c11 => ?_) (fun c11 => ?_)
        · refine im_st (r_aload_n (i := 0) dX10_isReadCell_58 rfl rfl rfl) ?_
          refine im_st (s_getR (b := 77) (tag := 10) (j := 2) dX10_isReadCell_59 rfl fl_X10_13 rfl (Nat.le_of_ble_eq_true rfl) rfl rfl) ?_
          refine im_st (r_bipush (v := 14) dX10_isReadCell_62 rfl kB_14) ?_
          refine im_st (r_iload_n (i := 3) dX10_isReadCell_64 rfl rfl rfl) ?_
          refine im_st (r_iadd dX10_isReadCell_65 rfl) ?_
          refine im_grd (fun g12 => ?_)
          refine im_st (s_iaload dX10_isReadCell_66 rfl rfl (Nat.le_of_ble_eq_true rfl) (inR_in g12)) ?_
          refine im_st (r_iload_n (i := 1) dX10_isReadCell_67 rfl rfl rfl) ?_
          refine im_br (r_icmp_ne (tgt := 75) dX10_isReadCell_68 rfl (by decide)) (fun c13 => ?_) (fun c13 => ?_)
          · refine im_st (r_iconst (v := 1) dX10_isReadCell_71 rfl kI_1) ?_
            refine im_st (r_goto (pc1 := 76) dX10_isReadCell_72 (by decide)) ?_
            refine im_st (r_fgt (L1 := [some (.ref 75), some (.int a1), none, some (.int s8.2)]) [2] rfl) ?_
            exact im_ret id
          · refine im_st (r_iconst (v := 0) dX10_isReadCell_75 rfl kI_0) ?_
            refine im_st (r_fgt (L1 := [some (.ref 75), some (.int a1), none, some (.int s8.2)]) [2] rfl) ?_
            exact im_ret id
        · refine im_st (r_iconst (v := 1) dX10_isReadCell_71 rfl kI_1) ?_
          refine im_st (r_goto (pc1 := 76) dX10_isReadCell_72 (by decide)) ?_
          refine im_st (r_fgt (L1 := [some (.ref 75), some (.int a1), none, some (.int s8.2)]) [2] rfl) ?_
          exact im_ret id
      refine im_st (r_istore_n (i := 2) (L1 := [some (.ref 75), some (.int a1), some (.int j10), some (.int s8.2)]) dX10_isReadCell_76 rfl rfl (by decide) rfl) ?_
      refine im_st (r_iinc (i := 3) (x := s8.2) (v := (s8.2 + 1)) (L1 := [some (.ref 75), some (.int a1), some (.int j10), some (.int (s8.2 + 1))]) dX10_isReadCell_77 rfl rfl rfl (by decide) rfl) ?_
      refine im_st (r_goto (pc1 := 43) dX10_isReadCell_80 (by decide)) ?_
      exact im_ret id
  refine im_st (r_iload_n (i := 2) dX10_isReadCell_83 rfl rfl rfl) ?_
  refine im_grd (fun g15 => ?_)
  exact im_ret (fun q => g_zret (ty := .boolean) rfl (isB_nar g15) rfl rfl dX10_isReadCell_84 q)
theorem e_X10_isReadCell (a1 : Int32) (σ : Sg) (τ : Sl) (y : Int32) (hy : f_X10_isReadCell a1 σ = some y) : EvD M_X10_isReadCell [.ref 75, .int a1] (mk σ τ) (some (.int y)) (mk σ τ) := EvM.of (by decide +kernel) (Nat.le_of_ble_eq_true rfl) (i_X10_isReadCell a1 σ τ _ y hy ⟨rfl, rfl⟩)
def M_X10_cellHere : Ms := (yX10_cellHere, cX10_cellHere, 1, some .int, 3, 69, 0, 0)
theorem mv_X10_cellHere : MV M_X10_cellHere 0 := ⟨⟨q1131, q12, by decide, by decide, by decide +kernel⟩, q1130, p31⟩
def f_X10_cellHere (σ : Sg) : Option (Int32 × Sg) :=
  app (if (σ 75 8) = 0 then
    if (σ 75 12) = (2 : Int32) then
      app (σ 75 13) fun (v4 : Int32) =>
      if (v4 - v4 / (10 : Int32) * (10 : Int32)) < (8 : Int32) then
        σ
      else
        (f_X10_fails (3 : Int32) σ)
    else
      σ
  else
    σ) fun (j1 : Sg) =>
  (if (j1 75 8) = 0 then
    if (j1 75 12) = (2 : Int32) then
      (f_X10_isReadCell (j1 75 13) j1).bind fun (y9 : Int32) =>
      if y9 = 0 then
        some j1
      else
        some (f_X10_fails (4 : Int32) j1)
    else
      some j1
  else
    some j1).bind fun (j6 : Sg) =>
  (f_X10_number (0 : Int32) (97 : Int32) j6).bind fun (y11 : (Int32 × Sg)) =>
  some (y11.1, y11.2)
set_option maxHeartbeats 4000000 in
set_option maxRecDepth 20000 in
theorem i_X10_cellHere (σ : Sg) (τ : Sl) (Q : Option Value → Hp → Prop) : Imp (f_X10_cellHere σ) (fun (y : (Int32 × Sg)) => Q (some (.int y.1)) (mk y.2 τ)) (Go M_X10_cellHere Q 0 0 0 [some (.ref 75)] [] (mk σ τ)) := by
  unfold f_X10_cellHere
  refine im_st (r_aload_n (i := 0) dX10_cellHere_0 rfl rfl rfl) ?_
  refine im_st (s_getI (tag := 10) (j := 8) dX10_cellHere_1 rfl fl_X10_57 rfl (Nat.le_of_ble_eq_true rfl) rfl) ?_
  refine im_seqT (Gm := fun (j1 : Sg) => Go M_X10_cellHere Q 0 0 32 [some (.ref 75)] [] (mk j1 τ)) ?_ (fun j1 => ?_)
  · refine im_brS (r_if_ne (tgt := 32) dX10_cellHere_4 rfl (by decide)) (fun c2 => ?_) (fun c2 => ?_)
    · refine im_st (r_aload_n (i := 0) dX10_cellHere_7 rfl rfl rfl) ?_
      refine im_st (s_getI (tag := 10) (j := 12) dX10_cellHere_8 rfl fl_X10_66 rfl (Nat.le_of_ble_eq_true rfl) rfl) ?_
      refine im_st (r_iconst (v := 2) dX10_cellHere_11 rfl kI_2) ?_
      refine im_brS (r_icmp_ne (tgt := 32) dX10_cellHere_12 rfl (by decide)) (fun c3 => ?_) (fun c3 => ?_)
      · refine im_st (r_aload_n (i := 0) dX10_cellHere_15 rfl rfl rfl) ?_
        refine im_st (s_getI (tag := 10) (j := 13) dX10_cellHere_16 rfl fl_X10_76 rfl (Nat.le_of_ble_eq_true rfl) rfl) ?_
        refine im_st (r_bipush (v := 10) dX10_cellHere_19 rfl kB_10) ?_
        refine im_appS (Gm := fun (v4 : Int32) => Go M_X10_cellHere Q 0 0 21 [some (.ref 75)] [.int (10 : Int32), .int v4] (mk σ τ)) (fun v4 => ?_)
        refine im_st (r_irem dX10_cellHere_21 rfl (by decide)) ?_
        refine im_st (r_bipush (v := 8) dX10_cellHere_22 rfl kB_8) ?_
        refine im_brS (r_icmp_lt (tgt := 32) dX10_cellHere_24 rfl (by decide)) (fun c5 => ?_) (fun c5 => ?_)
        · exact im_ret id
        · refine im_st (r_aload_n (i := 0) dX10_cellHere_27 rfl rfl rfl) ?_
          refine im_st (r_iconst (v := 3) dX10_cellHere_28 rfl kI_3) ?_
          refine im_st (r_callV (as := [.int (3 : Int32)]) (r := none) (kc1 := 0) (ks1 := 0) (st := []) (st1 := []) (e_X10_fails (3 : Int32) σ τ) mv_X10_fails lk_X10_87 ⟨by decide, by decide⟩ rfl (Nat.le_of_ble_eq_true rfl) (by decide) ⟨_, rfl, rfl⟩ ⟨by decide, by decide⟩ (Nat.le_of_ble_eq_true rfl) dX10_cellHere_29 rfl rfl rfl rfl rfl) ?_
          exact im_ret id
      · exact im_ret id
    · exact im_ret id
  refine im_st (r_aload_n (i := 0) dX10_cellHere_32 rfl rfl rfl) ?_
  refine im_st (s_getI (tag := 10) (j := 8) dX10_cellHere_33 rfl fl_X10_57 rfl (Nat.le_of_ble_eq_true rfl) rfl) ?_
  refine im_seq (Gm := fun (j6 : Sg) => Go M_X10_cellHere Q 0 0 63 [some (.ref 75)] [] (mk j6 τ)) ?_ (fun j6 => ?_)
  · refine im_br (r_if_ne (tgt := 63) dX10_cellHere_36 rfl (by decide)) (fun c7 => ?_) (fun c7 => ?_)
    · refine im_st (r_aload_n (i := 0) dX10_cellHere_39 rfl rfl rfl) ?_
      refine im_st (s_getI (tag := 10) (j := 12) dX10_cellHere_40 rfl fl_X10_66 rfl (Nat.le_of_ble_eq_true rfl) rfl) ?_
      refine im_st (r_iconst (v := 2) dX10_cellHere_43 rfl kI_2) ?_
      refine im_br (r_icmp_ne (tgt := 63) dX10_cellHere_44 rfl (by decide)) (fun c8 => ?_) (fun c8 => ?_)
      · refine im_st (r_aload_n (i := 0) dX10_cellHere_47 rfl rfl rfl) ?_
        refine im_st (r_aload_n (i := 0) dX10_cellHere_48 rfl rfl rfl) ?_
        refine im_st (s_getI (tag := 10) (j := 13) dX10_cellHere_49 rfl fl_X10_76 rfl (Nat.le_of_ble_eq_true rfl) rfl) ?_
        refine im_bind (fun y9 hy9 => ?_)
        refine im_st (r_callV (as := [.int (j1 75 13)]) (r := some (.int y9)) (kc1 := 0) (ks1 := 0) (st := []) (st1 := [.int y9]) (e_X10_isReadCell (j1 75 13) j1 τ y9 hy9) mv_X10_isReadCell lk_X10_94 ⟨by decide, by decide⟩ rfl (Nat.le_of_ble_eq_true rfl) (by decide) ⟨_, rfl, rfl⟩ ⟨by decide, by decide⟩ (Nat.le_of_ble_eq_true rfl) dX10_cellHere_52 rfl rfl rfl rfl rfl) ?_
        refine im_br (r_if_eq (tgt := 63) dX10_cellHere_55 rfl (by decide)) (fun c10 => ?_) (fun c10 => ?_)
        · exact im_ret id
        · refine im_st (r_aload_n (i := 0) dX10_cellHere_58 rfl rfl rfl) ?_
          refine im_st (r_iconst (v := 4) dX10_cellHere_59 rfl kI_4) ?_
          refine im_st (r_callV (as := [.int (4 : Int32)]) (r := none) (kc1 := 0) (ks1 := 0) (st := []) (st1 := []) (e_X10_fails (4 : Int32) j1 τ) mv_X10_fails lk_X10_87 ⟨by decide, by decide⟩ rfl (Nat.le_of_ble_eq_true rfl) (by decide) ⟨_, rfl, rfl⟩ ⟨by decide, by decide⟩ (Nat.le_of_ble_eq_true rfl) dX10_cellHere_60 rfl rfl rfl rfl rfl) ?_
          exact im_ret id
      · exact im_ret id
    · exact im_ret id
  refine im_st (r_aload_n (i := 0) dX10_cellHere_63 rfl rfl rfl) ?_
  refine im_st (r_iconst (v := 0) dX10_cellHere_64 rfl kI_0) ?_
  refine im_st (r_bipush (v := 97) dX10_cellHere_65 rfl kB_97) ?_
  refine im_bind (fun y11 hy11 => ?_)
  refine im_st (r_callV (as := [.int (0 : Int32), .int (97 : Int32)]) (r := some (.int y11.1)) (kc1 := 0) (ks1 := 0) (st := []) (st1 := [.int y11.1]) (e_X10_number (0 : Int32) (97 : Int32) j6 τ y11 hy11) mv_X10_number lk_X10_98 ⟨by decide, by decide⟩ rfl (Nat.le_of_ble_eq_true rfl) (by decide) ⟨_, rfl, rfl⟩ ⟨by decide, by decide⟩ (Nat.le_of_ble_eq_true rfl) dX10_cellHere_67 rfl rfl rfl rfl rfl) ?_
  exact im_ret (fun q => g_iret rfl rfl rfl dX10_cellHere_70 q)
theorem e_X10_cellHere (σ : Sg) (τ : Sl) (y : (Int32 × Sg)) (hy : f_X10_cellHere σ = some y) : EvD M_X10_cellHere [.ref 75] (mk σ τ) (some (.int y.1)) (mk y.2 τ) := EvM.of (by decide +kernel) (Nat.le_of_ble_eq_true rfl) (i_X10_cellHere σ τ _ y hy ⟨rfl, rfl⟩)
def M_X10_readMore : Ms := (yX10_readMore, cX10_readMore, 4, none, 4, 89, 0, 0)
theorem mv_X10_readMore : MV M_X10_readMore 1 := ⟨⟨q1123, q12, by decide, by decide, by decide +kernel⟩, q1122, p29⟩
def f_X10_readMore (a1 : Int32) (σ : Sg) : Option Sg :=
  if (3 : Int32) < a1 then
    if a1 = (4 : Int32) then
      app (σ 77 (38 : Int32).toNatClampNeg) fun (v3 : Int32) =>
      (f_X10_cellHere σ).bind fun (y4 : (Int32 × Sg)) =>
      if inR v3 41 then
      app (up2 y4.2 77 v3.toNatClampNeg y4.1) fun (σ6 : Sg) =>
      (f_X10_number (0 : Int32) (3 : Int32) σ6).bind fun (y7 : (Int32 × Sg)) =>
      if inR ((7 : Int32) + v3) 41 then
      app (up2 y7.2 77 ((7 : Int32) + v3).toNatClampNeg y7.1) fun (σ9 : Sg) =>
      some (up2 σ9 77 (38 : Int32).toNatClampNeg ((σ9 77 (38 : Int32).toNatClampNeg) + (1 : Int32)))
      else none
      else none
    else
      if a1 = (5 : Int32) then
        (f_X10_cellHere σ).bind fun (y11 : (Int32 × Sg)) =>
        app ((14 : Int32) + (σ 77 (39 : Int32).toNatClampNeg)) fun (v12 : Int32) =>
        if inR v12 41 then
        app (up2 y11.2 77 v12.toNatClampNeg y11.1) fun (σ14 : Sg) =>
        some (up2 σ14 77 (39 : Int32).toNatClampNeg ((σ14 77 (39 : Int32).toNatClampNeg) + (1 : Int32)))
        else none
      else
        app (σ 77 (40 : Int32).toNatClampNeg) fun (v15 : Int32) =>
        (f_X10_number (0 : Int32) (3 : Int32) σ).bind fun (y16 : (Int32 × Sg)) =>
        app (if y16.1 ≤ (y16.2 75 4) then
          (y16.2 75 4)
        else
          y16.1) fun (j17 : Int32) =>
        app (up2 y16.2 75 4 j17) fun (σ19 : Sg) =>
        if inR ((26 : Int32) + v15) 41 then
        app (up2 σ19 77 ((26 : Int32) + v15).toNatClampNeg y16.1) fun (σ21 : Sg) =>
        (f_X10_number (0 : Int32) (7 : Int32) σ21).bind fun (y22 : (Int32 × Sg)) =>
        if inR ((32 : Int32) + v15) 41 then
        app (up2 y22.2 77 ((32 : Int32) + v15).toNatClampNeg y22.1) fun (σ24 : Sg) =>
        some (up2 σ24 77 (40 : Int32).toNatClampNeg ((σ24 77 (40 : Int32).toNatClampNeg) + (1 : Int32)))
        else none
        else none
  else
    if inR ((18 : Int32) + (σ 75 3)) 41 then
    app (up2 σ 77 ((18 : Int32) + (σ 75 3)).toNatClampNeg a1) fun (σ26 : Sg) =>
    (f_X10_number (1 : Int32) (9 : Int32) σ26).bind fun (y27 : (Int32 × Sg)) =>
    if inR ((22 : Int32) + (σ26 75 3)) 41 then
    app (up2 y27.2 77 ((22 : Int32) + (σ26 75 3)).toNatClampNeg y27.1) fun (σ29 : Sg) =>
    some (up2 σ29 75 3 ((σ29 75 3) + (1 : Int32)))
    else none
    else none
set_option maxHeartbeats 4000000 in
set_option maxRecDepth 20000 in
theorem i_X10_readMore (a1 : Int32) (σ : Sg) (τ : Sl) (Q : Option Value → Hp → Prop) : Imp (f_X10_readMore a1 σ) (fun (y : Sg) => Q (none) (mk y τ)) (Go M_X10_readMore Q 0 0 0 [some (.ref 75), some (.int a1), none, none] [] (mk σ τ)) := by
  unfold f_X10_readMore
  refine im_st (r_iload_n (i := 1) dX10_readMore_0 rfl rfl rfl) ?_
  refine im_st (r_iconst (v := 3) dX10_readMore_1 rfl kI_3) ?_
  refine im_br (r_icmp_gt (tgt := 50) dX10_readMore_2 rfl (by decide)) (fun c1 => ?_) (fun c1 => ?_)
  · refine im_st (r_iload_n (i := 1) dX10_readMore_50 rfl rfl rfl) ?_
    refine im_st (r_iconst (v := 4) dX10_readMore_51 rfl kI_4) ?_
    refine im_br (r_icmp_ne (tgt := 102) dX10_readMore_52 rfl (by decide)) (fun c2 => ?_) (fun c2 => ?_)
    · refine im_st (r_aload_n (i := 0) dX10_readMore_55 rfl rfl rfl) ?_
      refine im_st (s_getR (b := 77) (tag := 10) (j := 2) dX10_readMore_56 rfl fl_X10_13 rfl (Nat.le_of_ble_eq_true rfl) rfl rfl) ?_
      refine im_st (r_bipush (v := 38) dX10_readMore_59 rfl kB_38) ?_
      refine im_st (s_iaload dX10_readMore_61 rfl rfl (Nat.le_of_ble_eq_true rfl) (inR_in rfl)) ?_
      refine im_app (Gm := fun (v3 : Int32) => Go M_X10_readMore Q 0 0 62 [some (.ref 75), some (.int a1), none, none] [.int v3] (mk σ τ)) (fun v3 => ?_)
      refine im_st (r_istore_n (i := 2) (L1 := [some (.ref 75), some (.int a1), some (.int v3), none]) dX10_readMore_62 rfl rfl (by decide) rfl) ?_
      refine im_st (r_aload_n (i := 0) dX10_readMore_63 rfl rfl rfl) ?_
      refine im_st (s_getR (b := 77) (tag := 10) (j := 2) dX10_readMore_64 rfl fl_X10_13 rfl (Nat.le_of_ble_eq_true rfl) rfl rfl) ?_
      refine im_st (r_iload_n (i := 2) dX10_readMore_67 rfl rfl rfl) ?_
      refine im_st (r_aload_n (i := 0) dX10_readMore_68 rfl rfl rfl) ?_
      refine im_bind (fun y4 hy4 => ?_)
      refine im_st (r_callV (as := []) (r := some (.int y4.1)) (kc1 := 0) (ks1 := 0) (st := [.int v3, .ref 77]) (st1 := [.int y4.1, .int v3, .ref 77]) (e_X10_cellHere σ τ y4 hy4) mv_X10_cellHere lk_X10_105 ⟨by decide, by decide⟩ rfl (Nat.le_of_ble_eq_true rfl) (by decide) ⟨_, rfl, rfl⟩ ⟨by decide, by decide⟩ (Nat.le_of_ble_eq_true rfl) dX10_readMore_69 rfl rfl rfl rfl rfl) ?_
      refine im_grd (fun g5 => ?_)
      refine im_st (s_iastore dX10_readMore_72 rfl rfl (Nat.le_of_ble_eq_true rfl) (inR_in g5)) ?_
      refine im_st (r_aload_n (i := 0) dX10_readMore_73 rfl rfl rfl) ?_
      refine im_st (s_getR (b := 77) (tag := 10) (j := 2) dX10_readMore_74 rfl fl_X10_13 rfl (Nat.le_of_ble_eq_true rfl) rfl rfl) ?_
      refine im_st (r_bipush (v := 7) dX10_readMore_77 rfl kB_7) ?_
      refine im_st (r_iload_n (i := 2) dX10_readMore_79 rfl rfl rfl) ?_
      refine im_st (r_iadd dX10_readMore_80 rfl) ?_
      refine im_st (r_aload_n (i := 0) dX10_readMore_81 rfl rfl rfl) ?_
      refine im_st (r_iconst (v := 0) dX10_readMore_82 rfl kI_0) ?_
      refine im_st (r_iconst (v := 3) dX10_readMore_83 rfl kI_3) ?_
      refine im_app (Gm := fun (σ6 : Sg) => Go M_X10_readMore Q 0 0 84 [some (.ref 75), some (.int a1), some (.int v3), none] [.int (3 : Int32), .int (0 : Int32), .ref 75, .int ((7 : Int32) + v3), .ref 77] (mk σ6 τ)) (fun σ6 => ?_)
      refine im_bind (fun y7 hy7 => ?_)
      refine im_st (r_callV (as := [.int (0 : Int32), .int (3 : Int32)]) (r := some (.int y7.1)) (kc1 := 0) (ks1 := 0) (st := [.int ((7 : Int32) + v3), .ref 77]) (st1 := [.int y7.1, .int ((7 : Int32) + v3), .ref 77]) (e_X10_number (0 : Int32) (3 : Int32) σ6 τ y7 hy7) mv_X10_number lk_X10_98 ⟨by decide, by decide⟩ rfl (Nat.le_of_ble_eq_true rfl) (by decide) ⟨_, rfl, rfl⟩ ⟨by decide, by decide⟩ (Nat.le_of_ble_eq_true rfl) dX10_readMore_84 rfl rfl rfl rfl rfl) ?_
      refine im_grd (fun g8 => ?_)
      refine im_st (s_iastore dX10_readMore_87 rfl rfl (Nat.le_of_ble_eq_true rfl) (inR_in g8)) ?_
      refine im_st (r_aload_n (i := 0) dX10_readMore_88 rfl rfl rfl) ?_
      refine im_st (s_getR (b := 77) (tag := 10) (j := 2) dX10_readMore_89 rfl fl_X10_13 rfl (Nat.le_of_ble_eq_true rfl) rfl rfl) ?_
      refine im_st (r_bipush (v := 38) dX10_readMore_92 rfl kB_38) ?_
      refine im_st (r_dup2 dX10_readMore_94 rfl rfl rfl) ?_
      refine im_app (Gm := fun (σ9 : Sg) => Go M_X10_readMore Q 0 0 95 [some (.ref 75), some (.int a1), some (.int v3), none] [.int (38 : Int32), .ref 77, .int (38 : Int32), .ref 77] (mk σ9 τ)) (fun σ9 => ?_)
      refine im_st (s_iaload dX10_readMore_95 rfl rfl (Nat.le_of_ble_eq_true rfl) (inR_in rfl)) ?_
      refine im_st (r_iconst (v := 1) dX10_readMore_96 rfl kI_1) ?_
      refine im_st (r_iadd dX10_readMore_97 rfl) ?_
      refine im_st (s_iastore dX10_readMore_98 rfl rfl (Nat.le_of_ble_eq_true rfl) (inR_in rfl)) ?_
      refine im_st (r_goto (pc1 := 212) dX10_readMore_99 (by decide)) ?_
      exact im_ret (fun q => g_vret rfl rfl rfl dX10_readMore_212 q)
    · refine im_st (r_iload_n (i := 1) dX10_readMore_102 rfl rfl rfl) ?_
      refine im_st (r_iconst (v := 5) dX10_readMore_103 rfl kI_5) ?_
      refine im_br (r_icmp_ne (tgt := 140) dX10_readMore_104 rfl (by decide)) (fun c10 => ?_) (fun c10 => ?_)
      · refine im_st (r_aload_n (i := 0) dX10_readMore_107 rfl rfl rfl) ?_
        refine im_st (s_getR (b := 77) (tag := 10) (j := 2) dX10_readMore_108 rfl fl_X10_13 rfl (Nat.le_of_ble_eq_true rfl) rfl rfl) ?_
        refine im_st (r_bipush (v := 14) dX10_readMore_111 rfl kB_14) ?_
        refine im_st (r_aload_n (i := 0) dX10_readMore_113 rfl rfl rfl) ?_
        refine im_st (s_getR (b := 77) (tag := 10) (j := 2) dX10_readMore_114 rfl fl_X10_13 rfl (Nat.le_of_ble_eq_true rfl) rfl rfl) ?_
        refine im_st (r_bipush (v := 39) dX10_readMore_117 rfl kB_39) ?_
        refine im_st (s_iaload dX10_readMore_119 rfl rfl (Nat.le_of_ble_eq_true rfl) (inR_in rfl)) ?_
        refine im_st (r_iadd dX10_readMore_120 rfl) ?_
        refine im_st (r_aload_n (i := 0) dX10_readMore_121 rfl rfl rfl) ?_
        refine im_bind (fun y11 hy11 => ?_)
        refine im_st (r_callV (as := []) (r := some (.int y11.1)) (kc1 := 0) (ks1 := 0) (st := [.int ((14 : Int32) + (σ 77 (39 : Int32).toNatClampNeg)), .ref 77]) (st1 := [.int y11.1, .int ((14 : Int32) + (σ 77 (39 : Int32).toNatClampNeg)), .ref 77]) (e_X10_cellHere σ τ y11 hy11) mv_X10_cellHere lk_X10_105 ⟨by decide, by decide⟩ rfl (Nat.le_of_ble_eq_true rfl) (by decide) ⟨_, rfl, rfl⟩ ⟨by decide, by decide⟩ (Nat.le_of_ble_eq_true rfl) dX10_readMore_122 rfl rfl rfl rfl rfl) ?_
        refine im_app (Gm := fun (v12 : Int32) => Go M_X10_readMore Q 0 0 125 [some (.ref 75), some (.int a1), none, none] [.int y11.1, .int v12, .ref 77] (mk y11.2 τ)) (fun v12 => ?_)
        refine im_grd (fun g13 => ?_)
        refine im_st (s_iastore dX10_readMore_125 rfl rfl (Nat.le_of_ble_eq_true rfl) (inR_in g13)) ?_
        refine im_st (r_aload_n (i := 0) dX10_readMore_126 rfl rfl rfl) ?_
        refine im_st (s_getR (b := 77) (tag := 10) (j := 2) dX10_readMore_127 rfl fl_X10_13 rfl (Nat.le_of_ble_eq_true rfl) rfl rfl) ?_
        refine im_st (r_bipush (v := 39) dX10_readMore_130 rfl kB_39) ?_
        refine im_st (r_dup2 dX10_readMore_132 rfl rfl rfl) ?_
        refine im_app (Gm := fun (σ14 : Sg) => Go M_X10_readMore Q 0 0 133 [some (.ref 75), some (.int a1), none, none] [.int (39 : Int32), .ref 77, .int (39 : Int32), .ref 77] (mk σ14 τ)) (fun σ14 => ?_)
        refine im_st (s_iaload dX10_readMore_133 rfl rfl (Nat.le_of_ble_eq_true rfl) (inR_in rfl)) ?_
        refine im_st (r_iconst (v := 1) dX10_readMore_134 rfl kI_1) ?_
        refine im_st (r_iadd dX10_readMore_135 rfl) ?_
        refine im_st (s_iastore dX10_readMore_136 rfl rfl (Nat.le_of_ble_eq_true rfl) (inR_in rfl)) ?_
        refine im_st (r_goto (pc1 := 212) dX10_readMore_137 (by decide)) ?_
        exact im_ret (fun q => g_vret rfl rfl rfl dX10_readMore_212 q)
      · refine im_st (r_aload_n (i := 0) dX10_readMore_140 rfl rfl rfl) ?_
        refine im_st (s_getR (b := 77) (tag := 10) (j := 2) dX10_readMore_141 rfl fl_X10_13 rfl (Nat.le_of_ble_eq_true rfl) rfl rfl) ?_
        refine im_st (r_bipush (v := 40) dX10_readMore_144 rfl kB_40) ?_
        refine im_st (s_iaload dX10_readMore_146 rfl rfl (Nat.le_of_ble_eq_true rfl) (inR_in rfl)) ?_
        refine im_app (Gm := fun (v15 : Int32) => Go M_X10_readMore Q 0 0 147 [some (.ref 75), some (.int a1), none, none] [.int v15] (mk σ τ)) (fun v15 => ?_)
        refine im_st (r_istore_n (i := 2) (L1 := [some (.ref 75), some (.int a1), some (.int v15), none]) dX10_readMore_147 rfl rfl (by decide) rfl) ?_
        refine im_st (r_aload_n (i := 0) dX10_readMore_148 rfl rfl rfl) ?_
        refine im_st (r_iconst (v := 0) dX10_readMore_149 rfl kI_0) ?_
        refine im_st (r_iconst (v := 3) dX10_readMore_150 rfl kI_3) ?_
        refine im_bind (fun y16 hy16 => ?_)
        refine im_st (r_callV (as := [.int (0 : Int32), .int (3 : Int32)]) (r := some (.int y16.1)) (kc1 := 0) (ks1 := 0) (st := []) (st1 := [.int y16.1]) (e_X10_number (0 : Int32) (3 : Int32) σ τ y16 hy16) mv_X10_number lk_X10_98 ⟨by decide, by decide⟩ rfl (Nat.le_of_ble_eq_true rfl) (by decide) ⟨_, rfl, rfl⟩ ⟨by decide, by decide⟩ (Nat.le_of_ble_eq_true rfl) dX10_readMore_151 rfl rfl rfl rfl rfl) ?_
        refine im_st (r_istore_n (i := 3) (L1 := [some (.ref 75), some (.int a1), some (.int v15), some (.int y16.1)]) dX10_readMore_154 rfl rfl (by decide) rfl) ?_
        refine im_st (r_aload_n (i := 0) dX10_readMore_155 rfl rfl rfl) ?_
        refine im_st (r_iload_n (i := 3) dX10_readMore_156 rfl rfl rfl) ?_
        refine im_st (r_aload_n (i := 0) dX10_readMore_157 rfl rfl rfl) ?_
        refine im_st (s_getI (tag := 10) (j := 4) dX10_readMore_158 rfl fl_X10_109 rfl (Nat.le_of_ble_eq_true rfl) rfl) ?_
        refine im_seqT (Gm := fun (j17 : Int32) => Go M_X10_readMore Q 0 0 172 [some (.ref 75), none, some (.int v15), some (.int y16.1)] [.int j17, .ref 75] (mk y16.2 τ)) ?_ (fun j17 => ?_)
        · refine im_brS (r_icmp_le (tgt := 168) dX10_readMore_161 rfl (by decide)) (fun c18 => ?_) (fun c18 => ?_)
          · refine im_st (r_aload_n (i := 0) dX10_readMore_168 rfl rfl rfl) ?_
            refine im_st (s_getI (tag := 10) (j := 4) dX10_readMore_169 rfl fl_X10_109 rfl (Nat.le_of_ble_eq_true rfl) rfl) ?_
            refine im_st (r_fgt (L1 := [some (.ref 75), none, some (.int v15), some (.int y16.1)]) [1] rfl) ?_
            exact im_ret id
          · refine im_st (r_iload_n (i := 3) dX10_readMore_164 rfl rfl rfl) ?_
            refine im_st (r_goto (pc1 := 172) dX10_readMore_165 (by decide)) ?_
            refine im_st (r_fgt (L1 := [some (.ref 75), none, some (.int v15), some (.int y16.1)]) [1] rfl) ?_
            exact im_ret id
        refine im_st (s_putI (tag := 10) (j := 4) dX10_readMore_172 rfl fl_X10_109 rfl (Nat.le_of_ble_eq_true rfl) rfl fw_10_4) ?_
        refine im_st (r_aload_n (i := 0) dX10_readMore_175 rfl rfl rfl) ?_
        refine im_st (s_getR (b := 77) (tag := 10) (j := 2) dX10_readMore_176 rfl fl_X10_13 rfl (Nat.le_of_ble_eq_true rfl) rfl rfl) ?_
        refine im_st (r_bipush (v := 26) dX10_readMore_179 rfl kB_26) ?_
        refine im_st (r_iload_n (i := 2) dX10_readMore_181 rfl rfl rfl) ?_
        refine im_st (r_iadd dX10_readMore_182 rfl) ?_
        refine im_st (r_iload_n (i := 3) dX10_readMore_183 rfl rfl rfl) ?_
        refine im_app (Gm := fun (σ19 : Sg) => Go M_X10_readMore Q 0 0 184 [some (.ref 75), none, some (.int v15), some (.int y16.1)] [.int y16.1, .int ((26 : Int32) + v15), .ref 77] (mk σ19 τ)) (fun σ19 => ?_)
        refine im_grd (fun g20 => ?_)
        refine im_st (s_iastore dX10_readMore_184 rfl rfl (Nat.le_of_ble_eq_true rfl) (inR_in g20)) ?_
        refine im_st (r_aload_n (i := 0) dX10_readMore_185 rfl rfl rfl) ?_
        refine im_st (s_getR (b := 77) (tag := 10) (j := 2) dX10_readMore_186 rfl fl_X10_13 rfl (Nat.le_of_ble_eq_true rfl) rfl rfl) ?_
        refine im_st (r_bipush (v := 32) dX10_readMore_189 rfl kB_32) ?_
        refine im_st (r_iload_n (i := 2) dX10_readMore_191 rfl rfl rfl) ?_
        refine im_st (r_iadd dX10_readMore_192 rfl) ?_
        refine im_st (r_aload_n (i := 0) dX10_readMore_193 rfl rfl rfl) ?_
        refine im_st (r_iconst (v := 0) dX10_readMore_194 rfl kI_0) ?_
        refine im_st (r_bipush (v := 7) dX10_readMore_195 rfl kB_7) ?_
        refine im_app (Gm := fun (σ21 : Sg) => Go M_X10_readMore Q 0 0 197 [some (.ref 75), none, some (.int v15), some (.int y16.1)] [.int (7 : Int32), .int (0 : Int32), .ref 75, .int ((32 : Int32) + v15), .ref 77] (mk σ21 τ)) (fun σ21 => ?_)
        refine im_bind (fun y22 hy22 => ?_)
        refine im_st (r_callV (as := [.int (0 : Int32), .int (7 : Int32)]) (r := some (.int y22.1)) (kc1 := 0) (ks1 := 0) (st := [.int ((32 : Int32) + v15), .ref 77]) (st1 := [.int y22.1, .int ((32 : Int32) + v15), .ref 77]) (e_X10_number (0 : Int32) (7 : Int32) σ21 τ y22 hy22) mv_X10_number lk_X10_98 ⟨by decide, by decide⟩ rfl (Nat.le_of_ble_eq_true rfl) (by decide) ⟨_, rfl, rfl⟩ ⟨by decide, by decide⟩ (Nat.le_of_ble_eq_true rfl) dX10_readMore_197 rfl rfl rfl rfl rfl) ?_
        refine im_grd (fun g23 => ?_)
        refine im_st (s_iastore dX10_readMore_200 rfl rfl (Nat.le_of_ble_eq_true rfl) (inR_in g23)) ?_
        refine im_st (r_aload_n (i := 0) dX10_readMore_201 rfl rfl rfl) ?_
        refine im_st (s_getR (b := 77) (tag := 10) (j := 2) dX10_readMore_202 rfl fl_X10_13 rfl (Nat.le_of_ble_eq_true rfl) rfl rfl) ?_
        refine im_st (r_bipush (v := 40) dX10_readMore_205 rfl kB_40) ?_
        refine im_st (r_dup2 dX10_readMore_207 rfl rfl rfl) ?_
        refine im_app (Gm := fun (σ24 : Sg) => Go M_X10_readMore Q 0 0 208 [some (.ref 75), none, some (.int v15), some (.int y16.1)] [.int (40 : Int32), .ref 77, .int (40 : Int32), .ref 77] (mk σ24 τ)) (fun σ24 => ?_)
        refine im_st (s_iaload dX10_readMore_208 rfl rfl (Nat.le_of_ble_eq_true rfl) (inR_in rfl)) ?_
        refine im_st (r_iconst (v := 1) dX10_readMore_209 rfl kI_1) ?_
        refine im_st (r_iadd dX10_readMore_210 rfl) ?_
        refine im_st (s_iastore dX10_readMore_211 rfl rfl (Nat.le_of_ble_eq_true rfl) (inR_in rfl)) ?_
        exact im_ret (fun q => g_vret rfl rfl rfl dX10_readMore_212 q)
  · refine im_st (r_aload_n (i := 0) dX10_readMore_5 rfl rfl rfl) ?_
    refine im_st (s_getR (b := 77) (tag := 10) (j := 2) dX10_readMore_6 rfl fl_X10_13 rfl (Nat.le_of_ble_eq_true rfl) rfl rfl) ?_
    refine im_st (r_bipush (v := 18) dX10_readMore_9 rfl kB_18) ?_
    refine im_st (r_aload_n (i := 0) dX10_readMore_11 rfl rfl rfl) ?_
    refine im_st (s_getI (tag := 10) (j := 3) dX10_readMore_12 rfl fl_X10_102 rfl (Nat.le_of_ble_eq_true rfl) rfl) ?_
    refine im_st (r_iadd dX10_readMore_15 rfl) ?_
    refine im_st (r_iload_n (i := 1) dX10_readMore_16 rfl rfl rfl) ?_
    refine im_grd (fun g25 => ?_)
    refine im_st (s_iastore dX10_readMore_17 rfl rfl (Nat.le_of_ble_eq_true rfl) (inR_in g25)) ?_
    refine im_st (r_aload_n (i := 0) dX10_readMore_18 rfl rfl rfl) ?_
    refine im_st (s_getR (b := 77) (tag := 10) (j := 2) dX10_readMore_19 rfl fl_X10_13 rfl (Nat.le_of_ble_eq_true rfl) rfl rfl) ?_
    refine im_st (r_bipush (v := 22) dX10_readMore_22 rfl kB_22) ?_
    refine im_st (r_aload_n (i := 0) dX10_readMore_24 rfl rfl rfl) ?_
    refine im_app (Gm := fun (σ26 : Sg) => Go M_X10_readMore Q 0 0 25 [some (.ref 75), some (.int a1), none, none] [.ref 75, .int (22 : Int32), .ref 77] (mk σ26 τ)) (fun σ26 => ?_)
    refine im_st (s_getI (tag := 10) (j := 3) dX10_readMore_25 rfl fl_X10_102 rfl (Nat.le_of_ble_eq_true rfl) rfl) ?_
    refine im_st (r_iadd dX10_readMore_28 rfl) ?_
    refine im_st (r_aload_n (i := 0) dX10_readMore_29 rfl rfl rfl) ?_
    refine im_st (r_iconst (v := 1) dX10_readMore_30 rfl kI_1) ?_
    refine im_st (r_bipush (v := 9) dX10_readMore_31 rfl kB_9) ?_
    refine im_bind (fun y27 hy27 => ?_)
    refine im_st (r_callV (as := [.int (1 : Int32), .int (9 : Int32)]) (r := some (.int y27.1)) (kc1 := 0) (ks1 := 0) (st := [.int ((22 : Int32) + (σ26 75 3)), .ref 77]) (st1 := [.int y27.1, .int ((22 : Int32) + (σ26 75 3)), .ref 77]) (e_X10_number (1 : Int32) (9 : Int32) σ26 τ y27 hy27) mv_X10_number lk_X10_98 ⟨by decide, by decide⟩ rfl (Nat.le_of_ble_eq_true rfl) (by decide) ⟨_, rfl, rfl⟩ ⟨by decide, by decide⟩ (Nat.le_of_ble_eq_true rfl) dX10_readMore_33 rfl rfl rfl rfl rfl) ?_
    refine im_grd (fun g28 => ?_)
    refine im_st (s_iastore dX10_readMore_36 rfl rfl (Nat.le_of_ble_eq_true rfl) (inR_in g28)) ?_
    refine im_st (r_aload_n (i := 0) dX10_readMore_37 rfl rfl rfl) ?_
    refine im_st (r_dup dX10_readMore_38 rfl rfl) ?_
    refine im_app (Gm := fun (σ29 : Sg) => Go M_X10_readMore Q 0 0 39 [some (.ref 75), some (.int a1), none, none] [.ref 75, .ref 75] (mk σ29 τ)) (fun σ29 => ?_)
    refine im_st (s_getI (tag := 10) (j := 3) dX10_readMore_39 rfl fl_X10_102 rfl (Nat.le_of_ble_eq_true rfl) rfl) ?_
    refine im_st (r_iconst (v := 1) dX10_readMore_42 rfl kI_1) ?_
    refine im_st (r_iadd dX10_readMore_43 rfl) ?_
    refine im_st (s_putI (tag := 10) (j := 3) dX10_readMore_44 rfl fl_X10_102 rfl (Nat.le_of_ble_eq_true rfl) rfl fw_10_3) ?_
    refine im_st (r_goto (pc1 := 212) dX10_readMore_47 (by decide)) ?_
    exact im_ret (fun q => g_vret rfl rfl rfl dX10_readMore_212 q)
theorem e_X10_readMore (a1 : Int32) (σ : Sg) (τ : Sl) (y : Sg) (hy : f_X10_readMore a1 σ = some y) : EvD M_X10_readMore [.ref 75, .int a1] (mk σ τ) (none) (mk y τ) := EvM.of (by decide +kernel) (Nat.le_of_ble_eq_true rfl) (i_X10_readMore a1 σ τ _ y hy ⟨rfl, rfl⟩)
def M_X10_isFull : Ms := (yX10_isFull, cX10_isFull, 2, some .boolean, 0, 0, 0, 0)
theorem mv_X10_isFull : MV M_X10_isFull 1 := ⟨⟨q1119, q12, by decide, by decide, by decide +kernel⟩, q1118, p28⟩
def f_X10_isFull (a1 : Int32) (σ : Sg) : Int32 :=
  if (3 : Int32) < a1 then
    if a1 = (4 : Int32) then
      if (σ 77 (38 : Int32).toNatClampNeg) = (7 : Int32) then
        (1 : Int32)
      else
        (0 : Int32)
    else
      if a1 = (5 : Int32) then
        if (σ 77 (39 : Int32).toNatClampNeg) = (4 : Int32) then
          (1 : Int32)
        else
          (0 : Int32)
      else
        if (σ 77 (40 : Int32).toNatClampNeg) = (6 : Int32) then
          (1 : Int32)
        else
          (0 : Int32)
  else
    if (σ 75 3) = (4 : Int32) then
      (1 : Int32)
    else
      (0 : Int32)
theorem z_X10_isFull (a1 : Int32) (σ : Sg) : isB (f_X10_isFull a1 σ) = true := by
  unfold f_X10_isFull
  (repeat' split) <;> first | rfl
set_option maxHeartbeats 4000000 in
set_option maxRecDepth 20000 in
theorem i_X10_isFull (a1 : Int32) (σ : Sg) (τ : Sl) (Q : Option Value → Hp → Prop) : Imp (some (f_X10_isFull a1 σ)) (fun (y : Int32) => Q (some (.int y)) (mk σ τ)) (Go M_X10_isFull Q 0 0 0 [some (.ref 75), some (.int a1)] [] (mk σ τ)) := by
  unfold f_X10_isFull
  refine im_st (r_iload_n (i := 1) dX10_isFull_0 rfl rfl rfl) ?_
  refine im_st (r_iconst (v := 3) dX10_isFull_1 rfl kI_3) ?_
  refine im_brS (r_icmp_gt (tgt := 21) dX10_isFull_2 rfl (by decide)) (fun c1 => ?_) (fun c1 => ?_)
  · refine im_st (r_iload_n (i := 1) dX10_isFull_21 rfl rfl rfl) ?_
    refine im_st (r_iconst (v := 4) dX10_isFull_22 rfl kI_4) ?_
    refine im_brS (r_icmp_ne (tgt := 46) dX10_isFull_23 rfl (by decide)) (fun c2 => ?_) (fun c2 => ?_)
    · refine im_st (r_aload_n (i := 0) dX10_isFull_26 rfl rfl rfl) ?_
      refine im_st (s_getR (b := 77) (tag := 10) (j := 2) dX10_isFull_27 rfl fl_X10_13 rfl (Nat.le_of_ble_eq_true rfl) rfl rfl) ?_
      refine im_st (r_bipush (v := 38) dX10_isFull_30 rfl kB_38) ?_
      refine im_st (s_iaload dX10_isFull_32 rfl rfl (Nat.le_of_ble_eq_true rfl) (inR_in rfl)) ?_
      refine im_st (r_bipush (v := 7) dX10_isFull_33 rfl kB_7) ?_
      refine im_brS (r_icmp_ne (tgt := 42) dX10_isFull_35 rfl (by decide)) (fun c3 => ?_) (fun c3 => ?_)
      · refine im_st (r_iconst (v := 1) dX10_isFull_38 rfl kI_1) ?_
        refine im_st (r_goto (pc1 := 87) dX10_isFull_39 (by decide)) ?_
        exact im_ret (fun q => g_zret (ty := .boolean) rfl rfl rfl rfl dX10_isFull_87 q)
      · refine im_st (r_iconst (v := 0) dX10_isFull_42 rfl kI_0) ?_
        refine im_st (r_goto (pc1 := 87) dX10_isFull_43 (by decide)) ?_
        exact im_ret (fun q => g_zret (ty := .boolean) rfl rfl rfl rfl dX10_isFull_87 q)
    · refine im_st (r_iload_n (i := 1) dX10_isFull_46 rfl rfl rfl) ?_
      refine im_st (r_iconst (v := 5) dX10_isFull_47 rfl kI_5) ?_
      refine im_brS (r_icmp_ne (tgt := 70) dX10_isFull_48 rfl (by decide)) (fun c4 => ?_) (fun c4 => ?_)
      · refine im_st (r_aload_n (i := 0) dX10_isFull_51 rfl rfl rfl) ?_
        refine im_st (s_getR (b := 77) (tag := 10) (j := 2) dX10_isFull_52 rfl fl_X10_13 rfl (Nat.le_of_ble_eq_true rfl) rfl rfl) ?_
        refine im_st (r_bipush (v := 39) dX10_isFull_55 rfl kB_39) ?_
        refine im_st (s_iaload dX10_isFull_57 rfl rfl (Nat.le_of_ble_eq_true rfl) (inR_in rfl)) ?_
        refine im_st (r_iconst (v := 4) dX10_isFull_58 rfl kI_4) ?_
        refine im_brS (r_icmp_ne (tgt := 66) dX10_isFull_59 rfl (by decide)) (fun c5 => ?_) (fun c5 => ?_)
        · refine im_st (r_iconst (v := 1) dX10_isFull_62 rfl kI_1) ?_
          refine im_st (r_goto (pc1 := 87) dX10_isFull_63 (by decide)) ?_
          exact im_ret (fun q => g_zret (ty := .boolean) rfl rfl rfl rfl dX10_isFull_87 q)
        · refine im_st (r_iconst (v := 0) dX10_isFull_66 rfl kI_0) ?_
          refine im_st (r_goto (pc1 := 87) dX10_isFull_67 (by decide)) ?_
          exact im_ret (fun q => g_zret (ty := .boolean) rfl rfl rfl rfl dX10_isFull_87 q)
      · refine im_st (r_aload_n (i := 0) dX10_isFull_70 rfl rfl rfl) ?_
        refine im_st (s_getR (b := 77) (tag := 10) (j := 2) dX10_isFull_71 rfl fl_X10_13 rfl (Nat.le_of_ble_eq_true rfl) rfl rfl) ?_
        refine im_st (r_bipush (v := 40) dX10_isFull_74 rfl kB_40) ?_
        refine im_st (s_iaload dX10_isFull_76 rfl rfl (Nat.le_of_ble_eq_true rfl) (inR_in rfl)) ?_
        refine im_st (r_bipush (v := 6) dX10_isFull_77 rfl kB_6) ?_
        refine im_brS (r_icmp_ne (tgt := 86) dX10_isFull_79 rfl (by decide)) (fun c6 => ?_) (fun c6 => ?_)
        · refine im_st (r_iconst (v := 1) dX10_isFull_82 rfl kI_1) ?_
          refine im_st (r_goto (pc1 := 87) dX10_isFull_83 (by decide)) ?_
          exact im_ret (fun q => g_zret (ty := .boolean) rfl rfl rfl rfl dX10_isFull_87 q)
        · refine im_st (r_iconst (v := 0) dX10_isFull_86 rfl kI_0) ?_
          exact im_ret (fun q => g_zret (ty := .boolean) rfl rfl rfl rfl dX10_isFull_87 q)
  · refine im_st (r_aload_n (i := 0) dX10_isFull_5 rfl rfl rfl) ?_
    refine im_st (s_getI (tag := 10) (j := 3) dX10_isFull_6 rfl fl_X10_102 rfl (Nat.le_of_ble_eq_true rfl) rfl) ?_
    refine im_st (r_iconst (v := 4) dX10_isFull_9 rfl kI_4) ?_
    refine im_brS (r_icmp_ne (tgt := 17) dX10_isFull_10 rfl (by decide)) (fun c7 => ?_) (fun c7 => ?_)
    · refine im_st (r_iconst (v := 1) dX10_isFull_13 rfl kI_1) ?_
      refine im_st (r_goto (pc1 := 87) dX10_isFull_14 (by decide)) ?_
      exact im_ret (fun q => g_zret (ty := .boolean) rfl rfl rfl rfl dX10_isFull_87 q)
    · refine im_st (r_iconst (v := 0) dX10_isFull_17 rfl kI_0) ?_
      refine im_st (r_goto (pc1 := 87) dX10_isFull_18 (by decide)) ?_
      exact im_ret (fun q => g_zret (ty := .boolean) rfl rfl rfl rfl dX10_isFull_87 q)
theorem e_X10_isFull (a1 : Int32) (σ : Sg) (τ : Sl) : EvD M_X10_isFull [.ref 75, .int a1] (mk σ τ) (some (.int (f_X10_isFull a1 σ))) (mk σ τ) := EvM.of (by decide +kernel) (Nat.le_of_ble_eq_true rfl) (i_X10_isFull a1 σ τ _ _ rfl ⟨rfl, rfl⟩)
def M_X10_readLine : Ms := (yX10_readLine, cX10_readLine, 2, none, 5, 112, 0, 0)
theorem mv_X10_readLine : MV M_X10_readLine 0 := ⟨⟨q1110, q12, by decide, by decide, by decide +kernel⟩, q1109, p26⟩
def f_X10_readLine (σ : Sg) : Option Sg :=
  (f_X10_nameHere σ).bind fun (y1 : Int32) =>
  if (f_X10_in (y1.toInt64) (0 : Int64) (6 : Int64)) = 0 then
    some (f_X10_fails (2 : Int32) σ)
  else
    app (if (f_X10_isFull y1 σ) = 0 then
      σ
    else
      (f_X10_fails (5 : Int32) σ)) fun (j3 : Sg) =>
    (f_X10_step j3).bind fun (y5 : Sg) =>
    if (y5 75 8) ≤ 0 then
      (f_X10_readMore y1 y5).bind fun (y7 : Sg) =>
      app (if (y7 75 8) = 0 then
        if (y7 75 12) = (3 : Int32) then
          y7
        else
          (f_X10_fails (2 : Int32) y7)
      else
        y7) fun (j8 : Sg) =>
      (f_X10_step j8).bind fun (y11 : Sg) =>
      some y11
    else
      some y5
set_option maxHeartbeats 4000000 in
set_option maxRecDepth 20000 in
theorem i_X10_readLine (σ : Sg) (τ : Sl) (Q : Option Value → Hp → Prop) : Imp (f_X10_readLine σ) (fun (y : Sg) => Q (none) (mk y τ)) (Go M_X10_readLine Q 0 0 0 [some (.ref 75), none] [] (mk σ τ)) := by
  unfold f_X10_readLine
  refine im_st (r_aload_n (i := 0) dX10_readLine_0 rfl rfl rfl) ?_
  refine im_bind (fun y1 hy1 => ?_)
  refine im_st (r_callV (as := []) (r := some (.int y1)) (kc1 := 0) (ks1 := 0) (st := []) (st1 := [.int y1]) (e_X10_nameHere σ τ y1 hy1) mv_X10_nameHere lk_X10_112 ⟨by decide, by decide⟩ rfl (Nat.le_of_ble_eq_true rfl) (by decide) ⟨_, rfl, rfl⟩ ⟨by decide, by decide⟩ (Nat.le_of_ble_eq_true rfl) dX10_readLine_1 rfl rfl rfl rfl rfl) ?_
  refine im_st (r_istore_n (i := 1) (L1 := [some (.ref 75), some (.int y1)]) dX10_readLine_4 rfl rfl (by decide) rfl) ?_
  refine im_st (r_iload_n (i := 1) dX10_readLine_5 rfl rfl rfl) ?_
  refine im_st (r_i2l (v := y1.toInt64) dX10_readLine_6 rfl rfl) ?_
  refine im_st (r_lconst (v := 0) dX10_readLine_7 rfl rfl) ?_
  refine im_st (r_ldc2 (v := 6) dX10_readLine_8 rfl q1115) ?_
  refine im_st (r_callS (as := [.long (y1.toInt64), .long (0 : Int64), .long (6 : Int64)]) (r := some (.int (f_X10_in (y1.toInt64) (0 : Int64) (6 : Int64)))) (kc1 := 0) (ks1 := 0) (st := []) (st1 := [.int (f_X10_in (y1.toInt64) (0 : Int64) (6 : Int64))]) (e_X10_in (y1.toInt64) (0 : Int64) (6 : Int64) σ τ) ms_X10_in lk_X10_49 ⟨by decide, by decide⟩ ⟨by decide, by decide⟩ (Nat.le_of_ble_eq_true rfl) dX10_readLine_11 rfl rfl rfl rfl rfl) ?_
  refine im_br (r_if_ne (tgt := 23) dX10_readLine_14 rfl (by decide)) (fun c2 => ?_) (fun c2 => ?_)
  · refine im_st (r_aload_n (i := 0) dX10_readLine_17 rfl rfl rfl) ?_
    refine im_st (r_iconst (v := 2) dX10_readLine_18 rfl kI_2) ?_
    refine im_st (r_callV (as := [.int (2 : Int32)]) (r := none) (kc1 := 0) (ks1 := 0) (st := []) (st1 := []) (e_X10_fails (2 : Int32) σ τ) mv_X10_fails lk_X10_87 ⟨by decide, by decide⟩ rfl (Nat.le_of_ble_eq_true rfl) (by decide) ⟨_, rfl, rfl⟩ ⟨by decide, by decide⟩ (Nat.le_of_ble_eq_true rfl) dX10_readLine_19 rfl rfl rfl rfl rfl) ?_
    exact im_ret (fun q => g_vret rfl rfl rfl dX10_readLine_22 q)
  · refine im_st (r_aload_n (i := 0) dX10_readLine_23 rfl rfl rfl) ?_
    refine im_st (r_iload_n (i := 1) dX10_readLine_24 rfl rfl rfl) ?_
    refine im_st (r_callV (as := [.int y1]) (r := some (.int (f_X10_isFull y1 σ))) (kc1 := 0) (ks1 := 0) (st := []) (st1 := [.int (f_X10_isFull y1 σ)]) (e_X10_isFull y1 σ τ) mv_X10_isFull lk_X10_117 ⟨by decide, by decide⟩ rfl (Nat.le_of_ble_eq_true rfl) (by decide) ⟨_, rfl, rfl⟩ ⟨by decide, by decide⟩ (Nat.le_of_ble_eq_true rfl) dX10_readLine_25 rfl rfl rfl rfl rfl) ?_
    refine im_seqT (Gm := fun (j3 : Sg) => Go M_X10_readLine Q 0 0 36 [some (.ref 75), some (.int y1)] [] (mk j3 τ)) ?_ (fun j3 => ?_)
    · refine im_brS (r_if_eq (tgt := 36) dX10_readLine_28 rfl (by decide)) (fun c4 => ?_) (fun c4 => ?_)
      · exact im_ret id
      · refine im_st (r_aload_n (i := 0) dX10_readLine_31 rfl rfl rfl) ?_
        refine im_st (r_iconst (v := 5) dX10_readLine_32 rfl kI_5) ?_
        refine im_st (r_callV (as := [.int (5 : Int32)]) (r := none) (kc1 := 0) (ks1 := 0) (st := []) (st1 := []) (e_X10_fails (5 : Int32) σ τ) mv_X10_fails lk_X10_87 ⟨by decide, by decide⟩ rfl (Nat.le_of_ble_eq_true rfl) (by decide) ⟨_, rfl, rfl⟩ ⟨by decide, by decide⟩ (Nat.le_of_ble_eq_true rfl) dX10_readLine_33 rfl rfl rfl rfl rfl) ?_
        exact im_ret id
    refine im_st (r_aload_n (i := 0) dX10_readLine_36 rfl rfl rfl) ?_
    refine im_bind (fun y5 hy5 => ?_)
    refine im_st (r_callV (as := []) (r := none) (kc1 := 0) (ks1 := 0) (st := []) (st1 := []) (e_X10_step j3 τ y5 hy5) mv_X10_step lk_X10_91 ⟨by decide, by decide⟩ rfl (Nat.le_of_ble_eq_true rfl) (by decide) ⟨_, rfl, rfl⟩ ⟨by decide, by decide⟩ (Nat.le_of_ble_eq_true rfl) dX10_readLine_37 rfl rfl rfl rfl rfl) ?_
    refine im_st (r_aload_n (i := 0) dX10_readLine_40 rfl rfl rfl) ?_
    refine im_st (s_getI (tag := 10) (j := 8) dX10_readLine_41 rfl fl_X10_57 rfl (Nat.le_of_ble_eq_true rfl) rfl) ?_
    refine im_br (r_if_le (tgt := 48) dX10_readLine_44 rfl (by decide)) (fun c6 => ?_) (fun c6 => ?_)
    · refine im_st (r_aload_n (i := 0) dX10_readLine_48 rfl rfl rfl) ?_
      refine im_st (r_iload_n (i := 1) dX10_readLine_49 rfl rfl rfl) ?_
      refine im_bind (fun y7 hy7 => ?_)
      refine im_st (r_callV (as := [.int y1]) (r := none) (kc1 := 0) (ks1 := 0) (st := []) (st1 := []) (e_X10_readMore y1 y5 τ y7 hy7) mv_X10_readMore lk_X10_120 ⟨by decide, by decide⟩ rfl (Nat.le_of_ble_eq_true rfl) (by decide) ⟨_, rfl, rfl⟩ ⟨by decide, by decide⟩ (Nat.le_of_ble_eq_true rfl) dX10_readLine_50 rfl rfl rfl rfl rfl) ?_
      refine im_st (r_aload_n (i := 0) dX10_readLine_53 rfl rfl rfl) ?_
      refine im_st (s_getI (tag := 10) (j := 8) dX10_readLine_54 rfl fl_X10_57 rfl (Nat.le_of_ble_eq_true rfl) rfl) ?_
      refine im_seqT (Gm := fun (j8 : Sg) => Go M_X10_readLine Q 0 0 73 [some (.ref 75), none] [] (mk j8 τ)) ?_ (fun j8 => ?_)
      · refine im_brS (r_if_ne (tgt := 73) dX10_readLine_57 rfl (by decide)) (fun c9 => ?_) (fun c9 => ?_)
        · refine im_st (r_aload_n (i := 0) dX10_readLine_60 rfl rfl rfl) ?_
          refine im_st (s_getI (tag := 10) (j := 12) dX10_readLine_61 rfl fl_X10_66 rfl (Nat.le_of_ble_eq_true rfl) rfl) ?_
          refine im_st (r_iconst (v := 3) dX10_readLine_64 rfl kI_3) ?_
          refine im_brS (r_icmp_eq (tgt := 73) dX10_readLine_65 rfl (by decide)) (fun c10 => ?_) (fun c10 => ?_)
          · refine im_st (r_fgt (L1 := [some (.ref 75), none]) [1] rfl) ?_
            exact im_ret id
          · refine im_st (r_aload_n (i := 0) dX10_readLine_68 rfl rfl rfl) ?_
            refine im_st (r_iconst (v := 2) dX10_readLine_69 rfl kI_2) ?_
            refine im_st (r_callV (as := [.int (2 : Int32)]) (r := none) (kc1 := 0) (ks1 := 0) (st := []) (st1 := []) (e_X10_fails (2 : Int32) y7 τ) mv_X10_fails lk_X10_87 ⟨by decide, by decide⟩ rfl (Nat.le_of_ble_eq_true rfl) (by decide) ⟨_, rfl, rfl⟩ ⟨by decide, by decide⟩ (Nat.le_of_ble_eq_true rfl) dX10_readLine_70 rfl rfl rfl rfl rfl) ?_
            refine im_st (r_fgt (L1 := [some (.ref 75), none]) [1] rfl) ?_
            exact im_ret id
        · refine im_st (r_fgt (L1 := [some (.ref 75), none]) [1] rfl) ?_
          exact im_ret id
      refine im_st (r_aload_n (i := 0) dX10_readLine_73 rfl rfl rfl) ?_
      refine im_bind (fun y11 hy11 => ?_)
      refine im_st (r_callV (as := []) (r := none) (kc1 := 0) (ks1 := 0) (st := []) (st1 := []) (e_X10_step j8 τ y11 hy11) mv_X10_step lk_X10_91 ⟨by decide, by decide⟩ rfl (Nat.le_of_ble_eq_true rfl) (by decide) ⟨_, rfl, rfl⟩ ⟨by decide, by decide⟩ (Nat.le_of_ble_eq_true rfl) dX10_readLine_74 rfl rfl rfl rfl rfl) ?_
      exact im_ret (fun q => g_vret rfl rfl rfl dX10_readLine_77 q)
    · exact im_ret (fun q => g_vret rfl rfl rfl dX10_readLine_47 q)
theorem e_X10_readLine (σ : Sg) (τ : Sl) (y : Sg) (hy : f_X10_readLine σ = some y) : EvD M_X10_readLine [.ref 75] (mk σ τ) (none) (mk y τ) := EvM.of (by decide +kernel) (Nat.le_of_ble_eq_true rfl) (i_X10_readLine σ τ _ y hy ⟨rfl, rfl⟩)
def M_X10_text : Ms := (yX10_text, cX10_text, 3, some .int, 6, 133, 0, 0)
theorem mv_X10_text : MV M_X10_text 0 := ⟨⟨q1090, q12, by decide, by decide, by decide +kernel⟩, q1088, q1089⟩
def b_X10_text_24 : (Int32 × Sg) → Option ((Int32 × Sg) ⊕ (Int32 × Sg)) := fun (s5 : (Int32 × Sg)) =>
  if (41 : Int32) ≤ s5.1 then
    some (.inr (s5.1, s5.2))
  else
    if inR s5.1 41 then
    some (.inl ((s5.1 + 1), (up2 s5.2 77 s5.1.toNatClampNeg (0 : Int32))))
    else none
def b_X10_text_47 : (Int32 × Sg) → Option ((Int32 × Sg) ⊕ (Int32 × Sg)) := fun (s10 : (Int32 × Sg)) =>
  if (s10.2 75 8) = 0 then
    if (s10.2 75 12) = 0 then
      some (.inr (s10.1, s10.2))
    else
      (f_X10_readLine s10.2).bind fun (y13 : Sg) =>
      some (.inl ((s10.1 + 1), y13))
  else
    some (.inr (s10.1, s10.2))
def b_X10_text_125 : (Int32 × Sg) → Option ((Int32 × Sg) ⊕ (Int32 × Sg)) := fun (s21 : (Int32 × Sg)) =>
  if (41 : Int32) ≤ s21.1 then
    some (.inr (s21.1, s21.2))
  else
    if inR s21.1 41 then
    if inR s21.1 205 then
    some (.inl ((s21.1 + 1), (up2 s21.2 76 s21.1.toNatClampNeg (s21.2 77 s21.1.toNatClampNeg))))
    else none
    else none
def f_X10_text (σ : Sg) : Option (Int32 × Sg) :=
  app (up2 σ 75 8 (0 : Int32)) fun (σ1 : Sg) =>
  app (up2 σ1 75 10 (0 : Int32)) fun (σ2 : Sg) =>
  app (up2 σ2 75 3 (0 : Int32)) fun (σ3 : Sg) =>
  app (up2 σ3 75 4 (-1 : Int32)) fun (σ4 : Sg) =>
  (wh b_X10_text_24 4096 ((0 : Int32), σ4)).bind fun (e8 : (Int32 × Sg)) =>
  (f_X10_step e8.2).bind fun (y9 : Sg) =>
  (wh b_X10_text_47 4096 ((0 : Int32), y9)).bind fun (e14 : (Int32 × Sg)) =>
  app (if (e14.2 75 8) = 0 then
    if (e14.2 75 4) < (e14.2 75 3) then
      e14.2
    else
      (f_X10_fails (6 : Int32) e14.2)
  else
    e14.2) fun (j15 : Sg) =>
  app (up2 j15 75 6 (0 : Int32)) fun (σ18 : Sg) =>
  app (up2 σ18 75 7 (σ18 75 8)) fun (σ19 : Sg) =>
  if (σ19 75 8) ≤ 0 then
    (wh b_X10_text_125 4096 ((0 : Int32), σ19)).bind fun (e25 : (Int32 × Sg)) =>
    app (up2 e25.2 75 1 (e25.2 75 3)) fun (σ26 : Sg) =>
    app (up2 σ26 75 22 (0 : Int32)) fun (σ27 : Sg) =>
    app (up2 σ27 84 (0 : Int32).toNatClampNeg (0 : Int32)) fun (σ28 : Sg) =>
    some (e14.1, (up2 σ28 84 (1 : Int32).toNatClampNeg (0 : Int32)))
  else
    some (((-10 : Int32) - (σ19 75 9)), σ19)
set_option maxHeartbeats 4000000 in
set_option maxRecDepth 20000 in
theorem i_X10_text (σ : Sg) (τ : Sl) (Q : Option Value → Hp → Prop) : Imp (f_X10_text σ) (fun (y : (Int32 × Sg)) => Q (some (.int y.1)) (mk y.2 τ)) (Go M_X10_text Q 0 0 0 [some (.ref 75), none, none] [] (mk σ τ)) := by
  unfold f_X10_text
  refine im_st (r_aload_n (i := 0) dX10_text_0 rfl rfl rfl) ?_
  refine im_st (r_iconst (v := 0) dX10_text_1 rfl kI_0) ?_
  refine im_st (s_putI (tag := 10) (j := 8) dX10_text_2 rfl fl_X10_57 rfl (Nat.le_of_ble_eq_true rfl) rfl fw_10_8) ?_
  refine im_st (r_aload_n (i := 0) dX10_text_5 rfl rfl rfl) ?_
  refine im_st (r_iconst (v := 0) dX10_text_6 rfl kI_0) ?_
  refine im_app (Gm := fun (σ1 : Sg) => Go M_X10_text Q 0 0 7 [some (.ref 75), none, none] [.int (0 : Int32), .ref 75] (mk σ1 τ)) (fun σ1 => ?_)
  refine im_st (s_putI (tag := 10) (j := 10) dX10_text_7 rfl fl_X10_69 rfl (Nat.le_of_ble_eq_true rfl) rfl fw_10_10) ?_
  refine im_st (r_aload_n (i := 0) dX10_text_10 rfl rfl rfl) ?_
  refine im_st (r_iconst (v := 0) dX10_text_11 rfl kI_0) ?_
  refine im_app (Gm := fun (σ2 : Sg) => Go M_X10_text Q 0 0 12 [some (.ref 75), none, none] [.int (0 : Int32), .ref 75] (mk σ2 τ)) (fun σ2 => ?_)
  refine im_st (s_putI (tag := 10) (j := 3) dX10_text_12 rfl fl_X10_102 rfl (Nat.le_of_ble_eq_true rfl) rfl fw_10_3) ?_
  refine im_st (r_aload_n (i := 0) dX10_text_15 rfl rfl rfl) ?_
  refine im_st (r_iconst (v := -1) dX10_text_16 rfl kI_m1) ?_
  refine im_app (Gm := fun (σ3 : Sg) => Go M_X10_text Q 0 0 17 [some (.ref 75), none, none] [.int (-1 : Int32), .ref 75] (mk σ3 τ)) (fun σ3 => ?_)
  refine im_st (s_putI (tag := 10) (j := 4) dX10_text_17 rfl fl_X10_109 rfl (Nat.le_of_ble_eq_true rfl) rfl fw_10_4) ?_
  refine im_st (r_iconst (v := 0) dX10_text_20 rfl kI_0) ?_
  refine im_st (r_istore_n (i := 1) (L1 := [some (.ref 75), some (.int (0 : Int32)), none]) dX10_text_21 rfl rfl (by decide) rfl) ?_
  refine im_st (r_iconst (v := 0) dX10_text_22 rfl kI_0) ?_
  refine im_st (r_istore_n (i := 2) (L1 := [some (.ref 75), some (.int (0 : Int32)), some (.int (0 : Int32))]) dX10_text_23 rfl rfl (by decide) rfl) ?_
  refine im_app (Gm := fun (σ4 : Sg) => Go M_X10_text Q 0 0 24 [some (.ref 75), some (.int (0 : Int32)), some (.int (0 : Int32))] [] (mk σ4 τ)) (fun σ4 => ?_)
  refine im_seq (Gm := fun (e8 : (Int32 × Sg)) => Go M_X10_text Q 0 0 43 [some (.ref 75), some (.int (0 : Int32)), none] [] (mk e8.2 τ)) ?_ (fun e8 => ?_)
  · refine im_wh (G := fun (s5 : (Int32 × Sg)) => Go M_X10_text Q 0 0 24 [some (.ref 75), some (.int (0 : Int32)), some (.int s5.1)] [] (mk s5.2 τ)) (fun s5 => ?_) _ _
    unfold b_X10_text_24
    refine im_st (r_iload_n (i := 2) dX10_text_24 rfl rfl rfl) ?_
    refine im_st (r_bipush (v := 41) dX10_text_25 rfl kB_41) ?_
    refine im_br (r_icmp_ge (tgt := 43) dX10_text_27 rfl (by decide)) (fun c6 => ?_) (fun c6 => ?_)
    · refine im_st (r_fgt (L1 := [some (.ref 75), some (.int (0 : Int32)), none]) [2] rfl) ?_
      exact im_ret id
    · refine im_st (r_aload_n (i := 0) dX10_text_30 rfl rfl rfl) ?_
      refine im_st (s_getR (b := 77) (tag := 10) (j := 2) dX10_text_31 rfl fl_X10_13 rfl (Nat.le_of_ble_eq_true rfl) rfl rfl) ?_
      refine im_st (r_iload_n (i := 2) dX10_text_34 rfl rfl rfl) ?_
      refine im_st (r_iconst (v := 0) dX10_text_35 rfl kI_0) ?_
      refine im_grd (fun g7 => ?_)
      refine im_st (s_iastore dX10_text_36 rfl rfl (Nat.le_of_ble_eq_true rfl) (inR_in g7)) ?_
      refine im_st (r_iinc (i := 2) (x := s5.1) (v := (s5.1 + 1)) (L1 := [some (.ref 75), some (.int (0 : Int32)), some (.int (s5.1 + 1))]) dX10_text_37 rfl rfl rfl (by decide) rfl) ?_
      refine im_st (r_goto (pc1 := 24) dX10_text_40 (by decide)) ?_
      exact im_ret id
  refine im_st (r_aload_n (i := 0) dX10_text_43 rfl rfl rfl) ?_
  refine im_bind (fun y9 hy9 => ?_)
  refine im_st (r_callV (as := []) (r := none) (kc1 := 0) (ks1 := 0) (st := []) (st1 := []) (e_X10_step e8.2 τ y9 hy9) mv_X10_step lk_X10_91 ⟨by decide, by decide⟩ rfl (Nat.le_of_ble_eq_true rfl) (by decide) ⟨_, rfl, rfl⟩ ⟨by decide, by decide⟩ (Nat.le_of_ble_eq_true rfl) dX10_text_44 rfl rfl rfl rfl rfl) ?_
  refine im_seq (Gm := fun (e14 : (Int32 × Sg)) => Go M_X10_text Q 0 0 71 [some (.ref 75), some (.int e14.1), none] [] (mk e14.2 τ)) ?_ (fun e14 => ?_)
  · refine im_wh (G := fun (s10 : (Int32 × Sg)) => Go M_X10_text Q 0 0 47 [some (.ref 75), some (.int s10.1), none] [] (mk s10.2 τ)) (fun s10 => ?_) _ _
    unfold b_X10_text_47
    refine im_st (r_aload_n (i := 0) dX10_text_47 rfl rfl rfl) ?_
    refine im_st (s_getI (tag := 10) (j := 8) dX10_text_48 rfl fl_X10_57 rfl (Nat.le_of_ble_eq_true rfl) rfl) ?_
    refine im_br (r_if_ne (tgt := 71) dX10_text_51 rfl (by decide)) (fun c11 => ?_) (fun c11 => ?_)
    · refine im_st (r_aload_n (i := 0) dX10_text_54 rfl rfl rfl) ?_
      refine im_st (s_getI (tag := 10) (j := 12) dX10_text_55 rfl fl_X10_66 rfl (Nat.le_of_ble_eq_true rfl) rfl) ?_
      refine im_br (r_if_eq (tgt := 71) dX10_text_58 rfl (by decide)) (fun c12 => ?_) (fun c12 => ?_)
      · exact im_ret id
      · refine im_st (r_aload_n (i := 0) dX10_text_61 rfl rfl rfl) ?_
        refine im_bind (fun y13 hy13 => ?_)
        refine im_st (r_callV (as := []) (r := none) (kc1 := 0) (ks1 := 0) (st := []) (st1 := []) (e_X10_readLine s10.2 τ y13 hy13) mv_X10_readLine lk_X10_123 ⟨by decide, by decide⟩ rfl (Nat.le_of_ble_eq_true rfl) (by decide) ⟨_, rfl, rfl⟩ ⟨by decide, by decide⟩ (Nat.le_of_ble_eq_true rfl) dX10_text_62 rfl rfl rfl rfl rfl) ?_
        refine im_st (r_iinc (i := 1) (x := s10.1) (v := (s10.1 + 1)) (L1 := [some (.ref 75), some (.int (s10.1 + 1)), none]) dX10_text_65 rfl rfl rfl (by decide) rfl) ?_
        refine im_st (r_goto (pc1 := 47) dX10_text_68 (by decide)) ?_
        exact im_ret id
    · exact im_ret id
  refine im_st (r_aload_n (i := 0) dX10_text_71 rfl rfl rfl) ?_
  refine im_st (s_getI (tag := 10) (j := 8) dX10_text_72 rfl fl_X10_57 rfl (Nat.le_of_ble_eq_true rfl) rfl) ?_
  refine im_seqT (Gm := fun (j15 : Sg) => Go M_X10_text Q 0 0 95 [some (.ref 75), some (.int e14.1), none] [] (mk j15 τ)) ?_ (fun j15 => ?_)
  · refine im_brS (r_if_ne (tgt := 95) dX10_text_75 rfl (by decide)) (fun c16 => ?_) (fun c16 => ?_)
    · refine im_st (r_aload_n (i := 0) dX10_text_78 rfl rfl rfl) ?_
      refine im_st (s_getI (tag := 10) (j := 4) dX10_text_79 rfl fl_X10_109 rfl (Nat.le_of_ble_eq_true rfl) rfl) ?_
      refine im_st (r_aload_n (i := 0) dX10_text_82 rfl rfl rfl) ?_
      refine im_st (s_getI (tag := 10) (j := 3) dX10_text_83 rfl fl_X10_102 rfl (Nat.le_of_ble_eq_true rfl) rfl) ?_
      refine im_brS (r_icmp_lt (tgt := 95) dX10_text_86 rfl (by decide)) (fun c17 => ?_) (fun c17 => ?_)
      · exact im_ret id
      · refine im_st (r_aload_n (i := 0) dX10_text_89 rfl rfl rfl) ?_
        refine im_st (r_bipush (v := 6) dX10_text_90 rfl kB_6) ?_
        refine im_st (r_callV (as := [.int (6 : Int32)]) (r := none) (kc1 := 0) (ks1 := 0) (st := []) (st1 := []) (e_X10_fails (6 : Int32) e14.2 τ) mv_X10_fails lk_X10_87 ⟨by decide, by decide⟩ rfl (Nat.le_of_ble_eq_true rfl) (by decide) ⟨_, rfl, rfl⟩ ⟨by decide, by decide⟩ (Nat.le_of_ble_eq_true rfl) dX10_text_92 rfl rfl rfl rfl rfl) ?_
        exact im_ret id
    · exact im_ret id
  refine im_st (r_aload_n (i := 0) dX10_text_95 rfl rfl rfl) ?_
  refine im_st (r_iconst (v := 0) dX10_text_96 rfl kI_0) ?_
  refine im_st (s_putI (tag := 10) (j := 6) dX10_text_97 rfl fl_X10_53 rfl (Nat.le_of_ble_eq_true rfl) rfl fw_10_6) ?_
  refine im_st (r_aload_n (i := 0) dX10_text_100 rfl rfl rfl) ?_
  refine im_st (r_aload_n (i := 0) dX10_text_101 rfl rfl rfl) ?_
  refine im_app (Gm := fun (σ18 : Sg) => Go M_X10_text Q 0 0 102 [some (.ref 75), some (.int e14.1), none] [.ref 75, .ref 75] (mk σ18 τ)) (fun σ18 => ?_)
  refine im_st (s_getI (tag := 10) (j := 8) dX10_text_102 rfl fl_X10_57 rfl (Nat.le_of_ble_eq_true rfl) rfl) ?_
  refine im_st (s_putI (tag := 10) (j := 7) dX10_text_105 rfl fl_X10_126 rfl (Nat.le_of_ble_eq_true rfl) rfl fw_10_7) ?_
  refine im_st (r_aload_n (i := 0) dX10_text_108 rfl rfl rfl) ?_
  refine im_app (Gm := fun (σ19 : Sg) => Go M_X10_text Q 0 0 109 [some (.ref 75), some (.int e14.1), none] [.ref 75] (mk σ19 τ)) (fun σ19 => ?_)
  refine im_st (s_getI (tag := 10) (j := 8) dX10_text_109 rfl fl_X10_57 rfl (Nat.le_of_ble_eq_true rfl) rfl) ?_
  refine im_br (r_if_le (tgt := 123) dX10_text_112 rfl (by decide)) (fun c20 => ?_) (fun c20 => ?_)
  · refine im_st (r_iconst (v := 0) dX10_text_123 rfl kI_0) ?_
    refine im_st (r_istore_n (i := 2) (L1 := [some (.ref 75), some (.int e14.1), some (.int (0 : Int32))]) dX10_text_124 rfl rfl (by decide) rfl) ?_
    refine im_seq (Gm := fun (e25 : (Int32 × Sg)) => Go M_X10_text Q 0 0 149 [some (.ref 75), some (.int e14.1), none] [] (mk e25.2 τ)) ?_ (fun e25 => ?_)
    · refine im_wh (G := fun (s21 : (Int32 × Sg)) => Go M_X10_text Q 0 0 125 [some (.ref 75), some (.int e14.1), some (.int s21.1)] [] (mk s21.2 τ)) (fun s21 => ?_) _ _
      unfold b_X10_text_125
      refine im_st (r_iload_n (i := 2) dX10_text_125 rfl rfl rfl) ?_
      refine im_st (r_bipush (v := 41) dX10_text_126 rfl kB_41) ?_
      refine im_br (r_icmp_ge (tgt := 149) dX10_text_128 rfl (by decide)) (fun c22 => ?_) (fun c22 => ?_)
      · refine im_st (r_fgt (L1 := [some (.ref 75), some (.int e14.1), none]) [2] rfl) ?_
        exact im_ret id
      · refine im_st (r_aload_n (i := 0) dX10_text_131 rfl rfl rfl) ?_
        refine im_st (s_getR (b := 76) (tag := 10) (j := 0) dX10_text_132 rfl fl_X10_7 rfl (Nat.le_of_ble_eq_true rfl) rfl rfl) ?_
        refine im_st (r_iload_n (i := 2) dX10_text_135 rfl rfl rfl) ?_
        refine im_st (r_aload_n (i := 0) dX10_text_136 rfl rfl rfl) ?_
        refine im_st (s_getR (b := 77) (tag := 10) (j := 2) dX10_text_137 rfl fl_X10_13 rfl (Nat.le_of_ble_eq_true rfl) rfl rfl) ?_
        refine im_st (r_iload_n (i := 2) dX10_text_140 rfl rfl rfl) ?_
        refine im_grd (fun g23 => ?_)
        refine im_st (s_iaload dX10_text_141 rfl rfl (Nat.le_of_ble_eq_true rfl) (inR_in g23)) ?_
        refine im_grd (fun g24 => ?_)
        refine im_st (s_iastore dX10_text_142 rfl rfl (Nat.le_of_ble_eq_true rfl) (inR_in g24)) ?_
        refine im_st (r_iinc (i := 2) (x := s21.1) (v := (s21.1 + 1)) (L1 := [some (.ref 75), some (.int e14.1), some (.int (s21.1 + 1))]) dX10_text_143 rfl rfl rfl (by decide) rfl) ?_
        refine im_st (r_goto (pc1 := 125) dX10_text_146 (by decide)) ?_
        exact im_ret id
    refine im_st (r_aload_n (i := 0) dX10_text_149 rfl rfl rfl) ?_
    refine im_st (r_aload_n (i := 0) dX10_text_150 rfl rfl rfl) ?_
    refine im_st (s_getI (tag := 10) (j := 3) dX10_text_151 rfl fl_X10_102 rfl (Nat.le_of_ble_eq_true rfl) rfl) ?_
    refine im_st (s_putI (tag := 10) (j := 1) dX10_text_154 rfl fl_X10_129 rfl (Nat.le_of_ble_eq_true rfl) rfl fw_10_1) ?_
    refine im_st (r_aload_n (i := 0) dX10_text_157 rfl rfl rfl) ?_
    refine im_st (r_iconst (v := 0) dX10_text_158 rfl kI_0) ?_
    refine im_app (Gm := fun (σ26 : Sg) => Go M_X10_text Q 0 0 159 [some (.ref 75), some (.int e14.1), none] [.int (0 : Int32), .ref 75] (mk σ26 τ)) (fun σ26 => ?_)
    refine im_st (s_putI (tag := 10) (j := 22) dX10_text_159 rfl fl_X10_132 rfl (Nat.le_of_ble_eq_true rfl) rfl fw_10_22) ?_
    refine im_st (r_aload_n (i := 0) dX10_text_162 rfl rfl rfl) ?_
    refine im_st (s_getR (b := 84) (tag := 10) (j := 24) dX10_text_163 rfl fl_X10_34 rfl (Nat.le_of_ble_eq_true rfl) rfl rfl) ?_
    refine im_st (r_iconst (v := 0) dX10_text_166 rfl kI_0) ?_
    refine im_st (r_iconst (v := 0) dX10_text_167 rfl kI_0) ?_
    refine im_app (Gm := fun (σ27 : Sg) => Go M_X10_text Q 0 0 168 [some (.ref 75), some (.int e14.1), none] [.int (0 : Int32), .int (0 : Int32), .ref 84] (mk σ27 τ)) (fun σ27 => ?_)
    refine im_st (s_zastore dX10_text_168 rfl rfl (Nat.le_of_ble_eq_true rfl) (inR_in rfl) rfl) ?_
    refine im_st (r_aload_n (i := 0) dX10_text_169 rfl rfl rfl) ?_
    refine im_st (s_getR (b := 84) (tag := 10) (j := 24) dX10_text_170 rfl fl_X10_34 rfl (Nat.le_of_ble_eq_true rfl) rfl rfl) ?_
    refine im_st (r_iconst (v := 1) dX10_text_173 rfl kI_1) ?_
    refine im_st (r_iconst (v := 0) dX10_text_174 rfl kI_0) ?_
    refine im_app (Gm := fun (σ28 : Sg) => Go M_X10_text Q 0 0 175 [some (.ref 75), some (.int e14.1), none] [.int (0 : Int32), .int (1 : Int32), .ref 84] (mk σ28 τ)) (fun σ28 => ?_)
    refine im_st (s_zastore dX10_text_175 rfl rfl (Nat.le_of_ble_eq_true rfl) (inR_in rfl) rfl) ?_
    refine im_st (r_iload_n (i := 1) dX10_text_176 rfl rfl rfl) ?_
    exact im_ret (fun q => g_iret rfl rfl rfl dX10_text_177 q)
  · refine im_st (r_bipush (v := -10) dX10_text_115 rfl kB_m10) ?_
    refine im_st (r_aload_n (i := 0) dX10_text_117 rfl rfl rfl) ?_
    refine im_st (s_getI (tag := 10) (j := 9) dX10_text_118 rfl fl_X10_63 rfl (Nat.le_of_ble_eq_true rfl) rfl) ?_
    refine im_st (r_isub dX10_text_121 rfl) ?_
    exact im_ret (fun q => g_iret rfl rfl rfl dX10_text_122 q)
theorem e_X10_text (σ : Sg) (τ : Sl) (y : (Int32 × Sg)) (hy : f_X10_text σ = some y) : EvD M_X10_text [.ref 75] (mk σ τ) (some (.int y.1)) (mk y.2 τ) := EvM.of (by decide +kernel) (Nat.le_of_ble_eq_true rfl) (i_X10_text σ τ _ y hy ⟨rfl, rfl⟩)
def M_X10_fault : Ms := (yX10_fault, cX10_fault, 1, some .int, 0, 0, 0, 0)
theorem mv_X10_fault : MV M_X10_fault 0 := ⟨⟨q1139, q12, by decide, by decide, by decide +kernel⟩, q1137, q1138⟩
def f_X10_fault (σ : Sg) : Int32 :=
  (σ 75 7)
set_option maxHeartbeats 4000000 in
set_option maxRecDepth 20000 in
theorem i_X10_fault (σ : Sg) (τ : Sl) (Q : Option Value → Hp → Prop) : Imp (some (f_X10_fault σ)) (fun (y : Int32) => Q (some (.int y)) (mk σ τ)) (Go M_X10_fault Q 0 0 0 [some (.ref 75)] [] (mk σ τ)) := by
  unfold f_X10_fault
  refine im_st (r_aload_n (i := 0) dX10_fault_0 rfl rfl rfl) ?_
  refine im_st (s_getI (tag := 10) (j := 7) dX10_fault_1 rfl fl_X10_126 rfl (Nat.le_of_ble_eq_true rfl) rfl) ?_
  exact im_ret (fun q => g_iret rfl rfl rfl dX10_fault_4 q)
theorem e_X10_fault (σ : Sg) (τ : Sl) : EvD M_X10_fault [.ref 75] (mk σ τ) (some (.int (f_X10_fault σ))) (mk σ τ) := EvM.of (by decide +kernel) (Nat.le_of_ble_eq_true rfl) (i_X10_fault σ τ _ _ rfl ⟨rfl, rfl⟩)
def M_X10_isPeg : Ms := (yX10_isPeg, cX10_isPeg, 2, some .boolean, 1, 25, 0, 0)
theorem mv_X10_isPeg : MV M_X10_isPeg 1 := ⟨⟨q1177, q12, by decide, by decide, by decide +kernel⟩, q1176, p38⟩
def f_X10_isPeg (a1 : Int32) (σ : Sg) : Int32 :=
  (f_X10_in (a1.toInt64) (0 : Int64) (((σ 76 (38 : Int32).toNatClampNeg) - (1 : Int32)).toInt64))
theorem z_X10_isPeg (a1 : Int32) (σ : Sg) : isB (f_X10_isPeg a1 σ) = true := by
  unfold f_X10_isPeg
  (repeat' split) <;> first | rfl | exact z_X10_in ..
set_option maxHeartbeats 4000000 in
set_option maxRecDepth 20000 in
theorem i_X10_isPeg (a1 : Int32) (σ : Sg) (τ : Sl) (Q : Option Value → Hp → Prop) : Imp (some (f_X10_isPeg a1 σ)) (fun (y : Int32) => Q (some (.int y)) (mk σ τ)) (Go M_X10_isPeg Q 0 0 0 [some (.ref 75), some (.int a1)] [] (mk σ τ)) := by
  unfold f_X10_isPeg
  refine im_st (r_iload_n (i := 1) dX10_isPeg_0 rfl rfl rfl) ?_
  refine im_st (r_i2l (v := a1.toInt64) dX10_isPeg_1 rfl rfl) ?_
  refine im_st (r_lconst (v := 0) dX10_isPeg_2 rfl rfl) ?_
  refine im_st (r_aload_n (i := 0) dX10_isPeg_3 rfl rfl rfl) ?_
  refine im_st (s_getR (b := 76) (tag := 10) (j := 0) dX10_isPeg_4 rfl fl_X10_7 rfl (Nat.le_of_ble_eq_true rfl) rfl rfl) ?_
  refine im_st (r_bipush (v := 38) dX10_isPeg_7 rfl kB_38) ?_
  refine im_st (s_iaload dX10_isPeg_9 rfl rfl (Nat.le_of_ble_eq_true rfl) (inR_in rfl)) ?_
  refine im_st (r_iconst (v := 1) dX10_isPeg_10 rfl kI_1) ?_
  refine im_st (r_isub dX10_isPeg_11 rfl) ?_
  refine im_st (r_i2l (v := ((σ 76 (38 : Int32).toNatClampNeg) - (1 : Int32)).toInt64) dX10_isPeg_12 rfl rfl) ?_
  refine im_st (r_callS (as := [.long (a1.toInt64), .long (0 : Int64), .long (((σ 76 (38 : Int32).toNatClampNeg) - (1 : Int32)).toInt64)]) (r := some (.int (f_X10_in (a1.toInt64) (0 : Int64) (((σ 76 (38 : Int32).toNatClampNeg) - (1 : Int32)).toInt64)))) (kc1 := 0) (ks1 := 0) (st := []) (st1 := [.int (f_X10_in (a1.toInt64) (0 : Int64) (((σ 76 (38 : Int32).toNatClampNeg) - (1 : Int32)).toInt64))]) (e_X10_in (a1.toInt64) (0 : Int64) (((σ 76 (38 : Int32).toNatClampNeg) - (1 : Int32)).toInt64) σ τ) ms_X10_in lk_X10_49 ⟨by decide, by decide⟩ ⟨by decide, by decide⟩ (Nat.le_of_ble_eq_true rfl) dX10_isPeg_13 rfl rfl rfl rfl rfl) ?_
  exact im_ret (fun q => g_zret (ty := .boolean) rfl (isB_nar (z_X10_in ..)) rfl rfl dX10_isPeg_16 q)
theorem e_X10_isPeg (a1 : Int32) (σ : Sg) (τ : Sl) : EvD M_X10_isPeg [.ref 75, .int a1] (mk σ τ) (some (.int (f_X10_isPeg a1 σ))) (mk σ τ) := EvM.of (by decide +kernel) (Nat.le_of_ble_eq_true rfl) (i_X10_isPeg a1 σ τ _ _ rfl ⟨rfl, rfl⟩)
def M_X10_isHog : Ms := (yX10_isHog, cX10_isHog, 2, some .boolean, 1, 25, 0, 0)
theorem mv_X10_isHog : MV M_X10_isHog 1 := ⟨⟨q1190, q12, by decide, by decide, by decide +kernel⟩, q1189, p39⟩
def f_X10_isHog (a1 : Int32) (σ : Sg) : Int32 :=
  (f_X10_in (a1.toInt64) (0 : Int64) (((σ 75 1) - (1 : Int32)).toInt64))
theorem z_X10_isHog (a1 : Int32) (σ : Sg) : isB (f_X10_isHog a1 σ) = true := by
  unfold f_X10_isHog
  (repeat' split) <;> first | rfl | exact z_X10_in ..
set_option maxHeartbeats 4000000 in
set_option maxRecDepth 20000 in
theorem i_X10_isHog (a1 : Int32) (σ : Sg) (τ : Sl) (Q : Option Value → Hp → Prop) : Imp (some (f_X10_isHog a1 σ)) (fun (y : Int32) => Q (some (.int y)) (mk σ τ)) (Go M_X10_isHog Q 0 0 0 [some (.ref 75), some (.int a1)] [] (mk σ τ)) := by
  unfold f_X10_isHog
  refine im_st (r_iload_n (i := 1) dX10_isHog_0 rfl rfl rfl) ?_
  refine im_st (r_i2l (v := a1.toInt64) dX10_isHog_1 rfl rfl) ?_
  refine im_st (r_lconst (v := 0) dX10_isHog_2 rfl rfl) ?_
  refine im_st (r_aload_n (i := 0) dX10_isHog_3 rfl rfl rfl) ?_
  refine im_st (s_getI (tag := 10) (j := 1) dX10_isHog_4 rfl fl_X10_129 rfl (Nat.le_of_ble_eq_true rfl) rfl) ?_
  refine im_st (r_iconst (v := 1) dX10_isHog_7 rfl kI_1) ?_
  refine im_st (r_isub dX10_isHog_8 rfl) ?_
  refine im_st (r_i2l (v := ((σ 75 1) - (1 : Int32)).toInt64) dX10_isHog_9 rfl rfl) ?_
  refine im_st (r_callS (as := [.long (a1.toInt64), .long (0 : Int64), .long (((σ 75 1) - (1 : Int32)).toInt64)]) (r := some (.int (f_X10_in (a1.toInt64) (0 : Int64) (((σ 75 1) - (1 : Int32)).toInt64)))) (kc1 := 0) (ks1 := 0) (st := []) (st1 := [.int (f_X10_in (a1.toInt64) (0 : Int64) (((σ 75 1) - (1 : Int32)).toInt64))]) (e_X10_in (a1.toInt64) (0 : Int64) (((σ 75 1) - (1 : Int32)).toInt64) σ τ) ms_X10_in lk_X10_49 ⟨by decide, by decide⟩ ⟨by decide, by decide⟩ (Nat.le_of_ble_eq_true rfl) dX10_isHog_10 rfl rfl rfl rfl rfl) ?_
  exact im_ret (fun q => g_zret (ty := .boolean) rfl (isB_nar (z_X10_in ..)) rfl rfl dX10_isHog_13 q)
theorem e_X10_isHog (a1 : Int32) (σ : Sg) (τ : Sl) : EvD M_X10_isHog [.ref 75, .int a1] (mk σ τ) (some (.int (f_X10_isHog a1 σ))) (mk σ τ) := EvM.of (by decide +kernel) (Nat.le_of_ble_eq_true rfl) (i_X10_isHog a1 σ τ _ _ rfl ⟨rfl, rfl⟩)
def M_X10_isSuit : Ms := (yX10_isSuit, cX10_isSuit, 2, some .boolean, 1, 25, 0, 0)
theorem mv_X10_isSuit : MV M_X10_isSuit 1 := ⟨⟨q1199, q12, by decide, by decide, by decide +kernel⟩, q1198, p40⟩
def f_X10_isSuit (a1 : Int32) (σ : Sg) : Int32 :=
  (f_X10_in (a1.toInt64) (0 : Int64) (((σ 76 (40 : Int32).toNatClampNeg) - (1 : Int32)).toInt64))
theorem z_X10_isSuit (a1 : Int32) (σ : Sg) : isB (f_X10_isSuit a1 σ) = true := by
  unfold f_X10_isSuit
  (repeat' split) <;> first | rfl | exact z_X10_in ..
set_option maxHeartbeats 4000000 in
set_option maxRecDepth 20000 in
theorem i_X10_isSuit (a1 : Int32) (σ : Sg) (τ : Sl) (Q : Option Value → Hp → Prop) : Imp (some (f_X10_isSuit a1 σ)) (fun (y : Int32) => Q (some (.int y)) (mk σ τ)) (Go M_X10_isSuit Q 0 0 0 [some (.ref 75), some (.int a1)] [] (mk σ τ)) := by
  unfold f_X10_isSuit
  refine im_st (r_iload_n (i := 1) dX10_isSuit_0 rfl rfl rfl) ?_
  refine im_st (r_i2l (v := a1.toInt64) dX10_isSuit_1 rfl rfl) ?_
  refine im_st (r_lconst (v := 0) dX10_isSuit_2 rfl rfl) ?_
  refine im_st (r_aload_n (i := 0) dX10_isSuit_3 rfl rfl rfl) ?_
  refine im_st (s_getR (b := 76) (tag := 10) (j := 0) dX10_isSuit_4 rfl fl_X10_7 rfl (Nat.le_of_ble_eq_true rfl) rfl rfl) ?_
  refine im_st (r_bipush (v := 40) dX10_isSuit_7 rfl kB_40) ?_
  refine im_st (s_iaload dX10_isSuit_9 rfl rfl (Nat.le_of_ble_eq_true rfl) (inR_in rfl)) ?_
  refine im_st (r_iconst (v := 1) dX10_isSuit_10 rfl kI_1) ?_
  refine im_st (r_isub dX10_isSuit_11 rfl) ?_
  refine im_st (r_i2l (v := ((σ 76 (40 : Int32).toNatClampNeg) - (1 : Int32)).toInt64) dX10_isSuit_12 rfl rfl) ?_
  refine im_st (r_callS (as := [.long (a1.toInt64), .long (0 : Int64), .long (((σ 76 (40 : Int32).toNatClampNeg) - (1 : Int32)).toInt64)]) (r := some (.int (f_X10_in (a1.toInt64) (0 : Int64) (((σ 76 (40 : Int32).toNatClampNeg) - (1 : Int32)).toInt64)))) (kc1 := 0) (ks1 := 0) (st := []) (st1 := [.int (f_X10_in (a1.toInt64) (0 : Int64) (((σ 76 (40 : Int32).toNatClampNeg) - (1 : Int32)).toInt64))]) (e_X10_in (a1.toInt64) (0 : Int64) (((σ 76 (40 : Int32).toNatClampNeg) - (1 : Int32)).toInt64) σ τ) ms_X10_in lk_X10_49 ⟨by decide, by decide⟩ ⟨by decide, by decide⟩ (Nat.le_of_ble_eq_true rfl) dX10_isSuit_13 rfl rfl rfl rfl rfl) ?_
  exact im_ret (fun q => g_zret (ty := .boolean) rfl (isB_nar (z_X10_in ..)) rfl rfl dX10_isSuit_16 q)
theorem e_X10_isSuit (a1 : Int32) (σ : Sg) (τ : Sl) : EvD M_X10_isSuit [.ref 75, .int a1] (mk σ τ) (some (.int (f_X10_isSuit a1 σ))) (mk σ τ) := EvM.of (by decide +kernel) (Nat.le_of_ble_eq_true rfl) (i_X10_isSuit a1 σ τ _ _ rfl ⟨rfl, rfl⟩)
def M_X10_isCell : Ms := (yX10_isCell, cX10_isCell, 1, some .boolean, 1, 25, 0, 0)
theorem ms_X10_isCell : MS M_X10_isCell 1 := ⟨⟨q1206, q12, by decide, by decide, by decide +kernel⟩, q1205⟩
def f_X10_isCell (a0 : Int32) : Int32 :=
  if (f_X10_in (a0.toInt64) (0 : Int64) (97 : Int64)) = 0 then
    (0 : Int32)
  else
    if (8 : Int32) ≤ (a0 - a0 / (10 : Int32) * (10 : Int32)) then
      (0 : Int32)
    else
      (1 : Int32)
theorem z_X10_isCell (a0 : Int32) : isB (f_X10_isCell a0) = true := by
  unfold f_X10_isCell
  (repeat' split) <;> first | rfl | exact z_X10_in ..
set_option maxHeartbeats 4000000 in
set_option maxRecDepth 20000 in
theorem i_X10_isCell (a0 : Int32) (σ : Sg) (τ : Sl) (Q : Option Value → Hp → Prop) : Imp (some (f_X10_isCell a0)) (fun (y : Int32) => Q (some (.int y)) (mk σ τ)) (Go M_X10_isCell Q 0 0 0 [some (.int a0)] [] (mk σ τ)) := by
  unfold f_X10_isCell
  refine im_st (r_iload_n (i := 0) dX10_isCell_0 rfl rfl rfl) ?_
  refine im_st (r_i2l (v := a0.toInt64) dX10_isCell_1 rfl rfl) ?_
  refine im_st (r_lconst (v := 0) dX10_isCell_2 rfl rfl) ?_
  refine im_st (r_ldc2 (v := 97) dX10_isCell_3 rfl q1099) ?_
  refine im_st (r_callS (as := [.long (a0.toInt64), .long (0 : Int64), .long (97 : Int64)]) (r := some (.int (f_X10_in (a0.toInt64) (0 : Int64) (97 : Int64)))) (kc1 := 0) (ks1 := 0) (st := []) (st1 := [.int (f_X10_in (a0.toInt64) (0 : Int64) (97 : Int64))]) (e_X10_in (a0.toInt64) (0 : Int64) (97 : Int64) σ τ) ms_X10_in lk_X10_49 ⟨by decide, by decide⟩ ⟨by decide, by decide⟩ (Nat.le_of_ble_eq_true rfl) dX10_isCell_6 rfl rfl rfl rfl rfl) ?_
  refine im_brS (r_if_eq (tgt := 25) dX10_isCell_9 rfl (by decide)) (fun c1 => ?_) (fun c1 => ?_)
  · refine im_st (r_iconst (v := 0) dX10_isCell_25 rfl kI_0) ?_
    exact im_ret (fun q => g_zret (ty := .boolean) rfl rfl rfl rfl dX10_isCell_26 q)
  · refine im_st (r_iload_n (i := 0) dX10_isCell_12 rfl rfl rfl) ?_
    refine im_st (r_bipush (v := 10) dX10_isCell_13 rfl kB_10) ?_
    refine im_st (r_irem dX10_isCell_15 rfl (by decide)) ?_
    refine im_st (r_bipush (v := 8) dX10_isCell_16 rfl kB_8) ?_
    refine im_brS (r_icmp_ge (tgt := 25) dX10_isCell_18 rfl (by decide)) (fun c2 => ?_) (fun c2 => ?_)
    · refine im_st (r_iconst (v := 0) dX10_isCell_25 rfl kI_0) ?_
      exact im_ret (fun q => g_zret (ty := .boolean) rfl rfl rfl rfl dX10_isCell_26 q)
    · refine im_st (r_iconst (v := 1) dX10_isCell_21 rfl kI_1) ?_
      refine im_st (r_goto (pc1 := 26) dX10_isCell_22 (by decide)) ?_
      exact im_ret (fun q => g_zret (ty := .boolean) rfl rfl rfl rfl dX10_isCell_26 q)
theorem e_X10_isCell (a0 : Int32) (σ : Sg) (τ : Sl) : EvD M_X10_isCell [.int a0] (mk σ τ) (some (.int (f_X10_isCell a0))) (mk σ τ) := EvM.of (by decide +kernel) (Nat.le_of_ble_eq_true rfl) (i_X10_isCell a0 σ τ _ _ rfl ⟨rfl, rfl⟩)
def M_X10_isColumn : Ms := (yX10_isColumn, cX10_isColumn, 1, some .boolean, 1, 25, 0, 0)
theorem ms_X10_isColumn : MS M_X10_isColumn 1 := ⟨⟨q1257, q12, by decide, by decide, by decide +kernel⟩, q1256⟩
def f_X10_isColumn (a0 : Int32) : Int32 :=
  (f_X10_in (a0.toInt64) (0 : Int64) (7 : Int64))
theorem z_X10_isColumn (a0 : Int32) : isB (f_X10_isColumn a0) = true := by
  unfold f_X10_isColumn
  (repeat' split) <;> first | rfl | exact z_X10_in ..
set_option maxHeartbeats 4000000 in
set_option maxRecDepth 20000 in
theorem i_X10_isColumn (a0 : Int32) (σ : Sg) (τ : Sl) (Q : Option Value → Hp → Prop) : Imp (some (f_X10_isColumn a0)) (fun (y : Int32) => Q (some (.int y)) (mk σ τ)) (Go M_X10_isColumn Q 0 0 0 [some (.int a0)] [] (mk σ τ)) := by
  unfold f_X10_isColumn
  refine im_st (r_iload_n (i := 0) dX10_isColumn_0 rfl rfl rfl) ?_
  refine im_st (r_i2l (v := a0.toInt64) dX10_isColumn_1 rfl rfl) ?_
  refine im_st (r_lconst (v := 0) dX10_isColumn_2 rfl rfl) ?_
  refine im_st (r_ldc2 (v := 7) dX10_isColumn_3 rfl q1258) ?_
  refine im_st (r_callS (as := [.long (a0.toInt64), .long (0 : Int64), .long (7 : Int64)]) (r := some (.int (f_X10_in (a0.toInt64) (0 : Int64) (7 : Int64)))) (kc1 := 0) (ks1 := 0) (st := []) (st1 := [.int (f_X10_in (a0.toInt64) (0 : Int64) (7 : Int64))]) (e_X10_in (a0.toInt64) (0 : Int64) (7 : Int64) σ τ) ms_X10_in lk_X10_49 ⟨by decide, by decide⟩ ⟨by decide, by decide⟩ (Nat.le_of_ble_eq_true rfl) dX10_isColumn_6 rfl rfl rfl rfl rfl) ?_
  exact im_ret (fun q => g_zret (ty := .boolean) rfl (isB_nar (z_X10_in ..)) rfl rfl dX10_isColumn_9 q)
theorem e_X10_isColumn (a0 : Int32) (σ : Sg) (τ : Sl) : EvD M_X10_isColumn [.int a0] (mk σ τ) (some (.int (f_X10_isColumn a0))) (mk σ τ) := EvM.of (by decide +kernel) (Nat.le_of_ble_eq_true rfl) (i_X10_isColumn a0 σ τ _ _ rfl ⟨rfl, rfl⟩)
def M_X10_isRag : Ms := (yX10_isRag, cX10_isRag, 1, some .boolean, 1, 25, 0, 0)
theorem ms_X10_isRag : MS M_X10_isRag 1 := ⟨⟨q1221, q12, by decide, by decide, by decide +kernel⟩, q1220⟩
def f_X10_isRag (a0 : Int32) : Int32 :=
  (f_X10_in (a0.toInt64) (0 : Int64) (3 : Int64))
theorem z_X10_isRag (a0 : Int32) : isB (f_X10_isRag a0) = true := by
  unfold f_X10_isRag
  (repeat' split) <;> first | rfl | exact z_X10_in ..
set_option maxHeartbeats 4000000 in
set_option maxRecDepth 20000 in
theorem i_X10_isRag (a0 : Int32) (σ : Sg) (τ : Sl) (Q : Option Value → Hp → Prop) : Imp (some (f_X10_isRag a0)) (fun (y : Int32) => Q (some (.int y)) (mk σ τ)) (Go M_X10_isRag Q 0 0 0 [some (.int a0)] [] (mk σ τ)) := by
  unfold f_X10_isRag
  refine im_st (r_iload_n (i := 0) dX10_isRag_0 rfl rfl rfl) ?_
  refine im_st (r_i2l (v := a0.toInt64) dX10_isRag_1 rfl rfl) ?_
  refine im_st (r_lconst (v := 0) dX10_isRag_2 rfl rfl) ?_
  refine im_st (r_ldc2 (v := 3) dX10_isRag_3 rfl q1191) ?_
  refine im_st (r_callS (as := [.long (a0.toInt64), .long (0 : Int64), .long (3 : Int64)]) (r := some (.int (f_X10_in (a0.toInt64) (0 : Int64) (3 : Int64)))) (kc1 := 0) (ks1 := 0) (st := []) (st1 := [.int (f_X10_in (a0.toInt64) (0 : Int64) (3 : Int64))]) (e_X10_in (a0.toInt64) (0 : Int64) (3 : Int64) σ τ) ms_X10_in lk_X10_49 ⟨by decide, by decide⟩ ⟨by decide, by decide⟩ (Nat.le_of_ble_eq_true rfl) dX10_isRag_6 rfl rfl rfl rfl rfl) ?_
  exact im_ret (fun q => g_zret (ty := .boolean) rfl (isB_nar (z_X10_in ..)) rfl rfl dX10_isRag_9 q)
theorem e_X10_isRag (a0 : Int32) (σ : Sg) (τ : Sl) : EvD M_X10_isRag [.int a0] (mk σ τ) (some (.int (f_X10_isRag a0))) (mk σ τ) := EvM.of (by decide +kernel) (Nat.le_of_ble_eq_true rfl) (i_X10_isRag a0 σ τ _ _ rfl ⟨rfl, rfl⟩)
def M_X10_pegOn : Ms := (yX10_pegOn, cX10_pegOn, 4, some .int, 0, 0, 0, 0)
theorem mv_X10_pegOn : MV M_X10_pegOn 2 := ⟨⟨q1151, q12, by decide, by decide, by decide +kernel⟩, q1150, p34⟩
def b_X10_pegOn_2 (a1 : Int32) (a2 : Int32) (σ : Sg) : Int32 → Option (Int32 ⊕ (Int32 ⊕ Int32)) := fun (s1 : Int32) =>
  if inR (a1 + (38 : Int32)) 205 then
  if (σ 76 (a1 + (38 : Int32)).toNatClampNeg) ≤ s1 then
    some (.inr (.inl s1))
  else
    if inR (a1 + s1) 205 then
    if (σ 76 (a1 + s1).toNatClampNeg) = a2 then
      some (.inr (.inr s1))
    else
      some (.inl (s1 + 1))
    else none
  else none
def f_X10_pegOn (a1 : Int32) (a2 : Int32) (σ : Sg) : Option Int32 :=
  (wh (b_X10_pegOn_2 a1 a2 σ) 4096 (0 : Int32)).bind fun (r8 : (Int32 ⊕ Int32)) =>
  Sum.elim (fun (e6 : Int32) =>
    some (-4 : Int32)) (fun (y7 : Int32) => some y7) r8
set_option maxHeartbeats 4000000 in
set_option maxRecDepth 20000 in
theorem i_X10_pegOn (a1 : Int32) (a2 : Int32) (σ : Sg) (τ : Sl) (Q : Option Value → Hp → Prop) : Imp (f_X10_pegOn a1 a2 σ) (fun (y : Int32) => Q (some (.int y)) (mk σ τ)) (Go M_X10_pegOn Q 0 0 0 [some (.ref 75), some (.int a1), some (.int a2), none] [] (mk σ τ)) := by
  unfold f_X10_pegOn
  refine im_st (r_iconst (v := 0) dX10_pegOn_0 rfl kI_0) ?_
  refine im_st (r_istore_n (i := 3) (L1 := [some (.ref 75), some (.int a1), some (.int a2), some (.int (0 : Int32))]) dX10_pegOn_1 rfl rfl (by decide) rfl) ?_
  refine im_seq (Gm := Sum.elim (fun (e6 : Int32) => Go M_X10_pegOn Q 0 0 35 [none, none, none, none] [] (mk σ τ)) (fun (y : Int32) => Q (some (.int y)) (mk σ τ))) ?_ (fun r8 => ?_)
  · refine im_wh (G := fun (s1 : Int32) => Go M_X10_pegOn Q 0 0 2 [some (.ref 75), some (.int a1), some (.int a2), some (.int s1)] [] (mk σ τ)) (fun s1 => ?_) _ _
    unfold b_X10_pegOn_2
    refine im_st (r_iload_n (i := 3) dX10_pegOn_2 rfl rfl rfl) ?_
    refine im_st (r_aload_n (i := 0) dX10_pegOn_3 rfl rfl rfl) ?_
    refine im_st (s_getR (b := 76) (tag := 10) (j := 0) dX10_pegOn_4 rfl fl_X10_7 rfl (Nat.le_of_ble_eq_true rfl) rfl rfl) ?_
    refine im_st (r_iload_n (i := 1) dX10_pegOn_7 rfl rfl rfl) ?_
    refine im_st (r_bipush (v := 38) dX10_pegOn_8 rfl kB_38) ?_
    refine im_st (r_iadd dX10_pegOn_10 rfl) ?_
    refine im_grd (fun g2 => ?_)
    refine im_st (s_iaload dX10_pegOn_11 rfl rfl (Nat.le_of_ble_eq_true rfl) (inR_in g2)) ?_
    refine im_br (r_icmp_ge (tgt := 35) dX10_pegOn_12 rfl (by decide)) (fun c3 => ?_) (fun c3 => ?_)
    · refine im_st (r_fgt (L1 := [none, none, none, none]) [0, 1, 2, 3] rfl) ?_
      exact im_ret id
    · refine im_st (r_aload_n (i := 0) dX10_pegOn_15 rfl rfl rfl) ?_
      refine im_st (s_getR (b := 76) (tag := 10) (j := 0) dX10_pegOn_16 rfl fl_X10_7 rfl (Nat.le_of_ble_eq_true rfl) rfl rfl) ?_
      refine im_st (r_iload_n (i := 1) dX10_pegOn_19 rfl rfl rfl) ?_
      refine im_st (r_iload_n (i := 3) dX10_pegOn_20 rfl rfl rfl) ?_
      refine im_st (r_iadd dX10_pegOn_21 rfl) ?_
      refine im_grd (fun g4 => ?_)
      refine im_st (s_iaload dX10_pegOn_22 rfl rfl (Nat.le_of_ble_eq_true rfl) (inR_in g4)) ?_
      refine im_st (r_iload_n (i := 2) dX10_pegOn_23 rfl rfl rfl) ?_
      refine im_br (r_icmp_ne (tgt := 29) dX10_pegOn_24 rfl (by decide)) (fun c5 => ?_) (fun c5 => ?_)
      · refine im_st (r_iload_n (i := 3) dX10_pegOn_27 rfl rfl rfl) ?_
        exact im_ret (fun q => g_iret rfl rfl rfl dX10_pegOn_28 q)
      · refine im_st (r_iinc (i := 3) (x := s1) (v := (s1 + 1)) (L1 := [some (.ref 75), some (.int a1), some (.int a2), some (.int (s1 + 1))]) dX10_pegOn_29 rfl rfl rfl (by decide) rfl) ?_
        refine im_st (r_goto (pc1 := 2) dX10_pegOn_32 (by decide)) ?_
        exact im_ret id
  refine im_sum (fun e6 => ?_) (fun y7 => im_ret id) r8
  refine im_st (r_bipush (v := -4) dX10_pegOn_35 rfl kB_m4) ?_
  exact im_ret (fun q => g_iret rfl rfl rfl dX10_pegOn_37 q)
theorem e_X10_pegOn (a1 : Int32) (a2 : Int32) (σ : Sg) (τ : Sl) (y : Int32) (hy : f_X10_pegOn a1 a2 σ = some y) : EvD M_X10_pegOn [.ref 75, .int a1, .int a2] (mk σ τ) (some (.int y)) (mk σ τ) := EvM.of (by decide +kernel) (Nat.le_of_ble_eq_true rfl) (i_X10_pegOn a1 a2 σ τ _ y hy ⟨rfl, rfl⟩)
def M_X10_slugOn : Ms := (yX10_slugOn, cX10_slugOn, 4, some .int, 0, 0, 0, 0)
theorem mv_X10_slugOn : MV M_X10_slugOn 2 := ⟨⟨q1155, q12, by decide, by decide, by decide +kernel⟩, q1154, p35⟩
def b_X10_slugOn_2 (a1 : Int32) (a2 : Int32) (σ : Sg) : Int32 → Option (Int32 ⊕ (Int32 ⊕ Int32)) := fun (s1 : Int32) =>
  if inR (a1 + (39 : Int32)) 205 then
  if (σ 76 (a1 + (39 : Int32)).toNatClampNeg) ≤ s1 then
    some (.inr (.inl s1))
  else
    if inR ((a1 + (14 : Int32)) + s1) 205 then
    if (σ 76 ((a1 + (14 : Int32)) + s1).toNatClampNeg) = a2 then
      some (.inr (.inr s1))
    else
      some (.inl (s1 + 1))
    else none
  else none
def f_X10_slugOn (a1 : Int32) (a2 : Int32) (σ : Sg) : Option Int32 :=
  (wh (b_X10_slugOn_2 a1 a2 σ) 4096 (0 : Int32)).bind fun (r8 : (Int32 ⊕ Int32)) =>
  Sum.elim (fun (e6 : Int32) =>
    some (-4 : Int32)) (fun (y7 : Int32) => some y7) r8
set_option maxHeartbeats 4000000 in
set_option maxRecDepth 20000 in
theorem i_X10_slugOn (a1 : Int32) (a2 : Int32) (σ : Sg) (τ : Sl) (Q : Option Value → Hp → Prop) : Imp (f_X10_slugOn a1 a2 σ) (fun (y : Int32) => Q (some (.int y)) (mk σ τ)) (Go M_X10_slugOn Q 0 0 0 [some (.ref 75), some (.int a1), some (.int a2), none] [] (mk σ τ)) := by
  unfold f_X10_slugOn
  refine im_st (r_iconst (v := 0) dX10_slugOn_0 rfl kI_0) ?_
  refine im_st (r_istore_n (i := 3) (L1 := [some (.ref 75), some (.int a1), some (.int a2), some (.int (0 : Int32))]) dX10_slugOn_1 rfl rfl (by decide) rfl) ?_
  refine im_seq (Gm := Sum.elim (fun (e6 : Int32) => Go M_X10_slugOn Q 0 0 38 [none, none, none, none] [] (mk σ τ)) (fun (y : Int32) => Q (some (.int y)) (mk σ τ))) ?_ (fun r8 => ?_)
  · refine im_wh (G := fun (s1 : Int32) => Go M_X10_slugOn Q 0 0 2 [some (.ref 75), some (.int a1), some (.int a2), some (.int s1)] [] (mk σ τ)) (fun s1 => ?_) _ _
    unfold b_X10_slugOn_2
    refine im_st (r_iload_n (i := 3) dX10_slugOn_2 rfl rfl rfl) ?_
    refine im_st (r_aload_n (i := 0) dX10_slugOn_3 rfl rfl rfl) ?_
    refine im_st (s_getR (b := 76) (tag := 10) (j := 0) dX10_slugOn_4 rfl fl_X10_7 rfl (Nat.le_of_ble_eq_true rfl) rfl rfl) ?_
    refine im_st (r_iload_n (i := 1) dX10_slugOn_7 rfl rfl rfl) ?_
    refine im_st (r_bipush (v := 39) dX10_slugOn_8 rfl kB_39) ?_
    refine im_st (r_iadd dX10_slugOn_10 rfl) ?_
    refine im_grd (fun g2 => ?_)
    refine im_st (s_iaload dX10_slugOn_11 rfl rfl (Nat.le_of_ble_eq_true rfl) (inR_in g2)) ?_
    refine im_br (r_icmp_ge (tgt := 38) dX10_slugOn_12 rfl (by decide)) (fun c3 => ?_) (fun c3 => ?_)
    · refine im_st (r_fgt (L1 := [none, none, none, none]) [0, 1, 2, 3] rfl) ?_
      exact im_ret id
    · refine im_st (r_aload_n (i := 0) dX10_slugOn_15 rfl rfl rfl) ?_
      refine im_st (s_getR (b := 76) (tag := 10) (j := 0) dX10_slugOn_16 rfl fl_X10_7 rfl (Nat.le_of_ble_eq_true rfl) rfl rfl) ?_
      refine im_st (r_iload_n (i := 1) dX10_slugOn_19 rfl rfl rfl) ?_
      refine im_st (r_bipush (v := 14) dX10_slugOn_20 rfl kB_14) ?_
      refine im_st (r_iadd dX10_slugOn_22 rfl) ?_
      refine im_st (r_iload_n (i := 3) dX10_slugOn_23 rfl rfl rfl) ?_
      refine im_st (r_iadd dX10_slugOn_24 rfl) ?_
      refine im_grd (fun g4 => ?_)
      refine im_st (s_iaload dX10_slugOn_25 rfl rfl (Nat.le_of_ble_eq_true rfl) (inR_in g4)) ?_
      refine im_st (r_iload_n (i := 2) dX10_slugOn_26 rfl rfl rfl) ?_
      refine im_br (r_icmp_ne (tgt := 32) dX10_slugOn_27 rfl (by decide)) (fun c5 => ?_) (fun c5 => ?_)
      · refine im_st (r_iload_n (i := 3) dX10_slugOn_30 rfl rfl rfl) ?_
        exact im_ret (fun q => g_iret rfl rfl rfl dX10_slugOn_31 q)
      · refine im_st (r_iinc (i := 3) (x := s1) (v := (s1 + 1)) (L1 := [some (.ref 75), some (.int a1), some (.int a2), some (.int (s1 + 1))]) dX10_slugOn_32 rfl rfl rfl (by decide) rfl) ?_
        refine im_st (r_goto (pc1 := 2) dX10_slugOn_35 (by decide)) ?_
        exact im_ret id
  refine im_sum (fun e6 => ?_) (fun y7 => im_ret id) r8
  refine im_st (r_bipush (v := -4) dX10_slugOn_38 rfl kB_m4) ?_
  exact im_ret (fun q => g_iret rfl rfl rfl dX10_slugOn_40 q)
theorem e_X10_slugOn (a1 : Int32) (a2 : Int32) (σ : Sg) (τ : Sl) (y : Int32) (hy : f_X10_slugOn a1 a2 σ = some y) : EvD M_X10_slugOn [.ref 75, .int a1, .int a2] (mk σ τ) (some (.int y)) (mk σ τ) := EvM.of (by decide +kernel) (Nat.le_of_ble_eq_true rfl) (i_X10_slugOn a1 a2 σ τ _ y hy ⟨rfl, rfl⟩)
def M_X10_isFreeOn : Ms := (yX10_isFreeOn, cX10_isFreeOn, 3, some .boolean, 1, 23, 0, 0)
theorem mv_X10_isFreeOn : MV M_X10_isFreeOn 2 := ⟨⟨q1210, q12, by decide, by decide, by decide +kernel⟩, q1209, p41⟩
def f_X10_isFreeOn (a1 : Int32) (a2 : Int32) (σ : Sg) : Option Int32 :=
  (f_X10_pegOn a1 a2 σ).bind fun (y1 : Int32) =>
  if y1 = (-4 : Int32) then
    (f_X10_slugOn a1 a2 σ).bind fun (y3 : Int32) =>
    if y3 = (-4 : Int32) then
      some (1 : Int32)
    else
      some (0 : Int32)
  else
    some (0 : Int32)
set_option maxHeartbeats 4000000 in
set_option maxRecDepth 20000 in
theorem i_X10_isFreeOn (a1 : Int32) (a2 : Int32) (σ : Sg) (τ : Sl) (Q : Option Value → Hp → Prop) : Imp (f_X10_isFreeOn a1 a2 σ) (fun (y : Int32) => Q (some (.int y)) (mk σ τ)) (Go M_X10_isFreeOn Q 0 0 0 [some (.ref 75), some (.int a1), some (.int a2)] [] (mk σ τ)) := by
  unfold f_X10_isFreeOn
  refine im_st (r_aload_n (i := 0) dX10_isFreeOn_0 rfl rfl rfl) ?_
  refine im_st (r_iload_n (i := 1) dX10_isFreeOn_1 rfl rfl rfl) ?_
  refine im_st (r_iload_n (i := 2) dX10_isFreeOn_2 rfl rfl rfl) ?_
  refine im_bind (fun y1 hy1 => ?_)
  refine im_st (r_callV (as := [.int a1, .int a2]) (r := some (.int y1)) (kc1 := 0) (ks1 := 0) (st := []) (st1 := [.int y1]) (e_X10_pegOn a1 a2 σ τ y1 hy1) mv_X10_pegOn lk_X10_139 ⟨by decide, by decide⟩ rfl (Nat.le_of_ble_eq_true rfl) (by decide) ⟨_, rfl, rfl⟩ ⟨by decide, by decide⟩ (Nat.le_of_ble_eq_true rfl) dX10_isFreeOn_3 rfl rfl rfl rfl rfl) ?_
  refine im_st (r_bipush (v := -4) dX10_isFreeOn_6 rfl kB_m4) ?_
  refine im_br (r_icmp_ne (tgt := 26) dX10_isFreeOn_8 rfl (by decide)) (fun c2 => ?_) (fun c2 => ?_)
  · refine im_st (r_aload_n (i := 0) dX10_isFreeOn_11 rfl rfl rfl) ?_
    refine im_st (r_iload_n (i := 1) dX10_isFreeOn_12 rfl rfl rfl) ?_
    refine im_st (r_iload_n (i := 2) dX10_isFreeOn_13 rfl rfl rfl) ?_
    refine im_bind (fun y3 hy3 => ?_)
    refine im_st (r_callV (as := [.int a1, .int a2]) (r := some (.int y3)) (kc1 := 0) (ks1 := 0) (st := []) (st1 := [.int y3]) (e_X10_slugOn a1 a2 σ τ y3 hy3) mv_X10_slugOn lk_X10_142 ⟨by decide, by decide⟩ rfl (Nat.le_of_ble_eq_true rfl) (by decide) ⟨_, rfl, rfl⟩ ⟨by decide, by decide⟩ (Nat.le_of_ble_eq_true rfl) dX10_isFreeOn_14 rfl rfl rfl rfl rfl) ?_
    refine im_st (r_bipush (v := -4) dX10_isFreeOn_17 rfl kB_m4) ?_
    refine im_br (r_icmp_ne (tgt := 26) dX10_isFreeOn_19 rfl (by decide)) (fun c4 => ?_) (fun c4 => ?_)
    · refine im_st (r_iconst (v := 1) dX10_isFreeOn_22 rfl kI_1) ?_
      refine im_st (r_goto (pc1 := 27) dX10_isFreeOn_23 (by decide)) ?_
      exact im_ret (fun q => g_zret (ty := .boolean) rfl rfl rfl rfl dX10_isFreeOn_27 q)
    · refine im_st (r_iconst (v := 0) dX10_isFreeOn_26 rfl kI_0) ?_
      exact im_ret (fun q => g_zret (ty := .boolean) rfl rfl rfl rfl dX10_isFreeOn_27 q)
  · refine im_st (r_iconst (v := 0) dX10_isFreeOn_26 rfl kI_0) ?_
    exact im_ret (fun q => g_zret (ty := .boolean) rfl rfl rfl rfl dX10_isFreeOn_27 q)
theorem e_X10_isFreeOn (a1 : Int32) (a2 : Int32) (σ : Sg) (τ : Sl) (y : Int32) (hy : f_X10_isFreeOn a1 a2 σ = some y) : EvD M_X10_isFreeOn [.ref 75, .int a1, .int a2] (mk σ τ) (some (.int y)) (mk σ τ) := EvM.of (by decide +kernel) (Nat.le_of_ble_eq_true rfl) (i_X10_isFreeOn a1 a2 σ τ _ y hy ⟨rfl, rfl⟩)
def M_X10_losesOf : Ms := (yX10_losesOf, cX10_losesOf, 1, some .int, 0, 0, 0, 0)
theorem ms_X10_losesOf : MS M_X10_losesOf 1 := ⟨⟨q1158, q12, by decide, by decide, by decide +kernel⟩, q1157⟩
def f_X10_losesOf (a0 : Int32) : Int32 :=
  if a0 = 0 then
    (2 : Int32)
  else
    if a0 = (1 : Int32) then
      (3 : Int32)
    else
      if a0 = (2 : Int32) then
        (1 : Int32)
      else
        (6 : Int32)
set_option maxHeartbeats 4000000 in
set_option maxRecDepth 20000 in
theorem i_X10_losesOf (a0 : Int32) (σ : Sg) (τ : Sl) (Q : Option Value → Hp → Prop) : Imp (some (f_X10_losesOf a0)) (fun (y : Int32) => Q (some (.int y)) (mk σ τ)) (Go M_X10_losesOf Q 0 0 0 [some (.int a0)] [] (mk σ τ)) := by
  unfold f_X10_losesOf
  refine im_st (r_iload_n (i := 0) dX10_losesOf_0 rfl rfl rfl) ?_
  refine im_brS (r_if_ne (tgt := 8) dX10_losesOf_1 rfl (by decide)) (fun c1 => ?_) (fun c1 => ?_)
  · refine im_st (r_iconst (v := 2) dX10_losesOf_4 rfl kI_2) ?_
    refine im_st (r_goto (pc1 := 28) dX10_losesOf_5 (by decide)) ?_
    exact im_ret (fun q => g_iret rfl rfl rfl dX10_losesOf_28 q)
  · refine im_st (r_iload_n (i := 0) dX10_losesOf_8 rfl rfl rfl) ?_
    refine im_st (r_iconst (v := 1) dX10_losesOf_9 rfl kI_1) ?_
    refine im_brS (r_icmp_ne (tgt := 17) dX10_losesOf_10 rfl (by decide)) (fun c2 => ?_) (fun c2 => ?_)
    · refine im_st (r_iconst (v := 3) dX10_losesOf_13 rfl kI_3) ?_
      refine im_st (r_goto (pc1 := 28) dX10_losesOf_14 (by decide)) ?_
      exact im_ret (fun q => g_iret rfl rfl rfl dX10_losesOf_28 q)
    · refine im_st (r_iload_n (i := 0) dX10_losesOf_17 rfl rfl rfl) ?_
      refine im_st (r_iconst (v := 2) dX10_losesOf_18 rfl kI_2) ?_
      refine im_brS (r_icmp_ne (tgt := 26) dX10_losesOf_19 rfl (by decide)) (fun c3 => ?_) (fun c3 => ?_)
      · refine im_st (r_iconst (v := 1) dX10_losesOf_22 rfl kI_1) ?_
        refine im_st (r_goto (pc1 := 28) dX10_losesOf_23 (by decide)) ?_
        exact im_ret (fun q => g_iret rfl rfl rfl dX10_losesOf_28 q)
      · refine im_st (r_bipush (v := 6) dX10_losesOf_26 rfl kB_6) ?_
        exact im_ret (fun q => g_iret rfl rfl rfl dX10_losesOf_28 q)
theorem e_X10_losesOf (a0 : Int32) (σ : Sg) (τ : Sl) : EvD M_X10_losesOf [.int a0] (mk σ τ) (some (.int (f_X10_losesOf a0))) (mk σ τ) := EvM.of (by decide +kernel) (Nat.le_of_ble_eq_true rfl) (i_X10_losesOf a0 σ τ _ _ rfl ⟨rfl, rfl⟩)
def M_X10_turnOf : Ms := (yX10_turnOf, cX10_turnOf, 3, some .int, 0, 0, 0, 0)
theorem ms_X10_turnOf : MS M_X10_turnOf 2 := ⟨⟨q1161, q12, by decide, by decide, by decide +kernel⟩, q1160⟩
def f_X10_turnOf (a0 : Int32) (a1 : Int32) : Int32 :=
  app (if (a1 - a1 / (2 : Int32) * (2 : Int32)) = 0 then
    (-1 : Int32)
  else
    (1 : Int32)) fun (j1 : Int32) =>
  if a0 = 0 then
    j1
  else
    if a0 = (1 : Int32) then
      (-j1)
    else
      if a0 = (2 : Int32) then
        (1 : Int32)
      else
        ((-2 : Int32) * j1)
set_option maxHeartbeats 4000000 in
set_option maxRecDepth 20000 in
theorem i_X10_turnOf (a0 : Int32) (a1 : Int32) (σ : Sg) (τ : Sl) (Q : Option Value → Hp → Prop) : Imp (some (f_X10_turnOf a0 a1)) (fun (y : Int32) => Q (some (.int y)) (mk σ τ)) (Go M_X10_turnOf Q 0 0 0 [some (.int a0), some (.int a1), none] [] (mk σ τ)) := by
  unfold f_X10_turnOf
  refine im_st (r_iload_n (i := 1) dX10_turnOf_0 rfl rfl rfl) ?_
  refine im_st (r_iconst (v := 2) dX10_turnOf_1 rfl kI_2) ?_
  refine im_st (r_irem dX10_turnOf_2 rfl (by decide)) ?_
  refine im_seqS (Gm := fun (j1 : Int32) => Go M_X10_turnOf Q 0 0 11 [some (.int a0), none, none] [.int j1] (mk σ τ)) ?_ (fun j1 => ?_)
  · refine im_brS (r_if_ne (tgt := 10) dX10_turnOf_3 rfl (by decide)) (fun c2 => ?_) (fun c2 => ?_)
    · refine im_st (r_iconst (v := -1) dX10_turnOf_6 rfl kI_m1) ?_
      refine im_st (r_goto (pc1 := 11) dX10_turnOf_7 (by decide)) ?_
      refine im_st (r_fgt (L1 := [some (.int a0), none, none]) [1] rfl) ?_
      exact im_ret id
    · refine im_st (r_iconst (v := 1) dX10_turnOf_10 rfl kI_1) ?_
      refine im_st (r_fgt (L1 := [some (.int a0), none, none]) [1] rfl) ?_
      exact im_ret id
  refine im_st (r_istore_n (i := 2) (L1 := [some (.int a0), none, some (.int j1)]) dX10_turnOf_11 rfl rfl (by decide) rfl) ?_
  refine im_st (r_iload_n (i := 0) dX10_turnOf_12 rfl rfl rfl) ?_
  refine im_brS (r_if_ne (tgt := 20) dX10_turnOf_13 rfl (by decide)) (fun c3 => ?_) (fun c3 => ?_)
  · refine im_st (r_iload_n (i := 2) dX10_turnOf_16 rfl rfl rfl) ?_
    refine im_st (r_goto (pc1 := 43) dX10_turnOf_17 (by decide)) ?_
    exact im_ret (fun q => g_iret rfl rfl rfl dX10_turnOf_43 q)
  · refine im_st (r_iload_n (i := 0) dX10_turnOf_20 rfl rfl rfl) ?_
    refine im_st (r_iconst (v := 1) dX10_turnOf_21 rfl kI_1) ?_
    refine im_brS (r_icmp_ne (tgt := 30) dX10_turnOf_22 rfl (by decide)) (fun c4 => ?_) (fun c4 => ?_)
    · refine im_st (r_iload_n (i := 2) dX10_turnOf_25 rfl rfl rfl) ?_
      refine im_st (r_ineg dX10_turnOf_26 rfl) ?_
      refine im_st (r_goto (pc1 := 43) dX10_turnOf_27 (by decide)) ?_
      exact im_ret (fun q => g_iret rfl rfl rfl dX10_turnOf_43 q)
    · refine im_st (r_iload_n (i := 0) dX10_turnOf_30 rfl rfl rfl) ?_
      refine im_st (r_iconst (v := 2) dX10_turnOf_31 rfl kI_2) ?_
      refine im_brS (r_icmp_ne (tgt := 39) dX10_turnOf_32 rfl (by decide)) (fun c5 => ?_) (fun c5 => ?_)
      · refine im_st (r_iconst (v := 1) dX10_turnOf_35 rfl kI_1) ?_
        refine im_st (r_goto (pc1 := 43) dX10_turnOf_36 (by decide)) ?_
        exact im_ret (fun q => g_iret rfl rfl rfl dX10_turnOf_43 q)
      · refine im_st (r_bipush (v := -2) dX10_turnOf_39 rfl kB_m2) ?_
        refine im_st (r_iload_n (i := 2) dX10_turnOf_41 rfl rfl rfl) ?_
        refine im_st (r_imul dX10_turnOf_42 rfl) ?_
        exact im_ret (fun q => g_iret rfl rfl rfl dX10_turnOf_43 q)
theorem e_X10_turnOf (a0 : Int32) (a1 : Int32) (σ : Sg) (τ : Sl) : EvD M_X10_turnOf [.int a0, .int a1] (mk σ τ) (some (.int (f_X10_turnOf a0 a1))) (mk σ τ) := EvM.of (by decide +kernel) (Nat.le_of_ble_eq_true rfl) (i_X10_turnOf a0 a1 σ τ _ _ rfl ⟨rfl, rfl⟩)
def M_X10_runsOn : Ms := (yX10_runsOn, cX10_runsOn, 12, none, 1, 23, 0, 0)
theorem mv_X10_runsOn : MV M_X10_runsOn 4 := ⟨⟨q1147, q12, by decide, by decide, by decide +kernel⟩, q1146, p33⟩
def b_X10_runsOn_54 (a1 : Int32) (a4 : Int32) (v2 : Int32) : (Int32 × Int32 × Int32 × Sg) → Option ((Int32 × Int32 × Int32 × Sg) ⊕ (Int32 × Int32 × Int32 × Sg)) := fun (s9 : (Int32 × Int32 × Int32 × Sg)) =>
  if (10 : Int32) ≤ s9.2.2.1 then
    some (.inr (s9.1, s9.2.1, s9.2.2.1, s9.2.2.2))
  else
    if (s9.2.2.2 75 17) = (10 : Int32) then
      app (((10 : Int32) * s9.2.2.1) + s9.2.1) fun (v12 : Int32) =>
      (f_X10_pegOn a1 v12 s9.2.2.2).bind fun (y13 : Int32) =>
      if inR s9.2.2.1 10 then
      app (up2 s9.2.2.2 81 s9.2.2.1.toNatClampNeg s9.2.1) fun (σ15 : Sg) =>
      (f_X10_slugOn a1 v12 σ15).bind fun (y16 : Int32) =>
      app (if y16 = (-4 : Int32) then
        if y13 = (-4 : Int32) then
          (s9.1, s9.2.1, σ15)
        else
          app (s9.1 - (f_X10_losesOf v2)) fun (v20 : Int32) =>
          if 0 < v20 then
            app (if ((a4 >>> (s9.2.2.1 &&& 31)) &&& (1 : Int32)) = (1 : Int32) then
              (-1 : Int32)
            else
              (1 : Int32)) fun (j22 : Int32) =>
            app (s9.2.1 + (j22 * (f_X10_turnOf v2 s9.2.2.1))) fun (v24 : Int32) =>
            app (if 0 ≤ v24 then
              if v24 < (8 : Int32) then
                v24
              else
                (7 : Int32)
            else
              (0 : Int32)) fun (j25 : Int32) =>
            (v20, j25, (up2 σ15 75 18 ((σ15 75 18) + (1 : Int32))))
          else
            app (up2 σ15 75 18 ((σ15 75 18) + (1 : Int32))) fun (σ28 : Sg) =>
            app (up2 σ28 75 16 y13) fun (σ29 : Sg) =>
            (v20, s9.2.1, (up2 σ29 75 17 s9.2.2.1))
      else
        app (up2 σ15 75 19 (1 : Int32)) fun (σ30 : Sg) =>
        (s9.1, s9.2.1, (up2 σ30 75 17 s9.2.2.1))) fun (j17 : (Int32 × Int32 × Sg)) =>
      some (.inl (j17.1, j17.2.1, (s9.2.2.1 + 1), j17.2.2))
      else none
    else
      some (.inr (s9.1, s9.2.1, s9.2.2.1, s9.2.2.2))
def f_X10_runsOn (a1 : Int32) (a2 : Int32) (a3 : Int32) (a4 : Int32) (σ : Sg) : Option Sg :=
  if inR ((a1 + (18 : Int32)) + a2) 205 then
  app (σ 76 ((a1 + (18 : Int32)) + a2).toNatClampNeg) fun (v2 : Int32) =>
  if inR ((a1 + (22 : Int32)) + a2) 205 then
  app (σ 76 ((a1 + (22 : Int32)) + a2).toNatClampNeg) fun (v4 : Int32) =>
  app (up2 σ 75 16 (-4 : Int32)) fun (σ5 : Sg) =>
  app (up2 σ5 75 17 (10 : Int32)) fun (σ6 : Sg) =>
  app (up2 σ6 75 18 (0 : Int32)) fun (σ7 : Sg) =>
  app (up2 σ7 75 19 (0 : Int32)) fun (σ8 : Sg) =>
  (wh (b_X10_runsOn_54 a1 a4 v2) 4096 (v4, a3, (0 : Int32), σ8)).bind fun (e31 : (Int32 × Int32 × Int32 × Sg)) =>
  some e31.2.2.2
  else none
  else none
set_option maxHeartbeats 4000000 in
set_option maxRecDepth 20000 in
theorem i_X10_runsOn (a1 : Int32) (a2 : Int32) (a3 : Int32) (a4 : Int32) (σ : Sg) (τ : Sl) (Q : Option Value → Hp → Prop) : Imp (f_X10_runsOn a1 a2 a3 a4 σ) (fun (y : Sg) => Q (none) (mk y τ)) (Go M_X10_runsOn Q 0 0 0 [some (.ref 75), some (.int a1), some (.int a2), some (.int a3), some (.int a4), none, none, none, none, none, none, none] [] (mk σ τ)) := by
  unfold f_X10_runsOn
  refine im_st (r_aload_n (i := 0) dX10_runsOn_0 rfl rfl rfl) ?_
  refine im_st (s_getR (b := 76) (tag := 10) (j := 0) dX10_runsOn_1 rfl fl_X10_7 rfl (Nat.le_of_ble_eq_true rfl) rfl rfl) ?_
  refine im_st (r_iload_n (i := 1) dX10_runsOn_4 rfl rfl rfl) ?_
  refine im_st (r_bipush (v := 18) dX10_runsOn_5 rfl kB_18) ?_
  refine im_st (r_iadd dX10_runsOn_7 rfl) ?_
  refine im_st (r_iload_n (i := 2) dX10_runsOn_8 rfl rfl rfl) ?_
  refine im_st (r_iadd dX10_runsOn_9 rfl) ?_
  refine im_grd (fun g1 => ?_)
  refine im_st (s_iaload dX10_runsOn_10 rfl rfl (Nat.le_of_ble_eq_true rfl) (inR_in g1)) ?_
  refine im_app (Gm := fun (v2 : Int32) => Go M_X10_runsOn Q 0 0 11 [some (.ref 75), some (.int a1), some (.int a2), some (.int a3), some (.int a4), none, none, none, none, none, none, none] [.int v2] (mk σ τ)) (fun v2 => ?_)
  refine im_st (r_istore (i := 5) (L1 := [some (.ref 75), some (.int a1), some (.int a2), some (.int a3), some (.int a4), some (.int v2), none, none, none, none, none, none]) dX10_runsOn_11 rfl (by decide) rfl) ?_
  refine im_st (r_aload_n (i := 0) dX10_runsOn_13 rfl rfl rfl) ?_
  refine im_st (s_getR (b := 76) (tag := 10) (j := 0) dX10_runsOn_14 rfl fl_X10_7 rfl (Nat.le_of_ble_eq_true rfl) rfl rfl) ?_
  refine im_st (r_iload_n (i := 1) dX10_runsOn_17 rfl rfl rfl) ?_
  refine im_st (r_bipush (v := 22) dX10_runsOn_18 rfl kB_22) ?_
  refine im_st (r_iadd dX10_runsOn_20 rfl) ?_
  refine im_st (r_iload_n (i := 2) dX10_runsOn_21 rfl rfl rfl) ?_
  refine im_st (r_iadd dX10_runsOn_22 rfl) ?_
  refine im_grd (fun g3 => ?_)
  refine im_st (s_iaload dX10_runsOn_23 rfl rfl (Nat.le_of_ble_eq_true rfl) (inR_in g3)) ?_
  refine im_app (Gm := fun (v4 : Int32) => Go M_X10_runsOn Q 0 0 24 [some (.ref 75), some (.int a1), some (.int a2), some (.int a3), some (.int a4), some (.int v2), none, none, none, none, none, none] [.int v4] (mk σ τ)) (fun v4 => ?_)
  refine im_st (r_istore (i := 6) (L1 := [some (.ref 75), some (.int a1), some (.int a2), some (.int a3), some (.int a4), some (.int v2), some (.int v4), none, none, none, none, none]) dX10_runsOn_24 rfl (by decide) rfl) ?_
  refine im_st (r_iload_n (i := 3) dX10_runsOn_26 rfl rfl rfl) ?_
  refine im_st (r_istore (i := 7) (L1 := [some (.ref 75), some (.int a1), some (.int a2), some (.int a3), some (.int a4), some (.int v2), some (.int v4), some (.int a3), none, none, none, none]) dX10_runsOn_27 rfl (by decide) rfl) ?_
  refine im_st (r_aload_n (i := 0) dX10_runsOn_29 rfl rfl rfl) ?_
  refine im_st (r_bipush (v := -4) dX10_runsOn_30 rfl kB_m4) ?_
  refine im_st (s_putI (tag := 10) (j := 16) dX10_runsOn_32 rfl fl_X10_145 rfl (Nat.le_of_ble_eq_true rfl) rfl fw_10_16) ?_
  refine im_st (r_aload_n (i := 0) dX10_runsOn_35 rfl rfl rfl) ?_
  refine im_st (r_bipush (v := 10) dX10_runsOn_36 rfl kB_10) ?_
  refine im_app (Gm := fun (σ5 : Sg) => Go M_X10_runsOn Q 0 0 38 [some (.ref 75), some (.int a1), some (.int a2), some (.int a3), some (.int a4), some (.int v2), some (.int v4), some (.int a3), none, none, none, none] [.int (10 : Int32), .ref 75] (mk σ5 τ)) (fun σ5 => ?_)
  refine im_st (s_putI (tag := 10) (j := 17) dX10_runsOn_38 rfl fl_X10_148 rfl (Nat.le_of_ble_eq_true rfl) rfl fw_10_17) ?_
  refine im_st (r_aload_n (i := 0) dX10_runsOn_41 rfl rfl rfl) ?_
  refine im_st (r_iconst (v := 0) dX10_runsOn_42 rfl kI_0) ?_
  refine im_app (Gm := fun (σ6 : Sg) => Go M_X10_runsOn Q 0 0 43 [some (.ref 75), some (.int a1), some (.int a2), some (.int a3), some (.int a4), some (.int v2), some (.int v4), some (.int a3), none, none, none, none] [.int (0 : Int32), .ref 75] (mk σ6 τ)) (fun σ6 => ?_)
  refine im_st (s_putI (tag := 10) (j := 18) dX10_runsOn_43 rfl fl_X10_151 rfl (Nat.le_of_ble_eq_true rfl) rfl fw_10_18) ?_
  refine im_st (r_aload_n (i := 0) dX10_runsOn_46 rfl rfl rfl) ?_
  refine im_st (r_iconst (v := 0) dX10_runsOn_47 rfl kI_0) ?_
  refine im_app (Gm := fun (σ7 : Sg) => Go M_X10_runsOn Q 0 0 48 [some (.ref 75), some (.int a1), some (.int a2), some (.int a3), some (.int a4), some (.int v2), some (.int v4), some (.int a3), none, none, none, none] [.int (0 : Int32), .ref 75] (mk σ7 τ)) (fun σ7 => ?_)
  refine im_st (s_putZ (tag := 10) (j := 19) dX10_runsOn_48 rfl fl_X10_154 rfl (Nat.le_of_ble_eq_true rfl) rfl fw_10_19 rfl) ?_
  refine im_st (r_iconst (v := 0) dX10_runsOn_51 rfl kI_0) ?_
  refine im_st (r_istore (i := 8) (L1 := [some (.ref 75), some (.int a1), some (.int a2), some (.int a3), some (.int a4), some (.int v2), some (.int v4), some (.int a3), some (.int (0 : Int32)), none, none, none]) dX10_runsOn_52 rfl (by decide) rfl) ?_
  refine im_app (Gm := fun (σ8 : Sg) => Go M_X10_runsOn Q 0 0 54 [some (.ref 75), some (.int a1), some (.int a2), some (.int a3), some (.int a4), some (.int v2), some (.int v4), some (.int a3), some (.int (0 : Int32)), none, none, none] [] (mk σ8 τ)) (fun σ8 => ?_)
  refine im_st (r_fgt (L1 := [some (.ref 75), some (.int a1), none, none, some (.int a4), some (.int v2), some (.int v4), some (.int a3), some (.int (0 : Int32)), none, none, none]) [2, 3] rfl) ?_
  refine im_seq (Gm := fun (e31 : (Int32 × Int32 × Int32 × Sg)) => Go M_X10_runsOn Q 0 0 231 [none, none, none, none, none, none, none, none, none, none, none, none] [] (mk e31.2.2.2 τ)) ?_ (fun e31 => ?_)
  · refine im_wh (G := fun (s9 : (Int32 × Int32 × Int32 × Sg)) => Go M_X10_runsOn Q 0 0 54 [some (.ref 75), some (.int a1), none, none, some (.int a4), some (.int v2), some (.int s9.1), some (.int s9.2.1), some (.int s9.2.2.1), none, none, none] [] (mk s9.2.2.2 τ)) (fun s9 => ?_) _ _
    unfold b_X10_runsOn_54
    refine im_st (r_iload (i := 8) dX10_runsOn_54 rfl rfl) ?_
    refine im_st (r_bipush (v := 10) dX10_runsOn_56 rfl kB_10) ?_
    refine im_br (r_icmp_ge (tgt := 231) dX10_runsOn_58 rfl (by decide)) (fun c10 => ?_) (fun c10 => ?_)
    · refine im_st (r_fgt (L1 := [none, none, none, none, none, none, none, none, none, none, none, none]) [0, 1, 4, 5, 6, 7, 8] rfl) ?_
      exact im_ret id
    · refine im_st (r_aload_n (i := 0) dX10_runsOn_61 rfl rfl rfl) ?_
      refine im_st (s_getI (tag := 10) (j := 17) dX10_runsOn_62 rfl fl_X10_148 rfl (Nat.le_of_ble_eq_true rfl) rfl) ?_
      refine im_st (r_bipush (v := 10) dX10_runsOn_65 rfl kB_10) ?_
      refine im_br (r_icmp_ne (tgt := 231) dX10_runsOn_67 rfl (by decide)) (fun c11 => ?_) (fun c11 => ?_)
      · refine im_st (r_bipush (v := 10) dX10_runsOn_70 rfl kB_10) ?_
        refine im_st (r_iload (i := 8) dX10_runsOn_72 rfl rfl) ?_
        refine im_st (r_imul dX10_runsOn_74 rfl) ?_
        refine im_st (r_iload (i := 7) dX10_runsOn_75 rfl rfl) ?_
        refine im_st (r_iadd dX10_runsOn_77 rfl) ?_
        refine im_app (Gm := fun (v12 : Int32) => Go M_X10_runsOn Q 0 0 78 [some (.ref 75), some (.int a1), none, none, some (.int a4), some (.int v2), some (.int s9.1), some (.int s9.2.1), some (.int s9.2.2.1), none, none, none] [.int v12] (mk s9.2.2.2 τ)) (fun v12 => ?_)
        refine im_st (r_istore (i := 9) (L1 := [some (.ref 75), some (.int a1), none, none, some (.int a4), some (.int v2), some (.int s9.1), some (.int s9.2.1), some (.int s9.2.2.1), some (.int v12), none, none]) dX10_runsOn_78 rfl (by decide) rfl) ?_
        refine im_st (r_aload_n (i := 0) dX10_runsOn_80 rfl rfl rfl) ?_
        refine im_st (r_iload_n (i := 1) dX10_runsOn_81 rfl rfl rfl) ?_
        refine im_st (r_iload (i := 9) dX10_runsOn_82 rfl rfl) ?_
        refine im_bind (fun y13 hy13 => ?_)
        refine im_st (r_callV (as := [.int a1, .int v12]) (r := some (.int y13)) (kc1 := 0) (ks1 := 0) (st := []) (st1 := [.int y13]) (e_X10_pegOn a1 v12 s9.2.2.2 τ y13 hy13) mv_X10_pegOn lk_X10_139 ⟨by decide, by decide⟩ rfl (Nat.le_of_ble_eq_true rfl) (by decide) ⟨_, rfl, rfl⟩ ⟨by decide, by decide⟩ (Nat.le_of_ble_eq_true rfl) dX10_runsOn_84 rfl rfl rfl rfl rfl) ?_
        refine im_st (r_istore (i := 10) (L1 := [some (.ref 75), some (.int a1), none, none, some (.int a4), some (.int v2), some (.int s9.1), some (.int s9.2.1), some (.int s9.2.2.1), some (.int v12), some (.int y13), none]) dX10_runsOn_87 rfl (by decide) rfl) ?_
        refine im_st (r_aload_n (i := 0) dX10_runsOn_89 rfl rfl rfl) ?_
        refine im_st (s_getR (b := 81) (tag := 10) (j := 20) dX10_runsOn_90 rfl fl_X10_25 rfl (Nat.le_of_ble_eq_true rfl) rfl rfl) ?_
        refine im_st (r_iload (i := 8) dX10_runsOn_93 rfl rfl) ?_
        refine im_st (r_iload (i := 7) dX10_runsOn_95 rfl rfl) ?_
        refine im_grd (fun g14 => ?_)
        refine im_st (s_iastore dX10_runsOn_97 rfl rfl (Nat.le_of_ble_eq_true rfl) (inR_in g14)) ?_
        refine im_st (r_aload_n (i := 0) dX10_runsOn_98 rfl rfl rfl) ?_
        refine im_st (r_iload_n (i := 1) dX10_runsOn_99 rfl rfl rfl) ?_
        refine im_st (r_iload (i := 9) dX10_runsOn_100 rfl rfl) ?_
        refine im_app (Gm := fun (σ15 : Sg) => Go M_X10_runsOn Q 0 0 102 [some (.ref 75), some (.int a1), none, none, some (.int a4), some (.int v2), some (.int s9.1), some (.int s9.2.1), some (.int s9.2.2.1), some (.int v12), some (.int y13), none] [.int v12, .int a1, .ref 75] (mk σ15 τ)) (fun σ15 => ?_)
        refine im_bind (fun y16 hy16 => ?_)
        refine im_st (r_callV (as := [.int a1, .int v12]) (r := some (.int y16)) (kc1 := 0) (ks1 := 0) (st := []) (st1 := [.int y16]) (e_X10_slugOn a1 v12 σ15 τ y16 hy16) mv_X10_slugOn lk_X10_142 ⟨by decide, by decide⟩ rfl (Nat.le_of_ble_eq_true rfl) (by decide) ⟨_, rfl, rfl⟩ ⟨by decide, by decide⟩ (Nat.le_of_ble_eq_true rfl) dX10_runsOn_102 rfl rfl rfl rfl rfl) ?_
        refine im_st (r_bipush (v := -4) dX10_runsOn_105 rfl kB_m4) ?_
        refine im_seqT (Gm := fun (j17 : (Int32 × Int32 × Sg)) => Go M_X10_runsOn Q 0 0 225 [some (.ref 75), some (.int a1), none, none, some (.int a4), some (.int v2), some (.int j17.1), some (.int j17.2.1), some (.int s9.2.2.1), none, none, none] [] (mk j17.2.2 τ)) ?_ (fun j17 => ?_)
        · refine im_brS (r_icmp_eq (tgt := 124) dX10_runsOn_107 rfl (by decide)) (fun c18 => ?_) (fun c18 => ?_)
          · refine im_st (r_iload (i := 10) dX10_runsOn_124 rfl rfl) ?_
            refine im_st (r_bipush (v := -4) dX10_runsOn_126 rfl kB_m4) ?_
            refine im_brS (r_icmp_eq (tgt := 225) dX10_runsOn_128 rfl (by decide)) (fun c19 => ?_) (fun c19 => ?_)
            · refine im_st (r_fgt (L1 := [some (.ref 75), some (.int a1), none, none, some (.int a4), some (.int v2), some (.int s9.1), some (.int s9.2.1), some (.int s9.2.2.1), none, none, none]) [9, 10] rfl) ?_
              exact im_ret id
            · refine im_st (r_aload_n (i := 0) dX10_runsOn_131 rfl rfl rfl) ?_
              refine im_st (r_dup dX10_runsOn_132 rfl rfl) ?_
              refine im_st (s_getI (tag := 10) (j := 18) dX10_runsOn_133 rfl fl_X10_151 rfl (Nat.le_of_ble_eq_true rfl) rfl) ?_
              refine im_st (r_iconst (v := 1) dX10_runsOn_136 rfl kI_1) ?_
              refine im_st (r_iadd dX10_runsOn_137 rfl) ?_
              refine im_st (s_putI (tag := 10) (j := 18) dX10_runsOn_138 rfl fl_X10_151 rfl (Nat.le_of_ble_eq_true rfl) rfl fw_10_18) ?_
              refine im_st (r_iload (i := 6) dX10_runsOn_141 rfl rfl) ?_
              refine im_st (r_iload (i := 5) dX10_runsOn_143 rfl rfl) ?_
              refine im_st (r_callS (as := [.int v2]) (r := some (.int (f_X10_losesOf v2))) (kc1 := 0) (ks1 := 0) (st := [.int s9.1]) (st1 := [.int (f_X10_losesOf v2), .int s9.1]) (e_X10_losesOf v2 (up2 σ15 75 18 ((σ15 75 18) + (1 : Int32))) τ) ms_X10_losesOf lk_X10_158 ⟨by decide, by decide⟩ ⟨by decide, by decide⟩ (Nat.le_of_ble_eq_true rfl) dX10_runsOn_145 rfl rfl rfl rfl rfl) ?_
              refine im_st (r_isub dX10_runsOn_148 rfl) ?_
              refine im_appS (Gm := fun (v20 : Int32) => Go M_X10_runsOn Q 0 0 149 [some (.ref 75), some (.int a1), none, none, some (.int a4), some (.int v2), some (.int s9.1), some (.int s9.2.1), some (.int s9.2.2.1), some (.int v12), some (.int y13), none] [.int v20] (mk (up2 σ15 75 18 ((σ15 75 18) + (1 : Int32))) τ)) (fun v20 => ?_)
              refine im_st (r_istore (i := 6) (L1 := [some (.ref 75), some (.int a1), none, none, some (.int a4), some (.int v2), some (.int v20), some (.int s9.2.1), some (.int s9.2.2.1), some (.int v12), some (.int y13), none]) dX10_runsOn_149 rfl (by decide) rfl) ?_
              refine im_st (r_iload (i := 6) dX10_runsOn_151 rfl rfl) ?_
              refine im_brS (r_if_gt (tgt := 171) dX10_runsOn_153 rfl (by decide)) (fun c21 => ?_) (fun c21 => ?_)
              · refine im_st (r_iload (i := 7) dX10_runsOn_171 rfl rfl) ?_
                refine im_st (r_iload (i := 4) dX10_runsOn_173 rfl rfl) ?_
                refine im_st (r_iload (i := 8) dX10_runsOn_175 rfl rfl) ?_
                refine im_st (r_ishr dX10_runsOn_177 rfl) ?_
                refine im_st (r_iconst (v := 1) dX10_runsOn_178 rfl kI_1) ?_
                refine im_st (r_iand dX10_runsOn_179 rfl) ?_
                refine im_st (r_iconst (v := 1) dX10_runsOn_180 rfl kI_1) ?_
                refine im_seqS (Gm := fun (j22 : Int32) => Go M_X10_runsOn Q 0 0 189 [some (.ref 75), some (.int a1), none, none, some (.int a4), some (.int v2), some (.int v20), none, some (.int s9.2.2.1), none, none, none] [.int j22, .int s9.2.1] (mk (up2 σ15 75 18 ((σ15 75 18) + (1 : Int32))) τ)) ?_ (fun j22 => ?_)
                · refine im_brS (r_icmp_ne (tgt := 188) dX10_runsOn_181 rfl (by decide)) (fun c23 => ?_) (fun c23 => ?_)
                  · refine im_st (r_iconst (v := -1) dX10_runsOn_184 rfl kI_m1) ?_
                    refine im_st (r_goto (pc1 := 189) dX10_runsOn_185 (by decide)) ?_
                    refine im_st (r_fgt (L1 := [some (.ref 75), some (.int a1), none, none, some (.int a4), some (.int v2), some (.int v20), none, some (.int s9.2.2.1), none, none, none]) [7, 9, 10] rfl) ?_
                    exact im_ret id
                  · refine im_st (r_iconst (v := 1) dX10_runsOn_188 rfl kI_1) ?_
                    refine im_st (r_fgt (L1 := [some (.ref 75), some (.int a1), none, none, some (.int a4), some (.int v2), some (.int v20), none, some (.int s9.2.2.1), none, none, none]) [7, 9, 10] rfl) ?_
                    exact im_ret id
                refine im_st (r_iload (i := 5) dX10_runsOn_189 rfl rfl) ?_
                refine im_st (r_iload (i := 8) dX10_runsOn_191 rfl rfl) ?_
                refine im_st (r_callS (as := [.int v2, .int s9.2.2.1]) (r := some (.int (f_X10_turnOf v2 s9.2.2.1))) (kc1 := 0) (ks1 := 0) (st := [.int j22, .int s9.2.1]) (st1 := [.int (f_X10_turnOf v2 s9.2.2.1), .int j22, .int s9.2.1]) (e_X10_turnOf v2 s9.2.2.1 (up2 σ15 75 18 ((σ15 75 18) + (1 : Int32))) τ) ms_X10_turnOf lk_X10_161 ⟨by decide, by decide⟩ ⟨by decide, by decide⟩ (Nat.le_of_ble_eq_true rfl) dX10_runsOn_193 rfl rfl rfl rfl rfl) ?_
                refine im_st (r_imul dX10_runsOn_196 rfl) ?_
                refine im_st (r_iadd dX10_runsOn_197 rfl) ?_
                refine im_appS (Gm := fun (v24 : Int32) => Go M_X10_runsOn Q 0 0 198 [some (.ref 75), some (.int a1), none, none, some (.int a4), some (.int v2), some (.int v20), none, some (.int s9.2.2.1), none, none, none] [.int v24] (mk (up2 σ15 75 18 ((σ15 75 18) + (1 : Int32))) τ)) (fun v24 => ?_)
                refine im_st (r_istore (i := 11) (L1 := [some (.ref 75), some (.int a1), none, none, some (.int a4), some (.int v2), some (.int v20), none, some (.int s9.2.2.1), none, none, some (.int v24)]) dX10_runsOn_198 rfl (by decide) rfl) ?_
                refine im_st (r_iload (i := 11) dX10_runsOn_200 rfl rfl) ?_
                refine im_seqS (Gm := fun (j25 : Int32) => Go M_X10_runsOn Q 0 0 223 [some (.ref 75), some (.int a1), none, none, some (.int a4), some (.int v2), some (.int v20), none, some (.int s9.2.2.1), none, none, none] [.int j25] (mk (up2 σ15 75 18 ((σ15 75 18) + (1 : Int32))) τ)) ?_ (fun j25 => ?_)
                · refine im_brS (r_if_ge (tgt := 209) dX10_runsOn_202 rfl (by decide)) (fun c26 => ?_) (fun c26 => ?_)
                  · refine im_st (r_iload (i := 11) dX10_runsOn_209 rfl rfl) ?_
                    refine im_st (r_bipush (v := 8) dX10_runsOn_211 rfl kB_8) ?_
                    refine im_brS (r_icmp_lt (tgt := 221) dX10_runsOn_213 rfl (by decide)) (fun c27 => ?_) (fun c27 => ?_)
                    · refine im_st (r_iload (i := 11) dX10_runsOn_221 rfl rfl) ?_
                      refine im_st (r_fgt (L1 := [some (.ref 75), some (.int a1), none, none, some (.int a4), some (.int v2), some (.int v20), none, some (.int s9.2.2.1), none, none, none]) [11] rfl) ?_
                      exact im_ret id
                    · refine im_st (r_bipush (v := 7) dX10_runsOn_216 rfl kB_7) ?_
                      refine im_st (r_goto (pc1 := 223) dX10_runsOn_218 (by decide)) ?_
                      refine im_st (r_fgt (L1 := [some (.ref 75), some (.int a1), none, none, some (.int a4), some (.int v2), some (.int v20), none, some (.int s9.2.2.1), none, none, none]) [11] rfl) ?_
                      exact im_ret id
                  · refine im_st (r_iconst (v := 0) dX10_runsOn_205 rfl kI_0) ?_
                    refine im_st (r_goto (pc1 := 223) dX10_runsOn_206 (by decide)) ?_
                    refine im_st (r_fgt (L1 := [some (.ref 75), some (.int a1), none, none, some (.int a4), some (.int v2), some (.int v20), none, some (.int s9.2.2.1), none, none, none]) [11] rfl) ?_
                    exact im_ret id
                refine im_st (r_istore (i := 7) (L1 := [some (.ref 75), some (.int a1), none, none, some (.int a4), some (.int v2), some (.int v20), some (.int j25), some (.int s9.2.2.1), none, none, none]) dX10_runsOn_223 rfl (by decide) rfl) ?_
                exact im_ret id
              · refine im_st (r_aload_n (i := 0) dX10_runsOn_156 rfl rfl rfl) ?_
                refine im_st (r_iload (i := 10) dX10_runsOn_157 rfl rfl) ?_
                refine im_appS (Gm := fun (σ28 : Sg) => Go M_X10_runsOn Q 0 0 159 [some (.ref 75), some (.int a1), none, none, some (.int a4), some (.int v2), some (.int v20), some (.int s9.2.1), some (.int s9.2.2.1), some (.int v12), some (.int y13), none] [.int y13, .ref 75] (mk σ28 τ)) (fun σ28 => ?_)
                refine im_st (s_putI (tag := 10) (j := 16) dX10_runsOn_159 rfl fl_X10_145 rfl (Nat.le_of_ble_eq_true rfl) rfl fw_10_16) ?_
                refine im_st (r_aload_n (i := 0) dX10_runsOn_162 rfl rfl rfl) ?_
                refine im_st (r_iload (i := 8) dX10_runsOn_163 rfl rfl) ?_
                refine im_appS (Gm := fun (σ29 : Sg) => Go M_X10_runsOn Q 0 0 165 [some (.ref 75), some (.int a1), none, none, some (.int a4), some (.int v2), some (.int v20), some (.int s9.2.1), some (.int s9.2.2.1), some (.int v12), some (.int y13), none] [.int s9.2.2.1, .ref 75] (mk σ29 τ)) (fun σ29 => ?_)
                refine im_st (s_putI (tag := 10) (j := 17) dX10_runsOn_165 rfl fl_X10_148 rfl (Nat.le_of_ble_eq_true rfl) rfl fw_10_17) ?_
                refine im_st (r_goto (pc1 := 225) dX10_runsOn_168 (by decide)) ?_
                refine im_st (r_fgt (L1 := [some (.ref 75), some (.int a1), none, none, some (.int a4), some (.int v2), some (.int v20), some (.int s9.2.1), some (.int s9.2.2.1), none, none, none]) [9, 10] rfl) ?_
                exact im_ret id
          · refine im_st (r_aload_n (i := 0) dX10_runsOn_110 rfl rfl rfl) ?_
            refine im_st (r_iconst (v := 1) dX10_runsOn_111 rfl kI_1) ?_
            refine im_st (s_putZ (tag := 10) (j := 19) dX10_runsOn_112 rfl fl_X10_154 rfl (Nat.le_of_ble_eq_true rfl) rfl fw_10_19 rfl) ?_
            refine im_st (r_aload_n (i := 0) dX10_runsOn_115 rfl rfl rfl) ?_
            refine im_st (r_iload (i := 8) dX10_runsOn_116 rfl rfl) ?_
            refine im_appS (Gm := fun (σ30 : Sg) => Go M_X10_runsOn Q 0 0 118 [some (.ref 75), some (.int a1), none, none, some (.int a4), some (.int v2), some (.int s9.1), some (.int s9.2.1), some (.int s9.2.2.1), some (.int v12), some (.int y13), none] [.int s9.2.2.1, .ref 75] (mk σ30 τ)) (fun σ30 => ?_)
            refine im_st (s_putI (tag := 10) (j := 17) dX10_runsOn_118 rfl fl_X10_148 rfl (Nat.le_of_ble_eq_true rfl) rfl fw_10_17) ?_
            refine im_st (r_goto (pc1 := 225) dX10_runsOn_121 (by decide)) ?_
            refine im_st (r_fgt (L1 := [some (.ref 75), some (.int a1), none, none, some (.int a4), some (.int v2), some (.int s9.1), some (.int s9.2.1), some (.int s9.2.2.1), none, none, none]) [9, 10] rfl) ?_
            exact im_ret id
        refine im_st (r_iinc (i := 8) (x := s9.2.2.1) (v := (s9.2.2.1 + 1)) (L1 := [some (.ref 75), some (.int a1), none, none, some (.int a4), some (.int v2), some (.int j17.1), some (.int j17.2.1), some (.int (s9.2.2.1 + 1)), none, none, none]) dX10_runsOn_225 rfl rfl rfl (by decide) rfl) ?_
        refine im_st (r_goto (pc1 := 54) dX10_runsOn_228 (by decide)) ?_
        exact im_ret id
      · refine im_st (r_fgt (L1 := [none, none, none, none, none, none, none, none, none, none, none, none]) [0, 1, 4, 5, 6, 7, 8] rfl) ?_
        exact im_ret id
  exact im_ret (fun q => g_vret rfl rfl rfl dX10_runsOn_231 q)
theorem e_X10_runsOn (a1 : Int32) (a2 : Int32) (a3 : Int32) (a4 : Int32) (σ : Sg) (τ : Sl) (y : Sg) (hy : f_X10_runsOn a1 a2 a3 a4 σ = some y) : EvD M_X10_runsOn [.ref 75, .int a1, .int a2, .int a3, .int a4] (mk σ τ) (none) (mk y τ) := EvM.of (by decide +kernel) (Nat.le_of_ble_eq_true rfl) (i_X10_runsOn a1 a2 a3 a4 σ τ _ y hy ⟨rfl, rfl⟩)
def M_X10_winnerOn : Ms := (yX10_winnerOn, cX10_winnerOn, 4, some .int, 2, 54, 0, 0)
theorem mv_X10_winnerOn : MV M_X10_winnerOn 3 := ⟨⟨q1169, q12, by decide, by decide, by decide +kernel⟩, q1168, p37⟩
def f_X10_winnerOn (a1 : Int32) (a2 : Int32) (a3 : Int32) (σ : Sg) : Option (Int32 × Sg) :=
  (f_X10_runsOn a1 a2 a3 (0 : Int32) σ).bind fun (y1 : Sg) =>
  if (y1 75 16) = (-4 : Int32) then
    some ((-4 : Int32), y1)
  else
    if inR ((a1 + (7 : Int32)) + (y1 75 16)) 205 then
    some ((y1 76 ((a1 + (7 : Int32)) + (y1 75 16)).toNatClampNeg), y1)
    else none
set_option maxHeartbeats 4000000 in
set_option maxRecDepth 20000 in
theorem i_X10_winnerOn (a1 : Int32) (a2 : Int32) (a3 : Int32) (σ : Sg) (τ : Sl) (Q : Option Value → Hp → Prop) : Imp (f_X10_winnerOn a1 a2 a3 σ) (fun (y : (Int32 × Sg)) => Q (some (.int y.1)) (mk y.2 τ)) (Go M_X10_winnerOn Q 0 0 0 [some (.ref 75), some (.int a1), some (.int a2), some (.int a3)] [] (mk σ τ)) := by
  unfold f_X10_winnerOn
  refine im_st (r_aload_n (i := 0) dX10_winnerOn_0 rfl rfl rfl) ?_
  refine im_st (r_iload_n (i := 1) dX10_winnerOn_1 rfl rfl rfl) ?_
  refine im_st (r_iload_n (i := 2) dX10_winnerOn_2 rfl rfl rfl) ?_
  refine im_st (r_iload_n (i := 3) dX10_winnerOn_3 rfl rfl rfl) ?_
  refine im_st (r_iconst (v := 0) dX10_winnerOn_4 rfl kI_0) ?_
  refine im_bind (fun y1 hy1 => ?_)
  refine im_st (r_callV (as := [.int a1, .int a2, .int a3, .int (0 : Int32)]) (r := none) (kc1 := 0) (ks1 := 0) (st := []) (st1 := []) (e_X10_runsOn a1 a2 a3 (0 : Int32) σ τ y1 hy1) mv_X10_runsOn lk_X10_164 ⟨by decide, by decide⟩ rfl (Nat.le_of_ble_eq_true rfl) (by decide) ⟨_, rfl, rfl⟩ ⟨by decide, by decide⟩ (Nat.le_of_ble_eq_true rfl) dX10_winnerOn_5 rfl rfl rfl rfl rfl) ?_
  refine im_st (r_aload_n (i := 0) dX10_winnerOn_8 rfl rfl rfl) ?_
  refine im_st (s_getI (tag := 10) (j := 16) dX10_winnerOn_9 rfl fl_X10_145 rfl (Nat.le_of_ble_eq_true rfl) rfl) ?_
  refine im_st (r_bipush (v := -4) dX10_winnerOn_12 rfl kB_m4) ?_
  refine im_br (r_icmp_ne (tgt := 22) dX10_winnerOn_14 rfl (by decide)) (fun c2 => ?_) (fun c2 => ?_)
  · refine im_st (r_bipush (v := -4) dX10_winnerOn_17 rfl kB_m4) ?_
    refine im_st (r_goto (pc1 := 36) dX10_winnerOn_19 (by decide)) ?_
    exact im_ret (fun q => g_iret rfl rfl rfl dX10_winnerOn_36 q)
  · refine im_st (r_aload_n (i := 0) dX10_winnerOn_22 rfl rfl rfl) ?_
    refine im_st (s_getR (b := 76) (tag := 10) (j := 0) dX10_winnerOn_23 rfl fl_X10_7 rfl (Nat.le_of_ble_eq_true rfl) rfl rfl) ?_
    refine im_st (r_iload_n (i := 1) dX10_winnerOn_26 rfl rfl rfl) ?_
    refine im_st (r_bipush (v := 7) dX10_winnerOn_27 rfl kB_7) ?_
    refine im_st (r_iadd dX10_winnerOn_29 rfl) ?_
    refine im_st (r_aload_n (i := 0) dX10_winnerOn_30 rfl rfl rfl) ?_
    refine im_st (s_getI (tag := 10) (j := 16) dX10_winnerOn_31 rfl fl_X10_145 rfl (Nat.le_of_ble_eq_true rfl) rfl) ?_
    refine im_st (r_iadd dX10_winnerOn_34 rfl) ?_
    refine im_grd (fun g3 => ?_)
    refine im_st (s_iaload dX10_winnerOn_35 rfl rfl (Nat.le_of_ble_eq_true rfl) (inR_in g3)) ?_
    exact im_ret (fun q => g_iret rfl rfl rfl dX10_winnerOn_36 q)
theorem e_X10_winnerOn (a1 : Int32) (a2 : Int32) (a3 : Int32) (σ : Sg) (τ : Sl) (y : (Int32 × Sg)) (hy : f_X10_winnerOn a1 a2 a3 σ = some y) : EvD M_X10_winnerOn [.ref 75, .int a1, .int a2, .int a3] (mk σ τ) (some (.int y.1)) (mk y.2 τ) := EvM.of (by decide +kernel) (Nat.le_of_ble_eq_true rfl) (i_X10_winnerOn a1 a2 a3 σ τ _ y hy ⟨rfl, rfl⟩)
def M_X10_winsOn : Ms := (yX10_winsOn, cX10_winsOn, 6, some .int, 3, 77, 0, 0)
theorem mv_X10_winsOn : MV M_X10_winsOn 2 := ⟨⟨q1165, q12, by decide, by decide, by decide +kernel⟩, q1164, p36⟩
def b_X10_winsOn_5 (a1 : Int32) (a2 : Int32) : (Int32 × Int32 × Sg) → Option ((Int32 × Int32 × Sg) ⊕ (Int32 × Int32 × Sg)) := fun (s1 : (Int32 × Int32 × Sg)) =>
  if inR (a1 + (40 : Int32)) 205 then
  if (s1.2.2 76 (a1 + (40 : Int32)).toNatClampNeg) ≤ s1.2.1 then
    some (.inr (s1.1, s1.2.1, s1.2.2))
  else
    if inR ((a1 + (26 : Int32)) + s1.2.1) 205 then
    if inR ((a1 + (32 : Int32)) + s1.2.1) 205 then
    (f_X10_winnerOn a1 (s1.2.2 76 ((a1 + (26 : Int32)) + s1.2.1).toNatClampNeg) (s1.2.2 76 ((a1 + (32 : Int32)) + s1.2.1).toNatClampNeg) s1.2.2).bind fun (y6 : (Int32 × Sg)) =>
    app (if y6.1 = (-4 : Int32) then
      (0 : Int32)
    else
      if a2 = (-4 : Int32) then
        ((1 : Int32) <<< (s1.2.1 &&& 31))
      else
        if y6.1 = a2 then
          ((1 : Int32) <<< (s1.2.1 &&& 31))
        else
          (0 : Int32)) fun (j7 : Int32) =>
    some (.inl ((s1.1 ||| j7), (s1.2.1 + 1), y6.2))
    else none
    else none
  else none
def f_X10_winsOn (a1 : Int32) (a2 : Int32) (σ : Sg) : Option (Int32 × Sg) :=
  (wh (b_X10_winsOn_5 a1 a2) 4096 ((0 : Int32), (0 : Int32), σ)).bind fun (e11 : (Int32 × Int32 × Sg)) =>
  some (e11.1, e11.2.2)
set_option maxHeartbeats 4000000 in
set_option maxRecDepth 20000 in
theorem i_X10_winsOn (a1 : Int32) (a2 : Int32) (σ : Sg) (τ : Sl) (Q : Option Value → Hp → Prop) : Imp (f_X10_winsOn a1 a2 σ) (fun (y : (Int32 × Sg)) => Q (some (.int y.1)) (mk y.2 τ)) (Go M_X10_winsOn Q 0 0 0 [some (.ref 75), some (.int a1), some (.int a2), none, none, none] [] (mk σ τ)) := by
  unfold f_X10_winsOn
  refine im_st (r_iconst (v := 0) dX10_winsOn_0 rfl kI_0) ?_
  refine im_st (r_istore_n (i := 3) (L1 := [some (.ref 75), some (.int a1), some (.int a2), some (.int (0 : Int32)), none, none]) dX10_winsOn_1 rfl rfl (by decide) rfl) ?_
  refine im_st (r_iconst (v := 0) dX10_winsOn_2 rfl kI_0) ?_
  refine im_st (r_istore (i := 4) (L1 := [some (.ref 75), some (.int a1), some (.int a2), some (.int (0 : Int32)), some (.int (0 : Int32)), none]) dX10_winsOn_3 rfl (by decide) rfl) ?_
  refine im_seq (Gm := fun (e11 : (Int32 × Int32 × Sg)) => Go M_X10_winsOn Q 0 0 86 [none, none, none, some (.int e11.1), none, none] [] (mk e11.2.2 τ)) ?_ (fun e11 => ?_)
  · refine im_wh (G := fun (s1 : (Int32 × Int32 × Sg)) => Go M_X10_winsOn Q 0 0 5 [some (.ref 75), some (.int a1), some (.int a2), some (.int s1.1), some (.int s1.2.1), none] [] (mk s1.2.2 τ)) (fun s1 => ?_) _ _
    unfold b_X10_winsOn_5
    refine im_st (r_iload (i := 4) dX10_winsOn_5 rfl rfl) ?_
    refine im_st (r_aload_n (i := 0) dX10_winsOn_7 rfl rfl rfl) ?_
    refine im_st (s_getR (b := 76) (tag := 10) (j := 0) dX10_winsOn_8 rfl fl_X10_7 rfl (Nat.le_of_ble_eq_true rfl) rfl rfl) ?_
    refine im_st (r_iload_n (i := 1) dX10_winsOn_11 rfl rfl rfl) ?_
    refine im_st (r_bipush (v := 40) dX10_winsOn_12 rfl kB_40) ?_
    refine im_st (r_iadd dX10_winsOn_14 rfl) ?_
    refine im_grd (fun g2 => ?_)
    refine im_st (s_iaload dX10_winsOn_15 rfl rfl (Nat.le_of_ble_eq_true rfl) (inR_in g2)) ?_
    refine im_br (r_icmp_ge (tgt := 86) dX10_winsOn_16 rfl (by decide)) (fun c3 => ?_) (fun c3 => ?_)
    · refine im_st (r_fgt (L1 := [none, none, none, some (.int s1.1), none, none]) [0, 1, 2, 4] rfl) ?_
      exact im_ret id
    · refine im_st (r_aload_n (i := 0) dX10_winsOn_19 rfl rfl rfl) ?_
      refine im_st (r_iload_n (i := 1) dX10_winsOn_20 rfl rfl rfl) ?_
      refine im_st (r_aload_n (i := 0) dX10_winsOn_21 rfl rfl rfl) ?_
      refine im_st (s_getR (b := 76) (tag := 10) (j := 0) dX10_winsOn_22 rfl fl_X10_7 rfl (Nat.le_of_ble_eq_true rfl) rfl rfl) ?_
      refine im_st (r_iload_n (i := 1) dX10_winsOn_25 rfl rfl rfl) ?_
      refine im_st (r_bipush (v := 26) dX10_winsOn_26 rfl kB_26) ?_
      refine im_st (r_iadd dX10_winsOn_28 rfl) ?_
      refine im_st (r_iload (i := 4) dX10_winsOn_29 rfl rfl) ?_
      refine im_st (r_iadd dX10_winsOn_31 rfl) ?_
      refine im_grd (fun g4 => ?_)
      refine im_st (s_iaload dX10_winsOn_32 rfl rfl (Nat.le_of_ble_eq_true rfl) (inR_in g4)) ?_
      refine im_st (r_aload_n (i := 0) dX10_winsOn_33 rfl rfl rfl) ?_
      refine im_st (s_getR (b := 76) (tag := 10) (j := 0) dX10_winsOn_34 rfl fl_X10_7 rfl (Nat.le_of_ble_eq_true rfl) rfl rfl) ?_
      refine im_st (r_iload_n (i := 1) dX10_winsOn_37 rfl rfl rfl) ?_
      refine im_st (r_bipush (v := 32) dX10_winsOn_38 rfl kB_32) ?_
      refine im_st (r_iadd dX10_winsOn_40 rfl) ?_
      refine im_st (r_iload (i := 4) dX10_winsOn_41 rfl rfl) ?_
      refine im_st (r_iadd dX10_winsOn_43 rfl) ?_
      refine im_grd (fun g5 => ?_)
      refine im_st (s_iaload dX10_winsOn_44 rfl rfl (Nat.le_of_ble_eq_true rfl) (inR_in g5)) ?_
      refine im_bind (fun y6 hy6 => ?_)
      refine im_st (r_callV (as := [.int a1, .int (s1.2.2 76 ((a1 + (26 : Int32)) + s1.2.1).toNatClampNeg), .int (s1.2.2 76 ((a1 + (32 : Int32)) + s1.2.1).toNatClampNeg)]) (r := some (.int y6.1)) (kc1 := 0) (ks1 := 0) (st := []) (st1 := [.int y6.1]) (e_X10_winnerOn a1 (s1.2.2 76 ((a1 + (26 : Int32)) + s1.2.1).toNatClampNeg) (s1.2.2 76 ((a1 + (32 : Int32)) + s1.2.1).toNatClampNeg) s1.2.2 τ y6 hy6) mv_X10_winnerOn lk_X10_168 ⟨by decide, by decide⟩ rfl (Nat.le_of_ble_eq_true rfl) (by decide) ⟨_, rfl, rfl⟩ ⟨by decide, by decide⟩ (Nat.le_of_ble_eq_true rfl) dX10_winsOn_45 rfl rfl rfl rfl rfl) ?_
      refine im_st (r_istore (i := 5) (L1 := [some (.ref 75), some (.int a1), some (.int a2), some (.int s1.1), some (.int s1.2.1), some (.int y6.1)]) dX10_winsOn_48 rfl (by decide) rfl) ?_
      refine im_st (r_iload_n (i := 3) dX10_winsOn_50 rfl rfl rfl) ?_
      refine im_st (r_iload (i := 5) dX10_winsOn_51 rfl rfl) ?_
      refine im_st (r_bipush (v := -4) dX10_winsOn_53 rfl kB_m4) ?_
      refine im_seqT (Gm := fun (j7 : Int32) => Go M_X10_winsOn Q 0 0 78 [some (.ref 75), some (.int a1), some (.int a2), none, some (.int s1.2.1), none] [.int j7, .int s1.1] (mk y6.2 τ)) ?_ (fun j7 => ?_)
      · refine im_brS (r_icmp_eq (tgt := 77) dX10_winsOn_55 rfl (by decide)) (fun c8 => ?_) (fun c8 => ?_)
        · refine im_st (r_iconst (v := 0) dX10_winsOn_77 rfl kI_0) ?_
          refine im_st (r_fgt (L1 := [some (.ref 75), some (.int a1), some (.int a2), none, some (.int s1.2.1), none]) [3, 5] rfl) ?_
          exact im_ret id
        · refine im_st (r_iload_n (i := 2) dX10_winsOn_58 rfl rfl rfl) ?_
          refine im_st (r_bipush (v := -4) dX10_winsOn_59 rfl kB_m4) ?_
          refine im_brS (r_icmp_eq (tgt := 70) dX10_winsOn_61 rfl (by decide)) (fun c9 => ?_) (fun c9 => ?_)
          · refine im_st (r_iconst (v := 1) dX10_winsOn_70 rfl kI_1) ?_
            refine im_st (r_iload (i := 4) dX10_winsOn_71 rfl rfl) ?_
            refine im_st (r_ishl dX10_winsOn_73 rfl) ?_
            refine im_st (r_goto (pc1 := 78) dX10_winsOn_74 (by decide)) ?_
            refine im_st (r_fgt (L1 := [some (.ref 75), some (.int a1), some (.int a2), none, some (.int s1.2.1), none]) [3, 5] rfl) ?_
            exact im_ret id
          · refine im_st (r_iload (i := 5) dX10_winsOn_64 rfl rfl) ?_
            refine im_st (r_iload_n (i := 2) dX10_winsOn_66 rfl rfl rfl) ?_
            refine im_brS (r_icmp_ne (tgt := 77) dX10_winsOn_67 rfl (by decide)) (fun c10 => ?_) (fun c10 => ?_)
            · refine im_st (r_iconst (v := 1) dX10_winsOn_70 rfl kI_1) ?_
              refine im_st (r_iload (i := 4) dX10_winsOn_71 rfl rfl) ?_
              refine im_st (r_ishl dX10_winsOn_73 rfl) ?_
              refine im_st (r_goto (pc1 := 78) dX10_winsOn_74 (by decide)) ?_
              refine im_st (r_fgt (L1 := [some (.ref 75), some (.int a1), some (.int a2), none, some (.int s1.2.1), none]) [3, 5] rfl) ?_
              exact im_ret id
            · refine im_st (r_iconst (v := 0) dX10_winsOn_77 rfl kI_0) ?_
              refine im_st (r_fgt (L1 := [some (.ref 75), some (.int a1), some (.int a2), none, some (.int s1.2.1), none]) [3, 5] rfl) ?_
              exact im_ret id
      refine im_st (r_ior dX10_winsOn_78 rfl) ?_
      refine im_st (r_istore_n (i := 3) (L1 := [some (.ref 75), some (.int a1), some (.int a2), some (.int (s1.1 ||| j7)), some (.int s1.2.1), none]) dX10_winsOn_79 rfl rfl (by decide) rfl) ?_
      refine im_st (r_iinc (i := 4) (x := s1.2.1) (v := (s1.2.1 + 1)) (L1 := [some (.ref 75), some (.int a1), some (.int a2), some (.int (s1.1 ||| j7)), some (.int (s1.2.1 + 1)), none]) dX10_winsOn_80 rfl rfl rfl (by decide) rfl) ?_
      refine im_st (r_goto (pc1 := 5) dX10_winsOn_83 (by decide)) ?_
      exact im_ret id
  refine im_st (r_iload_n (i := 3) dX10_winsOn_86 rfl rfl rfl) ?_
  exact im_ret (fun q => g_iret rfl rfl rfl dX10_winsOn_87 q)
theorem e_X10_winsOn (a1 : Int32) (a2 : Int32) (σ : Sg) (τ : Sl) (y : (Int32 × Sg)) (hy : f_X10_winsOn a1 a2 σ = some y) : EvD M_X10_winsOn [.ref 75, .int a1, .int a2] (mk σ τ) (some (.int y.1)) (mk y.2 τ) := EvM.of (by decide +kernel) (Nat.le_of_ble_eq_true rfl) (i_X10_winsOn a1 a2 σ τ _ y hy ⟨rfl, rfl⟩)
def M_X10_bitsOf : Ms := (yX10_bitsOf, cX10_bitsOf, 3, some .int, 0, 0, 0, 0)
theorem ms_X10_bitsOf : MS M_X10_bitsOf 1 := ⟨⟨q1298, q12, by decide, by decide, by decide +kernel⟩, q1297⟩
def b_X10_bitsOf_4 : (Int32 × Int32) → Option ((Int32 × Int32) ⊕ (Int32 × Int32)) := fun (s1 : (Int32 × Int32)) =>
  if s1.2 ≤ 0 then
    some (.inr (s1.1, s1.2))
  else
    app (s1.1 + (s1.2 &&& (1 : Int32))) fun (v3 : Int32) =>
    app (s1.2 >>> ((1 : Int32) &&& 31)) fun (v4 : Int32) =>
    some (.inl (v3, v4))
def f_X10_bitsOf (a0 : Int32) : Option Int32 :=
  (wh b_X10_bitsOf_4 4096 ((0 : Int32), a0)).bind fun (e5 : (Int32 × Int32)) =>
  some e5.1
set_option maxHeartbeats 4000000 in
set_option maxRecDepth 20000 in
theorem i_X10_bitsOf (a0 : Int32) (σ : Sg) (τ : Sl) (Q : Option Value → Hp → Prop) : Imp (f_X10_bitsOf a0) (fun (y : Int32) => Q (some (.int y)) (mk σ τ)) (Go M_X10_bitsOf Q 0 0 0 [some (.int a0), none, none] [] (mk σ τ)) := by
  unfold f_X10_bitsOf
  refine im_st (r_iconst (v := 0) dX10_bitsOf_0 rfl kI_0) ?_
  refine im_st (r_istore_n (i := 1) (L1 := [some (.int a0), some (.int (0 : Int32)), none]) dX10_bitsOf_1 rfl rfl (by decide) rfl) ?_
  refine im_st (r_iload_n (i := 0) dX10_bitsOf_2 rfl rfl rfl) ?_
  refine im_st (r_istore_n (i := 2) (L1 := [some (.int a0), some (.int (0 : Int32)), some (.int a0)]) dX10_bitsOf_3 rfl rfl (by decide) rfl) ?_
  refine im_st (r_fgt (L1 := [none, some (.int (0 : Int32)), some (.int a0)]) [0] rfl) ?_
  refine im_seq (Gm := fun (e5 : (Int32 × Int32)) => Go M_X10_bitsOf Q 0 0 21 [none, some (.int e5.1), none] [] (mk σ τ)) ?_ (fun e5 => ?_)
  · refine im_wh (G := fun (s1 : (Int32 × Int32)) => Go M_X10_bitsOf Q 0 0 4 [none, some (.int s1.1), some (.int s1.2)] [] (mk σ τ)) (fun s1 => ?_) _ _
    unfold b_X10_bitsOf_4
    refine im_st (r_iload_n (i := 2) dX10_bitsOf_4 rfl rfl rfl) ?_
    refine im_br (r_if_le (tgt := 21) dX10_bitsOf_5 rfl (by decide)) (fun c2 => ?_) (fun c2 => ?_)
    · refine im_st (r_fgt (L1 := [none, some (.int s1.1), none]) [2] rfl) ?_
      exact im_ret id
    · refine im_st (r_iload_n (i := 1) dX10_bitsOf_8 rfl rfl rfl) ?_
      refine im_st (r_iload_n (i := 2) dX10_bitsOf_9 rfl rfl rfl) ?_
      refine im_st (r_iconst (v := 1) dX10_bitsOf_10 rfl kI_1) ?_
      refine im_st (r_iand dX10_bitsOf_11 rfl) ?_
      refine im_st (r_iadd dX10_bitsOf_12 rfl) ?_
      refine im_app (Gm := fun (v3 : Int32) => Go M_X10_bitsOf Q 0 0 13 [none, some (.int s1.1), some (.int s1.2)] [.int v3] (mk σ τ)) (fun v3 => ?_)
      refine im_st (r_istore_n (i := 1) (L1 := [none, some (.int v3), some (.int s1.2)]) dX10_bitsOf_13 rfl rfl (by decide) rfl) ?_
      refine im_st (r_iload_n (i := 2) dX10_bitsOf_14 rfl rfl rfl) ?_
      refine im_st (r_iconst (v := 1) dX10_bitsOf_15 rfl kI_1) ?_
      refine im_st (r_ishr dX10_bitsOf_16 rfl) ?_
      refine im_app (Gm := fun (v4 : Int32) => Go M_X10_bitsOf Q 0 0 17 [none, some (.int v3), some (.int s1.2)] [.int v4] (mk σ τ)) (fun v4 => ?_)
      refine im_st (r_istore_n (i := 2) (L1 := [none, some (.int v3), some (.int v4)]) dX10_bitsOf_17 rfl rfl (by decide) rfl) ?_
      refine im_st (r_goto (pc1 := 4) dX10_bitsOf_18 (by decide)) ?_
      exact im_ret id
  refine im_st (r_iload_n (i := 1) dX10_bitsOf_21 rfl rfl rfl) ?_
  exact im_ret (fun q => g_iret rfl rfl rfl dX10_bitsOf_22 q)
theorem e_X10_bitsOf (a0 : Int32) (σ : Sg) (τ : Sl) (y : Int32) (hy : f_X10_bitsOf a0 = some y) : EvD M_X10_bitsOf [.int a0] (mk σ τ) (some (.int y)) (mk σ τ) := EvM.of (by decide +kernel) (Nat.le_of_ble_eq_true rfl) (i_X10_bitsOf a0 σ τ _ y hy ⟨rfl, rfl⟩)
def M_X10_rule : Ms := (yX10_rule, cX10_rule, 4, some .int, 4, 102, 0, 0)
theorem mv_X10_rule : MV M_X10_rule 1 := ⟨⟨q1143, q12, by decide, by decide, by decide +kernel⟩, q1141, q1142⟩
def b_X10_rule_4 : (Int32 × Int32 × Sg) → Option ((Int32 × Int32 × Sg) ⊕ (Int32 × Int32 × Sg)) := fun (s1 : (Int32 × Int32 × Sg)) =>
  if (s1.2.2 76 (40 : Int32).toNatClampNeg) ≤ s1.2.1 then
    some (.inr (s1.1, s1.2.1, s1.2.2))
  else
    if inR ((26 : Int32) + s1.2.1) 205 then
    if inR ((32 : Int32) + s1.2.1) 205 then
    (f_X10_runsOn (0 : Int32) (s1.2.2 76 ((26 : Int32) + s1.2.1).toNatClampNeg) (s1.2.2 76 ((32 : Int32) + s1.2.1).toNatClampNeg) (0 : Int32) s1.2.2).bind fun (y5 : Sg) =>
    app (if (y5 75 19) = 0 then
      (0 : Int32)
    else
      ((1 : Int32) <<< (s1.2.1 &&& 31))) fun (j6 : Int32) =>
    some (.inl ((s1.1 ||| j6), (s1.2.1 + 1), y5))
    else none
    else none
def f_X10_rule (a1 : Int32) (σ : Sg) : Option (Int32 × Sg) :=
  (wh b_X10_rule_4 4096 ((0 : Int32), (0 : Int32), σ)).bind fun (e8 : (Int32 × Int32 × Sg)) =>
  if a1 = 0 then
    some ((e8.2.2 76 (38 : Int32).toNatClampNeg), e8.2.2)
  else
    if a1 = 1 then
      some ((e8.2.2 76 (39 : Int32).toNatClampNeg), e8.2.2)
    else
      if a1 = 2 then
        some ((e8.2.2 75 1), e8.2.2)
      else
        if a1 = 3 then
          some ((e8.2.2 76 (40 : Int32).toNatClampNeg), e8.2.2)
        else
          if a1 = 4 then
            (f_X10_winsOn (0 : Int32) (-4 : Int32) e8.2.2).bind fun (y14 : (Int32 × Sg)) =>
            some (y14.1, y14.2)
          else
            if a1 = 5 then
              some (e8.1, e8.2.2)
            else
              some ((-1 : Int32), e8.2.2)
set_option maxHeartbeats 4000000 in
set_option maxRecDepth 20000 in
theorem i_X10_rule (a1 : Int32) (σ : Sg) (τ : Sl) (Q : Option Value → Hp → Prop) : Imp (f_X10_rule a1 σ) (fun (y : (Int32 × Sg)) => Q (some (.int y.1)) (mk y.2 τ)) (Go M_X10_rule Q 0 0 0 [some (.ref 75), some (.int a1), none, none] [] (mk σ τ)) := by
  unfold f_X10_rule
  refine im_st (r_iconst (v := 0) dX10_rule_0 rfl kI_0) ?_
  refine im_st (r_istore_n (i := 2) (L1 := [some (.ref 75), some (.int a1), some (.int (0 : Int32)), none]) dX10_rule_1 rfl rfl (by decide) rfl) ?_
  refine im_st (r_iconst (v := 0) dX10_rule_2 rfl kI_0) ?_
  refine im_st (r_istore_n (i := 3) (L1 := [some (.ref 75), some (.int a1), some (.int (0 : Int32)), some (.int (0 : Int32))]) dX10_rule_3 rfl rfl (by decide) rfl) ?_
  refine im_seq (Gm := fun (e8 : (Int32 × Int32 × Sg)) => Go M_X10_rule Q 0 0 62 [some (.ref 75), some (.int a1), some (.int e8.1), none] [] (mk e8.2.2 τ)) ?_ (fun e8 => ?_)
  · refine im_wh (G := fun (s1 : (Int32 × Int32 × Sg)) => Go M_X10_rule Q 0 0 4 [some (.ref 75), some (.int a1), some (.int s1.1), some (.int s1.2.1)] [] (mk s1.2.2 τ)) (fun s1 => ?_) _ _
    unfold b_X10_rule_4
    refine im_st (r_iload_n (i := 3) dX10_rule_4 rfl rfl rfl) ?_
    refine im_st (r_aload_n (i := 0) dX10_rule_5 rfl rfl rfl) ?_
    refine im_st (s_getR (b := 76) (tag := 10) (j := 0) dX10_rule_6 rfl fl_X10_7 rfl (Nat.le_of_ble_eq_true rfl) rfl rfl) ?_
    refine im_st (r_bipush (v := 40) dX10_rule_9 rfl kB_40) ?_
    refine im_st (s_iaload dX10_rule_11 rfl rfl (Nat.le_of_ble_eq_true rfl) (inR_in rfl)) ?_
    refine im_br (r_icmp_ge (tgt := 62) dX10_rule_12 rfl (by decide)) (fun c2 => ?_) (fun c2 => ?_)
    · refine im_st (r_fgt (L1 := [some (.ref 75), some (.int a1), some (.int s1.1), none]) [3] rfl) ?_
      exact im_ret id
    · refine im_st (r_aload_n (i := 0) dX10_rule_15 rfl rfl rfl) ?_
      refine im_st (r_iconst (v := 0) dX10_rule_16 rfl kI_0) ?_
      refine im_st (r_aload_n (i := 0) dX10_rule_17 rfl rfl rfl) ?_
      refine im_st (s_getR (b := 76) (tag := 10) (j := 0) dX10_rule_18 rfl fl_X10_7 rfl (Nat.le_of_ble_eq_true rfl) rfl rfl) ?_
      refine im_st (r_bipush (v := 26) dX10_rule_21 rfl kB_26) ?_
      refine im_st (r_iload_n (i := 3) dX10_rule_23 rfl rfl rfl) ?_
      refine im_st (r_iadd dX10_rule_24 rfl) ?_
      refine im_grd (fun g3 => ?_)
      refine im_st (s_iaload dX10_rule_25 rfl rfl (Nat.le_of_ble_eq_true rfl) (inR_in g3)) ?_
      refine im_st (r_aload_n (i := 0) dX10_rule_26 rfl rfl rfl) ?_
      refine im_st (s_getR (b := 76) (tag := 10) (j := 0) dX10_rule_27 rfl fl_X10_7 rfl (Nat.le_of_ble_eq_true rfl) rfl rfl) ?_
      refine im_st (r_bipush (v := 32) dX10_rule_30 rfl kB_32) ?_
      refine im_st (r_iload_n (i := 3) dX10_rule_32 rfl rfl rfl) ?_
      refine im_st (r_iadd dX10_rule_33 rfl) ?_
      refine im_grd (fun g4 => ?_)
      refine im_st (s_iaload dX10_rule_34 rfl rfl (Nat.le_of_ble_eq_true rfl) (inR_in g4)) ?_
      refine im_st (r_iconst (v := 0) dX10_rule_35 rfl kI_0) ?_
      refine im_bind (fun y5 hy5 => ?_)
      refine im_st (r_callV (as := [.int (0 : Int32), .int (s1.2.2 76 ((26 : Int32) + s1.2.1).toNatClampNeg), .int (s1.2.2 76 ((32 : Int32) + s1.2.1).toNatClampNeg), .int (0 : Int32)]) (r := none) (kc1 := 0) (ks1 := 0) (st := []) (st1 := []) (e_X10_runsOn (0 : Int32) (s1.2.2 76 ((26 : Int32) + s1.2.1).toNatClampNeg) (s1.2.2 76 ((32 : Int32) + s1.2.1).toNatClampNeg) (0 : Int32) s1.2.2 τ y5 hy5) mv_X10_runsOn lk_X10_164 ⟨by decide, by decide⟩ rfl (Nat.le_of_ble_eq_true rfl) (by decide) ⟨_, rfl, rfl⟩ ⟨by decide, by decide⟩ (Nat.le_of_ble_eq_true rfl) dX10_rule_36 rfl rfl rfl rfl rfl) ?_
      refine im_st (r_iload_n (i := 2) dX10_rule_39 rfl rfl rfl) ?_
      refine im_st (r_aload_n (i := 0) dX10_rule_40 rfl rfl rfl) ?_
      refine im_st (s_getI (tag := 10) (j := 19) dX10_rule_41 rfl fl_X10_154 rfl (Nat.le_of_ble_eq_true rfl) rfl) ?_
      refine im_seqT (Gm := fun (j6 : Int32) => Go M_X10_rule Q 0 0 54 [some (.ref 75), some (.int a1), none, some (.int s1.2.1)] [.int j6, .int s1.1] (mk y5 τ)) ?_ (fun j6 => ?_)
      · refine im_brS (r_if_eq (tgt := 53) dX10_rule_44 rfl (by decide)) (fun c7 => ?_) (fun c7 => ?_)
        · refine im_st (r_iconst (v := 0) dX10_rule_53 rfl kI_0) ?_
          refine im_st (r_fgt (L1 := [some (.ref 75), some (.int a1), none, some (.int s1.2.1)]) [2] rfl) ?_
          exact im_ret id
        · refine im_st (r_iconst (v := 1) dX10_rule_47 rfl kI_1) ?_
          refine im_st (r_iload_n (i := 3) dX10_rule_48 rfl rfl rfl) ?_
          refine im_st (r_ishl dX10_rule_49 rfl) ?_
          refine im_st (r_goto (pc1 := 54) dX10_rule_50 (by decide)) ?_
          refine im_st (r_fgt (L1 := [some (.ref 75), some (.int a1), none, some (.int s1.2.1)]) [2] rfl) ?_
          exact im_ret id
      refine im_st (r_ior dX10_rule_54 rfl) ?_
      refine im_st (r_istore_n (i := 2) (L1 := [some (.ref 75), some (.int a1), some (.int (s1.1 ||| j6)), some (.int s1.2.1)]) dX10_rule_55 rfl rfl (by decide) rfl) ?_
      refine im_st (r_iinc (i := 3) (x := s1.2.1) (v := (s1.2.1 + 1)) (L1 := [some (.ref 75), some (.int a1), some (.int (s1.1 ||| j6)), some (.int (s1.2.1 + 1))]) dX10_rule_56 rfl rfl rfl (by decide) rfl) ?_
      refine im_st (r_goto (pc1 := 4) dX10_rule_59 (by decide)) ?_
      exact im_ret id
  refine im_st (r_iload_n (i := 1) dX10_rule_62 rfl rfl rfl) ?_
  refine im_if (fun c9 => ?_) (fun c9 => ?_)
  · refine im_st (r_tin (off := 37) (pc1 := 100) dX10_rule_63 (by rw [c9]; decide) (by rw [c9]; decide) (by rw [c9]; rfl) (by decide)) ?_
    refine im_st (r_aload_n (i := 0) dX10_rule_100 rfl rfl rfl) ?_
    refine im_st (s_getR (b := 76) (tag := 10) (j := 0) dX10_rule_101 rfl fl_X10_7 rfl (Nat.le_of_ble_eq_true rfl) rfl rfl) ?_
    refine im_st (r_bipush (v := 38) dX10_rule_104 rfl kB_38) ?_
    refine im_st (s_iaload dX10_rule_106 rfl rfl (Nat.le_of_ble_eq_true rfl) (inR_in rfl)) ?_
    exact im_ret (fun q => g_iret rfl rfl rfl dX10_rule_107 q)
  · refine im_if (fun c10 => ?_) (fun c10 => ?_)
    · refine im_st (r_tin (off := 45) (pc1 := 108) dX10_rule_63 (by rw [c10]; decide) (by rw [c10]; decide) (by rw [c10]; rfl) (by decide)) ?_
      refine im_st (r_aload_n (i := 0) dX10_rule_108 rfl rfl rfl) ?_
      refine im_st (s_getR (b := 76) (tag := 10) (j := 0) dX10_rule_109 rfl fl_X10_7 rfl (Nat.le_of_ble_eq_true rfl) rfl rfl) ?_
      refine im_st (r_bipush (v := 39) dX10_rule_112 rfl kB_39) ?_
      refine im_st (s_iaload dX10_rule_114 rfl rfl (Nat.le_of_ble_eq_true rfl) (inR_in rfl)) ?_
      exact im_ret (fun q => g_iret rfl rfl rfl dX10_rule_115 q)
    · refine im_if (fun c11 => ?_) (fun c11 => ?_)
      · refine im_st (r_tin (off := 53) (pc1 := 116) dX10_rule_63 (by rw [c11]; decide) (by rw [c11]; decide) (by rw [c11]; rfl) (by decide)) ?_
        refine im_st (r_aload_n (i := 0) dX10_rule_116 rfl rfl rfl) ?_
        refine im_st (s_getI (tag := 10) (j := 1) dX10_rule_117 rfl fl_X10_129 rfl (Nat.le_of_ble_eq_true rfl) rfl) ?_
        exact im_ret (fun q => g_iret rfl rfl rfl dX10_rule_120 q)
      · refine im_if (fun c12 => ?_) (fun c12 => ?_)
        · refine im_st (r_tin (off := 58) (pc1 := 121) dX10_rule_63 (by rw [c12]; decide) (by rw [c12]; decide) (by rw [c12]; rfl) (by decide)) ?_
          refine im_st (r_aload_n (i := 0) dX10_rule_121 rfl rfl rfl) ?_
          refine im_st (s_getR (b := 76) (tag := 10) (j := 0) dX10_rule_122 rfl fl_X10_7 rfl (Nat.le_of_ble_eq_true rfl) rfl rfl) ?_
          refine im_st (r_bipush (v := 40) dX10_rule_125 rfl kB_40) ?_
          refine im_st (s_iaload dX10_rule_127 rfl rfl (Nat.le_of_ble_eq_true rfl) (inR_in rfl)) ?_
          exact im_ret (fun q => g_iret rfl rfl rfl dX10_rule_128 q)
        · refine im_if (fun c13 => ?_) (fun c13 => ?_)
          · refine im_st (r_tin (off := 66) (pc1 := 129) dX10_rule_63 (by rw [c13]; decide) (by rw [c13]; decide) (by rw [c13]; rfl) (by decide)) ?_
            refine im_st (r_aload_n (i := 0) dX10_rule_129 rfl rfl rfl) ?_
            refine im_st (r_iconst (v := 0) dX10_rule_130 rfl kI_0) ?_
            refine im_st (r_bipush (v := -4) dX10_rule_131 rfl kB_m4) ?_
            refine im_bind (fun y14 hy14 => ?_)
            refine im_st (r_callV (as := [.int (0 : Int32), .int (-4 : Int32)]) (r := some (.int y14.1)) (kc1 := 0) (ks1 := 0) (st := []) (st1 := [.int y14.1]) (e_X10_winsOn (0 : Int32) (-4 : Int32) e8.2.2 τ y14 hy14) mv_X10_winsOn lk_X10_172 ⟨by decide, by decide⟩ rfl (Nat.le_of_ble_eq_true rfl) (by decide) ⟨_, rfl, rfl⟩ ⟨by decide, by decide⟩ (Nat.le_of_ble_eq_true rfl) dX10_rule_133 rfl rfl rfl rfl rfl) ?_
            exact im_ret (fun q => g_iret rfl rfl rfl dX10_rule_136 q)
          · refine im_if (fun c15 => ?_) (fun c15 => ?_)
            · refine im_st (r_tin (off := 74) (pc1 := 137) dX10_rule_63 (by rw [c15]; decide) (by rw [c15]; decide) (by rw [c15]; rfl) (by decide)) ?_
              refine im_st (r_iload_n (i := 2) dX10_rule_137 rfl rfl rfl) ?_
              exact im_ret (fun q => g_iret rfl rfl rfl dX10_rule_138 q)
            · refine im_st (r_tout (pc1 := 139) dX10_rule_63 (by have h0 := tsw_not c9 (a := 0) (by decide); have h1 := tsw_not c10 (a := 1) (by decide); have h2 := tsw_not c11 (a := 2) (by decide); have h3 := tsw_not c12 (a := 3) (by decide); have h4 := tsw_not c13 (a := 4) (by decide); have h5 := tsw_not c15 (a := 5) (by decide); omega) (by decide)) ?_
              refine im_st (r_iconst (v := -1) dX10_rule_139 rfl kI_m1) ?_
              exact im_ret (fun q => g_iret rfl rfl rfl dX10_rule_140 q)
theorem e_X10_rule (a1 : Int32) (σ : Sg) (τ : Sl) (y : (Int32 × Sg)) (hy : f_X10_rule a1 σ = some y) : EvD M_X10_rule [.ref 75, .int a1] (mk σ τ) (some (.int y.1)) (mk y.2 τ) := EvM.of (by decide +kernel) (Nat.le_of_ble_eq_true rfl) (i_X10_rule a1 σ τ _ y hy ⟨rfl, rfl⟩)
def M_X10_peg : Ms := (yX10_peg, cX10_peg, 5, some .int, 2, 54, 0, 0)
theorem mv_X10_peg : MV M_X10_peg 2 := ⟨⟨q1173, q12, by decide, by decide, by decide +kernel⟩, q1171, q1172⟩
def b_X10_peg_27 (a1 : Int32) : (Int32 × Int32 × Sg) → Option ((Int32 × Int32 × Sg) ⊕ (Int32 × Int32 × Sg)) := fun (s3 : (Int32 × Int32 × Sg)) =>
  if (s3.2.2 76 (40 : Int32).toNatClampNeg) ≤ s3.2.1 then
    some (.inr (s3.1, s3.2.1, s3.2.2))
  else
    if inR ((26 : Int32) + s3.2.1) 205 then
    if inR ((32 : Int32) + s3.2.1) 205 then
    (f_X10_runsOn (0 : Int32) (s3.2.2 76 ((26 : Int32) + s3.2.1).toNatClampNeg) (s3.2.2 76 ((32 : Int32) + s3.2.1).toNatClampNeg) (0 : Int32) s3.2.2).bind fun (y7 : Sg) =>
    app (if (y7 75 16) = a1 then
      ((1 : Int32) <<< (s3.2.1 &&& 31))
    else
      (0 : Int32)) fun (j8 : Int32) =>
    some (.inl ((s3.1 ||| j8), (s3.2.1 + 1), y7))
    else none
    else none
def f_X10_peg (a1 : Int32) (a2 : Int32) (σ : Sg) : Option (Int32 × Sg) :=
  if (f_X10_isPeg a1 σ) = 0 then
    some ((-1 : Int32), σ)
  else
    if (f_X10_in (a2.toInt64) (0 : Int64) (2 : Int64)) = 0 then
      some ((-1 : Int32), σ)
    else
      (wh (b_X10_peg_27 a1) 4096 ((0 : Int32), (0 : Int32), σ)).bind fun (e10 : (Int32 × Int32 × Sg)) =>
      if (2 : Int32) ≤ a2 then
        some (e10.1, e10.2.2)
      else
        if inR (((7 : Int32) * a2) + a1) 205 then
        some ((e10.2.2 76 (((7 : Int32) * a2) + a1).toNatClampNeg), e10.2.2)
        else none
set_option maxHeartbeats 4000000 in
set_option maxRecDepth 20000 in
theorem i_X10_peg (a1 : Int32) (a2 : Int32) (σ : Sg) (τ : Sl) (Q : Option Value → Hp → Prop) : Imp (f_X10_peg a1 a2 σ) (fun (y : (Int32 × Sg)) => Q (some (.int y.1)) (mk y.2 τ)) (Go M_X10_peg Q 0 0 0 [some (.ref 75), some (.int a1), some (.int a2), none, none] [] (mk σ τ)) := by
  unfold f_X10_peg
  refine im_st (r_aload_n (i := 0) dX10_peg_0 rfl rfl rfl) ?_
  refine im_st (r_iload_n (i := 1) dX10_peg_1 rfl rfl rfl) ?_
  refine im_st (r_callV (as := [.int a1]) (r := some (.int (f_X10_isPeg a1 σ))) (kc1 := 0) (ks1 := 0) (st := []) (st1 := [.int (f_X10_isPeg a1 σ)]) (e_X10_isPeg a1 σ τ) mv_X10_isPeg lk_X10_175 ⟨by decide, by decide⟩ rfl (Nat.le_of_ble_eq_true rfl) (by decide) ⟨_, rfl, rfl⟩ ⟨by decide, by decide⟩ (Nat.le_of_ble_eq_true rfl) dX10_peg_2 rfl rfl rfl rfl rfl) ?_
  refine im_br (r_if_eq (tgt := 20) dX10_peg_5 rfl (by decide)) (fun c1 => ?_) (fun c1 => ?_)
  · refine im_st (r_iconst (v := -1) dX10_peg_20 rfl kI_m1) ?_
    exact im_ret (fun q => g_iret rfl rfl rfl dX10_peg_21 q)
  · refine im_st (r_iload_n (i := 2) dX10_peg_8 rfl rfl rfl) ?_
    refine im_st (r_i2l (v := a2.toInt64) dX10_peg_9 rfl rfl) ?_
    refine im_st (r_lconst (v := 0) dX10_peg_10 rfl rfl) ?_
    refine im_st (r_ldc2 (v := 2) dX10_peg_11 rfl q1178) ?_
    refine im_st (r_callS (as := [.long (a2.toInt64), .long (0 : Int64), .long (2 : Int64)]) (r := some (.int (f_X10_in (a2.toInt64) (0 : Int64) (2 : Int64)))) (kc1 := 0) (ks1 := 0) (st := []) (st1 := [.int (f_X10_in (a2.toInt64) (0 : Int64) (2 : Int64))]) (e_X10_in (a2.toInt64) (0 : Int64) (2 : Int64) σ τ) ms_X10_in lk_X10_49 ⟨by decide, by decide⟩ ⟨by decide, by decide⟩ (Nat.le_of_ble_eq_true rfl) dX10_peg_14 rfl rfl rfl rfl rfl) ?_
    refine im_br (r_if_ne (tgt := 22) dX10_peg_17 rfl (by decide)) (fun c2 => ?_) (fun c2 => ?_)
    · refine im_st (r_iconst (v := -1) dX10_peg_20 rfl kI_m1) ?_
      exact im_ret (fun q => g_iret rfl rfl rfl dX10_peg_21 q)
    · refine im_st (r_iconst (v := 0) dX10_peg_22 rfl kI_0) ?_
      refine im_st (r_istore_n (i := 3) (L1 := [some (.ref 75), some (.int a1), some (.int a2), some (.int (0 : Int32)), none]) dX10_peg_23 rfl rfl (by decide) rfl) ?_
      refine im_st (r_iconst (v := 0) dX10_peg_24 rfl kI_0) ?_
      refine im_st (r_istore (i := 4) (L1 := [some (.ref 75), some (.int a1), some (.int a2), some (.int (0 : Int32)), some (.int (0 : Int32))]) dX10_peg_25 rfl (by decide) rfl) ?_
      refine im_seq (Gm := fun (e10 : (Int32 × Int32 × Sg)) => Go M_X10_peg Q 0 0 90 [some (.ref 75), some (.int a1), some (.int a2), some (.int e10.1), none] [] (mk e10.2.2 τ)) ?_ (fun e10 => ?_)
      · refine im_wh (G := fun (s3 : (Int32 × Int32 × Sg)) => Go M_X10_peg Q 0 0 27 [some (.ref 75), some (.int a1), some (.int a2), some (.int s3.1), some (.int s3.2.1)] [] (mk s3.2.2 τ)) (fun s3 => ?_) _ _
        unfold b_X10_peg_27
        refine im_st (r_iload (i := 4) dX10_peg_27 rfl rfl) ?_
        refine im_st (r_aload_n (i := 0) dX10_peg_29 rfl rfl rfl) ?_
        refine im_st (s_getR (b := 76) (tag := 10) (j := 0) dX10_peg_30 rfl fl_X10_7 rfl (Nat.le_of_ble_eq_true rfl) rfl rfl) ?_
        refine im_st (r_bipush (v := 40) dX10_peg_33 rfl kB_40) ?_
        refine im_st (s_iaload dX10_peg_35 rfl rfl (Nat.le_of_ble_eq_true rfl) (inR_in rfl)) ?_
        refine im_br (r_icmp_ge (tgt := 90) dX10_peg_36 rfl (by decide)) (fun c4 => ?_) (fun c4 => ?_)
        · refine im_st (r_fgt (L1 := [some (.ref 75), some (.int a1), some (.int a2), some (.int s3.1), none]) [4] rfl) ?_
          exact im_ret id
        · refine im_st (r_aload_n (i := 0) dX10_peg_39 rfl rfl rfl) ?_
          refine im_st (r_iconst (v := 0) dX10_peg_40 rfl kI_0) ?_
          refine im_st (r_aload_n (i := 0) dX10_peg_41 rfl rfl rfl) ?_
          refine im_st (s_getR (b := 76) (tag := 10) (j := 0) dX10_peg_42 rfl fl_X10_7 rfl (Nat.le_of_ble_eq_true rfl) rfl rfl) ?_
          refine im_st (r_bipush (v := 26) dX10_peg_45 rfl kB_26) ?_
          refine im_st (r_iload (i := 4) dX10_peg_47 rfl rfl) ?_
          refine im_st (r_iadd dX10_peg_49 rfl) ?_
          refine im_grd (fun g5 => ?_)
          refine im_st (s_iaload dX10_peg_50 rfl rfl (Nat.le_of_ble_eq_true rfl) (inR_in g5)) ?_
          refine im_st (r_aload_n (i := 0) dX10_peg_51 rfl rfl rfl) ?_
          refine im_st (s_getR (b := 76) (tag := 10) (j := 0) dX10_peg_52 rfl fl_X10_7 rfl (Nat.le_of_ble_eq_true rfl) rfl rfl) ?_
          refine im_st (r_bipush (v := 32) dX10_peg_55 rfl kB_32) ?_
          refine im_st (r_iload (i := 4) dX10_peg_57 rfl rfl) ?_
          refine im_st (r_iadd dX10_peg_59 rfl) ?_
          refine im_grd (fun g6 => ?_)
          refine im_st (s_iaload dX10_peg_60 rfl rfl (Nat.le_of_ble_eq_true rfl) (inR_in g6)) ?_
          refine im_st (r_iconst (v := 0) dX10_peg_61 rfl kI_0) ?_
          refine im_bind (fun y7 hy7 => ?_)
          refine im_st (r_callV (as := [.int (0 : Int32), .int (s3.2.2 76 ((26 : Int32) + s3.2.1).toNatClampNeg), .int (s3.2.2 76 ((32 : Int32) + s3.2.1).toNatClampNeg), .int (0 : Int32)]) (r := none) (kc1 := 0) (ks1 := 0) (st := []) (st1 := []) (e_X10_runsOn (0 : Int32) (s3.2.2 76 ((26 : Int32) + s3.2.1).toNatClampNeg) (s3.2.2 76 ((32 : Int32) + s3.2.1).toNatClampNeg) (0 : Int32) s3.2.2 τ y7 hy7) mv_X10_runsOn lk_X10_164 ⟨by decide, by decide⟩ rfl (Nat.le_of_ble_eq_true rfl) (by decide) ⟨_, rfl, rfl⟩ ⟨by decide, by decide⟩ (Nat.le_of_ble_eq_true rfl) dX10_peg_62 rfl rfl rfl rfl rfl) ?_
          refine im_st (r_iload_n (i := 3) dX10_peg_65 rfl rfl rfl) ?_
          refine im_st (r_aload_n (i := 0) dX10_peg_66 rfl rfl rfl) ?_
          refine im_st (s_getI (tag := 10) (j := 16) dX10_peg_67 rfl fl_X10_145 rfl (Nat.le_of_ble_eq_true rfl) rfl) ?_
          refine im_st (r_iload_n (i := 1) dX10_peg_70 rfl rfl rfl) ?_
          refine im_seqT (Gm := fun (j8 : Int32) => Go M_X10_peg Q 0 0 82 [some (.ref 75), some (.int a1), some (.int a2), none, some (.int s3.2.1)] [.int j8, .int s3.1] (mk y7 τ)) ?_ (fun j8 => ?_)
          · refine im_brS (r_icmp_ne (tgt := 81) dX10_peg_71 rfl (by decide)) (fun c9 => ?_) (fun c9 => ?_)
            · refine im_st (r_iconst (v := 1) dX10_peg_74 rfl kI_1) ?_
              refine im_st (r_iload (i := 4) dX10_peg_75 rfl rfl) ?_
              refine im_st (r_ishl dX10_peg_77 rfl) ?_
              refine im_st (r_goto (pc1 := 82) dX10_peg_78 (by decide)) ?_
              refine im_st (r_fgt (L1 := [some (.ref 75), some (.int a1), some (.int a2), none, some (.int s3.2.1)]) [3] rfl) ?_
              exact im_ret id
            · refine im_st (r_iconst (v := 0) dX10_peg_81 rfl kI_0) ?_
              refine im_st (r_fgt (L1 := [some (.ref 75), some (.int a1), some (.int a2), none, some (.int s3.2.1)]) [3] rfl) ?_
              exact im_ret id
          refine im_st (r_ior dX10_peg_82 rfl) ?_
          refine im_st (r_istore_n (i := 3) (L1 := [some (.ref 75), some (.int a1), some (.int a2), some (.int (s3.1 ||| j8)), some (.int s3.2.1)]) dX10_peg_83 rfl rfl (by decide) rfl) ?_
          refine im_st (r_iinc (i := 4) (x := s3.2.1) (v := (s3.2.1 + 1)) (L1 := [some (.ref 75), some (.int a1), some (.int a2), some (.int (s3.1 ||| j8)), some (.int (s3.2.1 + 1))]) dX10_peg_84 rfl rfl rfl (by decide) rfl) ?_
          refine im_st (r_goto (pc1 := 27) dX10_peg_87 (by decide)) ?_
          exact im_ret id
      refine im_st (r_iload_n (i := 2) dX10_peg_90 rfl rfl rfl) ?_
      refine im_st (r_iconst (v := 2) dX10_peg_91 rfl kI_2) ?_
      refine im_br (r_icmp_ge (tgt := 109) dX10_peg_92 rfl (by decide)) (fun c11 => ?_) (fun c11 => ?_)
      · refine im_st (r_iload_n (i := 3) dX10_peg_109 rfl rfl rfl) ?_
        exact im_ret (fun q => g_iret rfl rfl rfl dX10_peg_110 q)
      · refine im_st (r_aload_n (i := 0) dX10_peg_95 rfl rfl rfl) ?_
        refine im_st (s_getR (b := 76) (tag := 10) (j := 0) dX10_peg_96 rfl fl_X10_7 rfl (Nat.le_of_ble_eq_true rfl) rfl rfl) ?_
        refine im_st (r_bipush (v := 7) dX10_peg_99 rfl kB_7) ?_
        refine im_st (r_iload_n (i := 2) dX10_peg_101 rfl rfl rfl) ?_
        refine im_st (r_imul dX10_peg_102 rfl) ?_
        refine im_st (r_iload_n (i := 1) dX10_peg_103 rfl rfl rfl) ?_
        refine im_st (r_iadd dX10_peg_104 rfl) ?_
        refine im_grd (fun g12 => ?_)
        refine im_st (s_iaload dX10_peg_105 rfl rfl (Nat.le_of_ble_eq_true rfl) (inR_in g12)) ?_
        refine im_st (r_goto (pc1 := 110) dX10_peg_106 (by decide)) ?_
        exact im_ret (fun q => g_iret rfl rfl rfl dX10_peg_110 q)
theorem e_X10_peg (a1 : Int32) (a2 : Int32) (σ : Sg) (τ : Sl) (y : (Int32 × Sg)) (hy : f_X10_peg a1 a2 σ = some y) : EvD M_X10_peg [.ref 75, .int a1, .int a2] (mk σ τ) (some (.int y.1)) (mk y.2 τ) := EvM.of (by decide +kernel) (Nat.le_of_ble_eq_true rfl) (i_X10_peg a1 a2 σ τ _ y hy ⟨rfl, rfl⟩)
def M_X10_slug : Ms := (yX10_slug, cX10_slug, 2, some .int, 1, 25, 0, 0)
theorem mv_X10_slug : MV M_X10_slug 1 := ⟨⟨q1182, q12, by decide, by decide, by decide +kernel⟩, q1180, q1181⟩
def f_X10_slug (a1 : Int32) (σ : Sg) : Option Int32 :=
  if (f_X10_in (a1.toInt64) (0 : Int64) (((σ 76 (39 : Int32).toNatClampNeg) - (1 : Int32)).toInt64)) = 0 then
    some (-1 : Int32)
  else
    if inR ((14 : Int32) + a1) 205 then
    some (σ 76 ((14 : Int32) + a1).toNatClampNeg)
    else none
set_option maxHeartbeats 4000000 in
set_option maxRecDepth 20000 in
theorem i_X10_slug (a1 : Int32) (σ : Sg) (τ : Sl) (Q : Option Value → Hp → Prop) : Imp (f_X10_slug a1 σ) (fun (y : Int32) => Q (some (.int y)) (mk σ τ)) (Go M_X10_slug Q 0 0 0 [some (.ref 75), some (.int a1)] [] (mk σ τ)) := by
  unfold f_X10_slug
  refine im_st (r_iload_n (i := 1) dX10_slug_0 rfl rfl rfl) ?_
  refine im_st (r_i2l (v := a1.toInt64) dX10_slug_1 rfl rfl) ?_
  refine im_st (r_lconst (v := 0) dX10_slug_2 rfl rfl) ?_
  refine im_st (r_aload_n (i := 0) dX10_slug_3 rfl rfl rfl) ?_
  refine im_st (s_getR (b := 76) (tag := 10) (j := 0) dX10_slug_4 rfl fl_X10_7 rfl (Nat.le_of_ble_eq_true rfl) rfl rfl) ?_
  refine im_st (r_bipush (v := 39) dX10_slug_7 rfl kB_39) ?_
  refine im_st (s_iaload dX10_slug_9 rfl rfl (Nat.le_of_ble_eq_true rfl) (inR_in rfl)) ?_
  refine im_st (r_iconst (v := 1) dX10_slug_10 rfl kI_1) ?_
  refine im_st (r_isub dX10_slug_11 rfl) ?_
  refine im_st (r_i2l (v := ((σ 76 (39 : Int32).toNatClampNeg) - (1 : Int32)).toInt64) dX10_slug_12 rfl rfl) ?_
  refine im_st (r_callS (as := [.long (a1.toInt64), .long (0 : Int64), .long (((σ 76 (39 : Int32).toNatClampNeg) - (1 : Int32)).toInt64)]) (r := some (.int (f_X10_in (a1.toInt64) (0 : Int64) (((σ 76 (39 : Int32).toNatClampNeg) - (1 : Int32)).toInt64)))) (kc1 := 0) (ks1 := 0) (st := []) (st1 := [.int (f_X10_in (a1.toInt64) (0 : Int64) (((σ 76 (39 : Int32).toNatClampNeg) - (1 : Int32)).toInt64))]) (e_X10_in (a1.toInt64) (0 : Int64) (((σ 76 (39 : Int32).toNatClampNeg) - (1 : Int32)).toInt64) σ τ) ms_X10_in lk_X10_49 ⟨by decide, by decide⟩ ⟨by decide, by decide⟩ (Nat.le_of_ble_eq_true rfl) dX10_slug_13 rfl rfl rfl rfl rfl) ?_
  refine im_br (r_if_eq (tgt := 31) dX10_slug_16 rfl (by decide)) (fun c1 => ?_) (fun c1 => ?_)
  · refine im_st (r_iconst (v := -1) dX10_slug_31 rfl kI_m1) ?_
    exact im_ret (fun q => g_iret rfl rfl rfl dX10_slug_32 q)
  · refine im_st (r_aload_n (i := 0) dX10_slug_19 rfl rfl rfl) ?_
    refine im_st (s_getR (b := 76) (tag := 10) (j := 0) dX10_slug_20 rfl fl_X10_7 rfl (Nat.le_of_ble_eq_true rfl) rfl rfl) ?_
    refine im_st (r_bipush (v := 14) dX10_slug_23 rfl kB_14) ?_
    refine im_st (r_iload_n (i := 1) dX10_slug_25 rfl rfl rfl) ?_
    refine im_st (r_iadd dX10_slug_26 rfl) ?_
    refine im_grd (fun g2 => ?_)
    refine im_st (s_iaload dX10_slug_27 rfl rfl (Nat.le_of_ble_eq_true rfl) (inR_in g2)) ?_
    refine im_st (r_goto (pc1 := 32) dX10_slug_28 (by decide)) ?_
    exact im_ret (fun q => g_iret rfl rfl rfl dX10_slug_32 q)
theorem e_X10_slug (a1 : Int32) (σ : Sg) (τ : Sl) (y : Int32) (hy : f_X10_slug a1 σ = some y) : EvD M_X10_slug [.ref 75, .int a1] (mk σ τ) (some (.int y)) (mk σ τ) := EvM.of (by decide +kernel) (Nat.le_of_ble_eq_true rfl) (i_X10_slug a1 σ τ _ y hy ⟨rfl, rfl⟩)
def M_X10_hedgehog : Ms := (yX10_hedgehog, cX10_hedgehog, 5, some .int, 2, 54, 0, 0)
theorem mv_X10_hedgehog : MV M_X10_hedgehog 2 := ⟨⟨q1186, q12, by decide, by decide, by decide +kernel⟩, q1184, q1185⟩
def b_X10_hedgehog_27 (a1 : Int32) : (Int32 × Int32 × Sg) → Option ((Int32 × Int32 × Sg) ⊕ (Int32 × Int32 × Sg)) := fun (s3 : (Int32 × Int32 × Sg)) =>
  if (8 : Int32) ≤ s3.2.1 then
    some (.inr (s3.1, s3.2.1, s3.2.2))
  else
    (f_X10_runsOn (0 : Int32) a1 s3.2.1 (0 : Int32) s3.2.2).bind fun (y5 : Sg) =>
    app (if (y5 75 16) = (-4 : Int32) then
      (0 : Int32)
    else
      ((1 : Int32) <<< (s3.2.1 &&& 31))) fun (j6 : Int32) =>
    some (.inl ((s3.1 ||| j6), (s3.2.1 + 1), y5))
def f_X10_hedgehog (a1 : Int32) (a2 : Int32) (σ : Sg) : Option (Int32 × Sg) :=
  if (f_X10_isHog a1 σ) = 0 then
    some ((-1 : Int32), σ)
  else
    if (f_X10_in (a2.toInt64) (0 : Int64) (3 : Int64)) = 0 then
      some ((-1 : Int32), σ)
    else
      (wh (b_X10_hedgehog_27 a1) 4096 ((0 : Int32), (0 : Int32), σ)).bind fun (e8 : (Int32 × Int32 × Sg)) =>
      if (2 : Int32) ≤ a2 then
        if a2 = (2 : Int32) then
          if inR ((18 : Int32) + a1) 205 then
          some ((f_X10_losesOf (e8.2.2 76 ((18 : Int32) + a1).toNatClampNeg)), e8.2.2)
          else none
        else
          some (e8.1, e8.2.2)
      else
        app (((18 : Int32) + ((4 : Int32) * a2)) + a1) fun (v12 : Int32) =>
        if inR v12 205 then
        some ((e8.2.2 76 v12.toNatClampNeg), e8.2.2)
        else none
set_option maxHeartbeats 4000000 in
set_option maxRecDepth 20000 in
theorem i_X10_hedgehog (a1 : Int32) (a2 : Int32) (σ : Sg) (τ : Sl) (Q : Option Value → Hp → Prop) : Imp (f_X10_hedgehog a1 a2 σ) (fun (y : (Int32 × Sg)) => Q (some (.int y.1)) (mk y.2 τ)) (Go M_X10_hedgehog Q 0 0 0 [some (.ref 75), some (.int a1), some (.int a2), none, none] [] (mk σ τ)) := by
  unfold f_X10_hedgehog
  refine im_st (r_aload_n (i := 0) dX10_hedgehog_0 rfl rfl rfl) ?_
  refine im_st (r_iload_n (i := 1) dX10_hedgehog_1 rfl rfl rfl) ?_
  refine im_st (r_callV (as := [.int a1]) (r := some (.int (f_X10_isHog a1 σ))) (kc1 := 0) (ks1 := 0) (st := []) (st1 := [.int (f_X10_isHog a1 σ)]) (e_X10_isHog a1 σ τ) mv_X10_isHog lk_X10_180 ⟨by decide, by decide⟩ rfl (Nat.le_of_ble_eq_true rfl) (by decide) ⟨_, rfl, rfl⟩ ⟨by decide, by decide⟩ (Nat.le_of_ble_eq_true rfl) dX10_hedgehog_2 rfl rfl rfl rfl rfl) ?_
  refine im_br (r_if_eq (tgt := 20) dX10_hedgehog_5 rfl (by decide)) (fun c1 => ?_) (fun c1 => ?_)
  · refine im_st (r_iconst (v := -1) dX10_hedgehog_20 rfl kI_m1) ?_
    exact im_ret (fun q => g_iret rfl rfl rfl dX10_hedgehog_21 q)
  · refine im_st (r_iload_n (i := 2) dX10_hedgehog_8 rfl rfl rfl) ?_
    refine im_st (r_i2l (v := a2.toInt64) dX10_hedgehog_9 rfl rfl) ?_
    refine im_st (r_lconst (v := 0) dX10_hedgehog_10 rfl rfl) ?_
    refine im_st (r_ldc2 (v := 3) dX10_hedgehog_11 rfl q1191) ?_
    refine im_st (r_callS (as := [.long (a2.toInt64), .long (0 : Int64), .long (3 : Int64)]) (r := some (.int (f_X10_in (a2.toInt64) (0 : Int64) (3 : Int64)))) (kc1 := 0) (ks1 := 0) (st := []) (st1 := [.int (f_X10_in (a2.toInt64) (0 : Int64) (3 : Int64))]) (e_X10_in (a2.toInt64) (0 : Int64) (3 : Int64) σ τ) ms_X10_in lk_X10_49 ⟨by decide, by decide⟩ ⟨by decide, by decide⟩ (Nat.le_of_ble_eq_true rfl) dX10_hedgehog_14 rfl rfl rfl rfl rfl) ?_
    refine im_br (r_if_ne (tgt := 22) dX10_hedgehog_17 rfl (by decide)) (fun c2 => ?_) (fun c2 => ?_)
    · refine im_st (r_iconst (v := -1) dX10_hedgehog_20 rfl kI_m1) ?_
      exact im_ret (fun q => g_iret rfl rfl rfl dX10_hedgehog_21 q)
    · refine im_st (r_iconst (v := 0) dX10_hedgehog_22 rfl kI_0) ?_
      refine im_st (r_istore_n (i := 3) (L1 := [some (.ref 75), some (.int a1), some (.int a2), some (.int (0 : Int32)), none]) dX10_hedgehog_23 rfl rfl (by decide) rfl) ?_
      refine im_st (r_iconst (v := 0) dX10_hedgehog_24 rfl kI_0) ?_
      refine im_st (r_istore (i := 4) (L1 := [some (.ref 75), some (.int a1), some (.int a2), some (.int (0 : Int32)), some (.int (0 : Int32))]) dX10_hedgehog_25 rfl (by decide) rfl) ?_
      refine im_seq (Gm := fun (e8 : (Int32 × Int32 × Sg)) => Go M_X10_hedgehog Q 0 0 69 [some (.ref 75), some (.int a1), some (.int a2), some (.int e8.1), none] [] (mk e8.2.2 τ)) ?_ (fun e8 => ?_)
      · refine im_wh (G := fun (s3 : (Int32 × Int32 × Sg)) => Go M_X10_hedgehog Q 0 0 27 [some (.ref 75), some (.int a1), some (.int a2), some (.int s3.1), some (.int s3.2.1)] [] (mk s3.2.2 τ)) (fun s3 => ?_) _ _
        unfold b_X10_hedgehog_27
        refine im_st (r_iload (i := 4) dX10_hedgehog_27 rfl rfl) ?_
        refine im_st (r_bipush (v := 8) dX10_hedgehog_29 rfl kB_8) ?_
        refine im_br (r_icmp_ge (tgt := 69) dX10_hedgehog_31 rfl (by decide)) (fun c4 => ?_) (fun c4 => ?_)
        · refine im_st (r_fgt (L1 := [some (.ref 75), some (.int a1), some (.int a2), some (.int s3.1), none]) [4] rfl) ?_
          exact im_ret id
        · refine im_st (r_aload_n (i := 0) dX10_hedgehog_34 rfl rfl rfl) ?_
          refine im_st (r_iconst (v := 0) dX10_hedgehog_35 rfl kI_0) ?_
          refine im_st (r_iload_n (i := 1) dX10_hedgehog_36 rfl rfl rfl) ?_
          refine im_st (r_iload (i := 4) dX10_hedgehog_37 rfl rfl) ?_
          refine im_st (r_iconst (v := 0) dX10_hedgehog_39 rfl kI_0) ?_
          refine im_bind (fun y5 hy5 => ?_)
          refine im_st (r_callV (as := [.int (0 : Int32), .int a1, .int s3.2.1, .int (0 : Int32)]) (r := none) (kc1 := 0) (ks1 := 0) (st := []) (st1 := []) (e_X10_runsOn (0 : Int32) a1 s3.2.1 (0 : Int32) s3.2.2 τ y5 hy5) mv_X10_runsOn lk_X10_164 ⟨by decide, by decide⟩ rfl (Nat.le_of_ble_eq_true rfl) (by decide) ⟨_, rfl, rfl⟩ ⟨by decide, by decide⟩ (Nat.le_of_ble_eq_true rfl) dX10_hedgehog_40 rfl rfl rfl rfl rfl) ?_
          refine im_st (r_iload_n (i := 3) dX10_hedgehog_43 rfl rfl rfl) ?_
          refine im_st (r_aload_n (i := 0) dX10_hedgehog_44 rfl rfl rfl) ?_
          refine im_st (s_getI (tag := 10) (j := 16) dX10_hedgehog_45 rfl fl_X10_145 rfl (Nat.le_of_ble_eq_true rfl) rfl) ?_
          refine im_st (r_bipush (v := -4) dX10_hedgehog_48 rfl kB_m4) ?_
          refine im_seqT (Gm := fun (j6 : Int32) => Go M_X10_hedgehog Q 0 0 61 [some (.ref 75), some (.int a1), some (.int a2), none, some (.int s3.2.1)] [.int j6, .int s3.1] (mk y5 τ)) ?_ (fun j6 => ?_)
          · refine im_brS (r_icmp_eq (tgt := 60) dX10_hedgehog_50 rfl (by decide)) (fun c7 => ?_) (fun c7 => ?_)
            · refine im_st (r_iconst (v := 0) dX10_hedgehog_60 rfl kI_0) ?_
              refine im_st (r_fgt (L1 := [some (.ref 75), some (.int a1), some (.int a2), none, some (.int s3.2.1)]) [3] rfl) ?_
              exact im_ret id
            · refine im_st (r_iconst (v := 1) dX10_hedgehog_53 rfl kI_1) ?_
              refine im_st (r_iload (i := 4) dX10_hedgehog_54 rfl rfl) ?_
              refine im_st (r_ishl dX10_hedgehog_56 rfl) ?_
              refine im_st (r_goto (pc1 := 61) dX10_hedgehog_57 (by decide)) ?_
              refine im_st (r_fgt (L1 := [some (.ref 75), some (.int a1), some (.int a2), none, some (.int s3.2.1)]) [3] rfl) ?_
              exact im_ret id
          refine im_st (r_ior dX10_hedgehog_61 rfl) ?_
          refine im_st (r_istore_n (i := 3) (L1 := [some (.ref 75), some (.int a1), some (.int a2), some (.int (s3.1 ||| j6)), some (.int s3.2.1)]) dX10_hedgehog_62 rfl rfl (by decide) rfl) ?_
          refine im_st (r_iinc (i := 4) (x := s3.2.1) (v := (s3.2.1 + 1)) (L1 := [some (.ref 75), some (.int a1), some (.int a2), some (.int (s3.1 ||| j6)), some (.int (s3.2.1 + 1))]) dX10_hedgehog_63 rfl rfl rfl (by decide) rfl) ?_
          refine im_st (r_goto (pc1 := 27) dX10_hedgehog_66 (by decide)) ?_
          exact im_ret id
      refine im_st (r_iload_n (i := 2) dX10_hedgehog_69 rfl rfl rfl) ?_
      refine im_st (r_iconst (v := 2) dX10_hedgehog_70 rfl kI_2) ?_
      refine im_br (r_icmp_ge (tgt := 90) dX10_hedgehog_71 rfl (by decide)) (fun c9 => ?_) (fun c9 => ?_)
      · refine im_st (r_iload_n (i := 2) dX10_hedgehog_90 rfl rfl rfl) ?_
        refine im_st (r_iconst (v := 2) dX10_hedgehog_91 rfl kI_2) ?_
        refine im_br (r_icmp_ne (tgt := 110) dX10_hedgehog_92 rfl (by decide)) (fun c10 => ?_) (fun c10 => ?_)
        · refine im_st (r_aload_n (i := 0) dX10_hedgehog_95 rfl rfl rfl) ?_
          refine im_st (s_getR (b := 76) (tag := 10) (j := 0) dX10_hedgehog_96 rfl fl_X10_7 rfl (Nat.le_of_ble_eq_true rfl) rfl rfl) ?_
          refine im_st (r_bipush (v := 18) dX10_hedgehog_99 rfl kB_18) ?_
          refine im_st (r_iload_n (i := 1) dX10_hedgehog_101 rfl rfl rfl) ?_
          refine im_st (r_iadd dX10_hedgehog_102 rfl) ?_
          refine im_grd (fun g11 => ?_)
          refine im_st (s_iaload dX10_hedgehog_103 rfl rfl (Nat.le_of_ble_eq_true rfl) (inR_in g11)) ?_
          refine im_st (r_callS (as := [.int (e8.2.2 76 ((18 : Int32) + a1).toNatClampNeg)]) (r := some (.int (f_X10_losesOf (e8.2.2 76 ((18 : Int32) + a1).toNatClampNeg)))) (kc1 := 0) (ks1 := 0) (st := []) (st1 := [.int (f_X10_losesOf (e8.2.2 76 ((18 : Int32) + a1).toNatClampNeg))]) (e_X10_losesOf (e8.2.2 76 ((18 : Int32) + a1).toNatClampNeg) e8.2.2 τ) ms_X10_losesOf lk_X10_158 ⟨by decide, by decide⟩ ⟨by decide, by decide⟩ (Nat.le_of_ble_eq_true rfl) dX10_hedgehog_104 rfl rfl rfl rfl rfl) ?_
          refine im_st (r_goto (pc1 := 111) dX10_hedgehog_107 (by decide)) ?_
          exact im_ret (fun q => g_iret rfl rfl rfl dX10_hedgehog_111 q)
        · refine im_st (r_iload_n (i := 3) dX10_hedgehog_110 rfl rfl rfl) ?_
          exact im_ret (fun q => g_iret rfl rfl rfl dX10_hedgehog_111 q)
      · refine im_st (r_aload_n (i := 0) dX10_hedgehog_74 rfl rfl rfl) ?_
        refine im_st (s_getR (b := 76) (tag := 10) (j := 0) dX10_hedgehog_75 rfl fl_X10_7 rfl (Nat.le_of_ble_eq_true rfl) rfl rfl) ?_
        refine im_st (r_bipush (v := 18) dX10_hedgehog_78 rfl kB_18) ?_
        refine im_st (r_iconst (v := 4) dX10_hedgehog_80 rfl kI_4) ?_
        refine im_st (r_iload_n (i := 2) dX10_hedgehog_81 rfl rfl rfl) ?_
        refine im_st (r_imul dX10_hedgehog_82 rfl) ?_
        refine im_st (r_iadd dX10_hedgehog_83 rfl) ?_
        refine im_st (r_iload_n (i := 1) dX10_hedgehog_84 rfl rfl rfl) ?_
        refine im_st (r_iadd dX10_hedgehog_85 rfl) ?_
        refine im_app (Gm := fun (v12 : Int32) => Go M_X10_hedgehog Q 0 0 86 [some (.ref 75), some (.int a1), some (.int a2), some (.int e8.1), none] [.int v12, .ref 76] (mk e8.2.2 τ)) (fun v12 => ?_)
        refine im_grd (fun g13 => ?_)
        refine im_st (s_iaload dX10_hedgehog_86 rfl rfl (Nat.le_of_ble_eq_true rfl) (inR_in g13)) ?_
        refine im_st (r_goto (pc1 := 111) dX10_hedgehog_87 (by decide)) ?_
        exact im_ret (fun q => g_iret rfl rfl rfl dX10_hedgehog_111 q)
theorem e_X10_hedgehog (a1 : Int32) (a2 : Int32) (σ : Sg) (τ : Sl) (y : (Int32 × Sg)) (hy : f_X10_hedgehog a1 a2 σ = some y) : EvD M_X10_hedgehog [.ref 75, .int a1, .int a2] (mk σ τ) (some (.int y.1)) (mk y.2 τ) := EvM.of (by decide +kernel) (Nat.le_of_ble_eq_true rfl) (i_X10_hedgehog a1 a2 σ τ _ y hy ⟨rfl, rfl⟩)
def M_X10_suit : Ms := (yX10_suit, cX10_suit, 3, some .int, 3, 77, 0, 0)
theorem mv_X10_suit : MV M_X10_suit 2 := ⟨⟨q1195, q12, by decide, by decide, by decide +kernel⟩, q1193, q1194⟩
def f_X10_suit (a1 : Int32) (a2 : Int32) (σ : Sg) : Option (Int32 × Sg) :=
  if (f_X10_isSuit a1 σ) = 0 then
    some ((-1 : Int32), σ)
  else
    if (f_X10_in (a2.toInt64) (0 : Int64) (2 : Int64)) = 0 then
      some ((-1 : Int32), σ)
    else
      if (2 : Int32) ≤ a2 then
        if inR ((26 : Int32) + a1) 205 then
        if inR ((32 : Int32) + a1) 205 then
        (f_X10_winnerOn (0 : Int32) (σ 76 ((26 : Int32) + a1).toNatClampNeg) (σ 76 ((32 : Int32) + a1).toNatClampNeg) σ).bind fun (y6 : (Int32 × Sg)) =>
        some (y6.1, y6.2)
        else none
        else none
      else
        app (((26 : Int32) + ((6 : Int32) * a2)) + a1) fun (v7 : Int32) =>
        if inR v7 205 then
        some ((σ 76 v7.toNatClampNeg), σ)
        else none
set_option maxHeartbeats 4000000 in
set_option maxRecDepth 20000 in
theorem i_X10_suit (a1 : Int32) (a2 : Int32) (σ : Sg) (τ : Sl) (Q : Option Value → Hp → Prop) : Imp (f_X10_suit a1 a2 σ) (fun (y : (Int32 × Sg)) => Q (some (.int y.1)) (mk y.2 τ)) (Go M_X10_suit Q 0 0 0 [some (.ref 75), some (.int a1), some (.int a2)] [] (mk σ τ)) := by
  unfold f_X10_suit
  refine im_st (r_aload_n (i := 0) dX10_suit_0 rfl rfl rfl) ?_
  refine im_st (r_iload_n (i := 1) dX10_suit_1 rfl rfl rfl) ?_
  refine im_st (r_callV (as := [.int a1]) (r := some (.int (f_X10_isSuit a1 σ))) (kc1 := 0) (ks1 := 0) (st := []) (st1 := [.int (f_X10_isSuit a1 σ)]) (e_X10_isSuit a1 σ τ) mv_X10_isSuit lk_X10_183 ⟨by decide, by decide⟩ rfl (Nat.le_of_ble_eq_true rfl) (by decide) ⟨_, rfl, rfl⟩ ⟨by decide, by decide⟩ (Nat.le_of_ble_eq_true rfl) dX10_suit_2 rfl rfl rfl rfl rfl) ?_
  refine im_br (r_if_eq (tgt := 20) dX10_suit_5 rfl (by decide)) (fun c1 => ?_) (fun c1 => ?_)
  · refine im_st (r_iconst (v := -1) dX10_suit_20 rfl kI_m1) ?_
    exact im_ret (fun q => g_iret rfl rfl rfl dX10_suit_21 q)
  · refine im_st (r_iload_n (i := 2) dX10_suit_8 rfl rfl rfl) ?_
    refine im_st (r_i2l (v := a2.toInt64) dX10_suit_9 rfl rfl) ?_
    refine im_st (r_lconst (v := 0) dX10_suit_10 rfl rfl) ?_
    refine im_st (r_ldc2 (v := 2) dX10_suit_11 rfl q1178) ?_
    refine im_st (r_callS (as := [.long (a2.toInt64), .long (0 : Int64), .long (2 : Int64)]) (r := some (.int (f_X10_in (a2.toInt64) (0 : Int64) (2 : Int64)))) (kc1 := 0) (ks1 := 0) (st := []) (st1 := [.int (f_X10_in (a2.toInt64) (0 : Int64) (2 : Int64))]) (e_X10_in (a2.toInt64) (0 : Int64) (2 : Int64) σ τ) ms_X10_in lk_X10_49 ⟨by decide, by decide⟩ ⟨by decide, by decide⟩ (Nat.le_of_ble_eq_true rfl) dX10_suit_14 rfl rfl rfl rfl rfl) ?_
    refine im_br (r_if_ne (tgt := 22) dX10_suit_17 rfl (by decide)) (fun c2 => ?_) (fun c2 => ?_)
    · refine im_st (r_iconst (v := -1) dX10_suit_20 rfl kI_m1) ?_
      exact im_ret (fun q => g_iret rfl rfl rfl dX10_suit_21 q)
    · refine im_st (r_iload_n (i := 2) dX10_suit_22 rfl rfl rfl) ?_
      refine im_st (r_iconst (v := 2) dX10_suit_23 rfl kI_2) ?_
      refine im_br (r_icmp_ge (tgt := 44) dX10_suit_24 rfl (by decide)) (fun c3 => ?_) (fun c3 => ?_)
      · refine im_st (r_aload_n (i := 0) dX10_suit_44 rfl rfl rfl) ?_
        refine im_st (r_iconst (v := 0) dX10_suit_45 rfl kI_0) ?_
        refine im_st (r_aload_n (i := 0) dX10_suit_46 rfl rfl rfl) ?_
        refine im_st (s_getR (b := 76) (tag := 10) (j := 0) dX10_suit_47 rfl fl_X10_7 rfl (Nat.le_of_ble_eq_true rfl) rfl rfl) ?_
        refine im_st (r_bipush (v := 26) dX10_suit_50 rfl kB_26) ?_
        refine im_st (r_iload_n (i := 1) dX10_suit_52 rfl rfl rfl) ?_
        refine im_st (r_iadd dX10_suit_53 rfl) ?_
        refine im_grd (fun g4 => ?_)
        refine im_st (s_iaload dX10_suit_54 rfl rfl (Nat.le_of_ble_eq_true rfl) (inR_in g4)) ?_
        refine im_st (r_aload_n (i := 0) dX10_suit_55 rfl rfl rfl) ?_
        refine im_st (s_getR (b := 76) (tag := 10) (j := 0) dX10_suit_56 rfl fl_X10_7 rfl (Nat.le_of_ble_eq_true rfl) rfl rfl) ?_
        refine im_st (r_bipush (v := 32) dX10_suit_59 rfl kB_32) ?_
        refine im_st (r_iload_n (i := 1) dX10_suit_61 rfl rfl rfl) ?_
        refine im_st (r_iadd dX10_suit_62 rfl) ?_
        refine im_grd (fun g5 => ?_)
        refine im_st (s_iaload dX10_suit_63 rfl rfl (Nat.le_of_ble_eq_true rfl) (inR_in g5)) ?_
        refine im_bind (fun y6 hy6 => ?_)
        refine im_st (r_callV (as := [.int (0 : Int32), .int (σ 76 ((26 : Int32) + a1).toNatClampNeg), .int (σ 76 ((32 : Int32) + a1).toNatClampNeg)]) (r := some (.int y6.1)) (kc1 := 0) (ks1 := 0) (st := []) (st1 := [.int y6.1]) (e_X10_winnerOn (0 : Int32) (σ 76 ((26 : Int32) + a1).toNatClampNeg) (σ 76 ((32 : Int32) + a1).toNatClampNeg) σ τ y6 hy6) mv_X10_winnerOn lk_X10_168 ⟨by decide, by decide⟩ rfl (Nat.le_of_ble_eq_true rfl) (by decide) ⟨_, rfl, rfl⟩ ⟨by decide, by decide⟩ (Nat.le_of_ble_eq_true rfl) dX10_suit_64 rfl rfl rfl rfl rfl) ?_
        exact im_ret (fun q => g_iret rfl rfl rfl dX10_suit_67 q)
      · refine im_st (r_aload_n (i := 0) dX10_suit_27 rfl rfl rfl) ?_
        refine im_st (s_getR (b := 76) (tag := 10) (j := 0) dX10_suit_28 rfl fl_X10_7 rfl (Nat.le_of_ble_eq_true rfl) rfl rfl) ?_
        refine im_st (r_bipush (v := 26) dX10_suit_31 rfl kB_26) ?_
        refine im_st (r_bipush (v := 6) dX10_suit_33 rfl kB_6) ?_
        refine im_st (r_iload_n (i := 2) dX10_suit_35 rfl rfl rfl) ?_
        refine im_st (r_imul dX10_suit_36 rfl) ?_
        refine im_st (r_iadd dX10_suit_37 rfl) ?_
        refine im_st (r_iload_n (i := 1) dX10_suit_38 rfl rfl rfl) ?_
        refine im_st (r_iadd dX10_suit_39 rfl) ?_
        refine im_app (Gm := fun (v7 : Int32) => Go M_X10_suit Q 0 0 40 [some (.ref 75), some (.int a1), some (.int a2)] [.int v7, .ref 76] (mk σ τ)) (fun v7 => ?_)
        refine im_grd (fun g8 => ?_)
        refine im_st (s_iaload dX10_suit_40 rfl rfl (Nat.le_of_ble_eq_true rfl) (inR_in g8)) ?_
        refine im_st (r_goto (pc1 := 67) dX10_suit_41 (by decide)) ?_
        exact im_ret (fun q => g_iret rfl rfl rfl dX10_suit_67 q)
theorem e_X10_suit (a1 : Int32) (a2 : Int32) (σ : Sg) (τ : Sl) (y : (Int32 × Sg)) (hy : f_X10_suit a1 a2 σ = some y) : EvD M_X10_suit [.ref 75, .int a1, .int a2] (mk σ τ) (some (.int y.1)) (mk y.2 τ) := EvM.of (by decide +kernel) (Nat.le_of_ble_eq_true rfl) (i_X10_suit a1 a2 σ τ _ y hy ⟨rfl, rfl⟩)
def M_X10_puts : Ms := (yX10_puts, cX10_puts, 5, some .int, 0, 0, 0, 0)
theorem mv_X10_puts : MV M_X10_puts 3 := ⟨⟨q1214, q12, by decide, by decide, by decide +kernel⟩, q1213, p42⟩
def f_X10_puts (a1 : Int32) (a2 : Int32) (a3 : Int32) (σ : Sg) : Option (Int32 × Sg) :=
  if a1 = 0 then
    some ((-1 : Int32), σ)
  else
    if inR a2 205 then
    if inR a2 205 then
    some ((σ 76 a2.toNatClampNeg), (up2 σ 76 a2.toNatClampNeg a3))
    else none
    else none
set_option maxHeartbeats 4000000 in
set_option maxRecDepth 20000 in
theorem i_X10_puts (a1 : Int32) (a2 : Int32) (a3 : Int32) (σ : Sg) (τ : Sl) (Q : Option Value → Hp → Prop) : Imp (f_X10_puts a1 a2 a3 σ) (fun (y : (Int32 × Sg)) => Q (some (.int y.1)) (mk y.2 τ)) (Go M_X10_puts Q 0 0 0 [some (.ref 75), some (.int a1), some (.int a2), some (.int a3), none] [] (mk σ τ)) := by
  unfold f_X10_puts
  refine im_st (r_iload_n (i := 1) dX10_puts_0 rfl rfl rfl) ?_
  refine im_br (r_if_ne (tgt := 6) dX10_puts_1 rfl (by decide)) (fun c1 => ?_) (fun c1 => ?_)
  · refine im_st (r_iconst (v := -1) dX10_puts_4 rfl kI_m1) ?_
    exact im_ret (fun q => g_iret rfl rfl rfl dX10_puts_5 q)
  · refine im_st (r_aload_n (i := 0) dX10_puts_6 rfl rfl rfl) ?_
    refine im_st (s_getR (b := 76) (tag := 10) (j := 0) dX10_puts_7 rfl fl_X10_7 rfl (Nat.le_of_ble_eq_true rfl) rfl rfl) ?_
    refine im_st (r_iload_n (i := 2) dX10_puts_10 rfl rfl rfl) ?_
    refine im_grd (fun g2 => ?_)
    refine im_st (s_iaload dX10_puts_11 rfl rfl (Nat.le_of_ble_eq_true rfl) (inR_in g2)) ?_
    refine im_st (r_istore (i := 4) (L1 := [some (.ref 75), some (.int a1), some (.int a2), some (.int a3), some (.int (σ 76 a2.toNatClampNeg))]) dX10_puts_12 rfl (by decide) rfl) ?_
    refine im_st (r_aload_n (i := 0) dX10_puts_14 rfl rfl rfl) ?_
    refine im_st (s_getR (b := 76) (tag := 10) (j := 0) dX10_puts_15 rfl fl_X10_7 rfl (Nat.le_of_ble_eq_true rfl) rfl rfl) ?_
    refine im_st (r_iload_n (i := 2) dX10_puts_18 rfl rfl rfl) ?_
    refine im_st (r_iload_n (i := 3) dX10_puts_19 rfl rfl rfl) ?_
    refine im_grd (fun g3 => ?_)
    refine im_st (s_iastore dX10_puts_20 rfl rfl (Nat.le_of_ble_eq_true rfl) (inR_in g3)) ?_
    refine im_st (r_iload (i := 4) dX10_puts_21 rfl rfl) ?_
    exact im_ret (fun q => g_iret rfl rfl rfl dX10_puts_23 q)
theorem e_X10_puts (a1 : Int32) (a2 : Int32) (a3 : Int32) (σ : Sg) (τ : Sl) (y : (Int32 × Sg)) (hy : f_X10_puts a1 a2 a3 σ = some y) : EvD M_X10_puts [.ref 75, .int a1, .int a2, .int a3] (mk σ τ) (some (.int y.1)) (mk y.2 τ) := EvM.of (by decide +kernel) (Nat.le_of_ble_eq_true rfl) (i_X10_puts a1 a2 a3 σ τ _ y hy ⟨rfl, rfl⟩)
def M_X10_shift : Ms := (yX10_shift, cX10_shift, 3, some .int, 2, 46, 0, 0)
theorem mv_X10_shift : MV M_X10_shift 2 := ⟨⟨q1203, q12, by decide, by decide, by decide +kernel⟩, q1201, q1202⟩
def f_X10_shift (a1 : Int32) (a2 : Int32) (σ : Sg) : Option (Int32 × Sg) :=
  if (f_X10_isPeg a1 σ) = 0 then
    some ((-1 : Int32), σ)
  else
    if (f_X10_isCell a2) = 0 then
      some ((-1 : Int32), σ)
    else
      (f_X10_isFreeOn (0 : Int32) a2 σ).bind fun (y3 : Int32) =>
      if y3 = 0 then
        (f_X10_pegOn (0 : Int32) a2 σ).bind fun (y5 : Int32) =>
        if y5 = a1 then
          (f_X10_puts (1 : Int32) a1 a2 σ).bind fun (y7 : (Int32 × Sg)) =>
          some (y7.1, y7.2)
        else
          some ((-2 : Int32), σ)
      else
        (f_X10_puts (1 : Int32) a1 a2 σ).bind fun (y8 : (Int32 × Sg)) =>
        some (y8.1, y8.2)
set_option maxHeartbeats 4000000 in
set_option maxRecDepth 20000 in
theorem i_X10_shift (a1 : Int32) (a2 : Int32) (σ : Sg) (τ : Sl) (Q : Option Value → Hp → Prop) : Imp (f_X10_shift a1 a2 σ) (fun (y : (Int32 × Sg)) => Q (some (.int y.1)) (mk y.2 τ)) (Go M_X10_shift Q 0 0 0 [some (.ref 75), some (.int a1), some (.int a2)] [] (mk σ τ)) := by
  unfold f_X10_shift
  refine im_st (r_aload_n (i := 0) dX10_shift_0 rfl rfl rfl) ?_
  refine im_st (r_iload_n (i := 1) dX10_shift_1 rfl rfl rfl) ?_
  refine im_st (r_callV (as := [.int a1]) (r := some (.int (f_X10_isPeg a1 σ))) (kc1 := 0) (ks1 := 0) (st := []) (st1 := [.int (f_X10_isPeg a1 σ)]) (e_X10_isPeg a1 σ τ) mv_X10_isPeg lk_X10_175 ⟨by decide, by decide⟩ rfl (Nat.le_of_ble_eq_true rfl) (by decide) ⟨_, rfl, rfl⟩ ⟨by decide, by decide⟩ (Nat.le_of_ble_eq_true rfl) dX10_shift_2 rfl rfl rfl rfl rfl) ?_
  refine im_br (r_if_eq (tgt := 15) dX10_shift_5 rfl (by decide)) (fun c1 => ?_) (fun c1 => ?_)
  · refine im_st (r_iconst (v := -1) dX10_shift_15 rfl kI_m1) ?_
    exact im_ret (fun q => g_iret rfl rfl rfl dX10_shift_16 q)
  · refine im_st (r_iload_n (i := 2) dX10_shift_8 rfl rfl rfl) ?_
    refine im_st (r_callS (as := [.int a2]) (r := some (.int (f_X10_isCell a2))) (kc1 := 0) (ks1 := 0) (st := []) (st1 := [.int (f_X10_isCell a2)]) (e_X10_isCell a2 σ τ) ms_X10_isCell lk_X10_186 ⟨by decide, by decide⟩ ⟨by decide, by decide⟩ (Nat.le_of_ble_eq_true rfl) dX10_shift_9 rfl rfl rfl rfl rfl) ?_
    refine im_br (r_if_ne (tgt := 17) dX10_shift_12 rfl (by decide)) (fun c2 => ?_) (fun c2 => ?_)
    · refine im_st (r_iconst (v := -1) dX10_shift_15 rfl kI_m1) ?_
      exact im_ret (fun q => g_iret rfl rfl rfl dX10_shift_16 q)
    · refine im_st (r_aload_n (i := 0) dX10_shift_17 rfl rfl rfl) ?_
      refine im_st (r_iconst (v := 0) dX10_shift_18 rfl kI_0) ?_
      refine im_st (r_iload_n (i := 2) dX10_shift_19 rfl rfl rfl) ?_
      refine im_bind (fun y3 hy3 => ?_)
      refine im_st (r_callV (as := [.int (0 : Int32), .int a2]) (r := some (.int y3)) (kc1 := 0) (ks1 := 0) (st := []) (st1 := [.int y3]) (e_X10_isFreeOn (0 : Int32) a2 σ τ y3 hy3) mv_X10_isFreeOn lk_X10_189 ⟨by decide, by decide⟩ rfl (Nat.le_of_ble_eq_true rfl) (by decide) ⟨_, rfl, rfl⟩ ⟨by decide, by decide⟩ (Nat.le_of_ble_eq_true rfl) dX10_shift_20 rfl rfl rfl rfl rfl) ?_
      refine im_br (r_if_ne (tgt := 36) dX10_shift_23 rfl (by decide)) (fun c4 => ?_) (fun c4 => ?_)
      · refine im_st (r_aload_n (i := 0) dX10_shift_26 rfl rfl rfl) ?_
        refine im_st (r_iconst (v := 0) dX10_shift_27 rfl kI_0) ?_
        refine im_st (r_iload_n (i := 2) dX10_shift_28 rfl rfl rfl) ?_
        refine im_bind (fun y5 hy5 => ?_)
        refine im_st (r_callV (as := [.int (0 : Int32), .int a2]) (r := some (.int y5)) (kc1 := 0) (ks1 := 0) (st := []) (st1 := [.int y5]) (e_X10_pegOn (0 : Int32) a2 σ τ y5 hy5) mv_X10_pegOn lk_X10_139 ⟨by decide, by decide⟩ rfl (Nat.le_of_ble_eq_true rfl) (by decide) ⟨_, rfl, rfl⟩ ⟨by decide, by decide⟩ (Nat.le_of_ble_eq_true rfl) dX10_shift_29 rfl rfl rfl rfl rfl) ?_
        refine im_st (r_iload_n (i := 1) dX10_shift_32 rfl rfl rfl) ?_
        refine im_br (r_icmp_ne (tgt := 46) dX10_shift_33 rfl (by decide)) (fun c6 => ?_) (fun c6 => ?_)
        · refine im_st (r_aload_n (i := 0) dX10_shift_36 rfl rfl rfl) ?_
          refine im_st (r_iconst (v := 1) dX10_shift_37 rfl kI_1) ?_
          refine im_st (r_iload_n (i := 1) dX10_shift_38 rfl rfl rfl) ?_
          refine im_st (r_iload_n (i := 2) dX10_shift_39 rfl rfl rfl) ?_
          refine im_bind (fun y7 hy7 => ?_)
          refine im_st (r_callV (as := [.int (1 : Int32), .int a1, .int a2]) (r := some (.int y7.1)) (kc1 := 0) (ks1 := 0) (st := []) (st1 := [.int y7.1]) (e_X10_puts (1 : Int32) a1 a2 σ τ y7 hy7) mv_X10_puts lk_X10_193 ⟨by decide, by decide⟩ rfl (Nat.le_of_ble_eq_true rfl) (by decide) ⟨_, rfl, rfl⟩ ⟨by decide, by decide⟩ (Nat.le_of_ble_eq_true rfl) dX10_shift_40 rfl rfl rfl rfl rfl) ?_
          refine im_st (r_goto (pc1 := 48) dX10_shift_43 (by decide)) ?_
          exact im_ret (fun q => g_iret rfl rfl rfl dX10_shift_48 q)
        · refine im_st (r_bipush (v := -2) dX10_shift_46 rfl kB_m2) ?_
          exact im_ret (fun q => g_iret rfl rfl rfl dX10_shift_48 q)
      · refine im_st (r_aload_n (i := 0) dX10_shift_36 rfl rfl rfl) ?_
        refine im_st (r_iconst (v := 1) dX10_shift_37 rfl kI_1) ?_
        refine im_st (r_iload_n (i := 1) dX10_shift_38 rfl rfl rfl) ?_
        refine im_st (r_iload_n (i := 2) dX10_shift_39 rfl rfl rfl) ?_
        refine im_bind (fun y8 hy8 => ?_)
        refine im_st (r_callV (as := [.int (1 : Int32), .int a1, .int a2]) (r := some (.int y8.1)) (kc1 := 0) (ks1 := 0) (st := []) (st1 := [.int y8.1]) (e_X10_puts (1 : Int32) a1 a2 σ τ y8 hy8) mv_X10_puts lk_X10_193 ⟨by decide, by decide⟩ rfl (Nat.le_of_ble_eq_true rfl) (by decide) ⟨_, rfl, rfl⟩ ⟨by decide, by decide⟩ (Nat.le_of_ble_eq_true rfl) dX10_shift_40 rfl rfl rfl rfl rfl) ?_
        refine im_st (r_goto (pc1 := 48) dX10_shift_43 (by decide)) ?_
        exact im_ret (fun q => g_iret rfl rfl rfl dX10_shift_48 q)
theorem e_X10_shift (a1 : Int32) (a2 : Int32) (σ : Sg) (τ : Sl) (y : (Int32 × Sg)) (hy : f_X10_shift a1 a2 σ = some y) : EvD M_X10_shift [.ref 75, .int a1, .int a2] (mk σ τ) (some (.int y.1)) (mk y.2 τ) := EvM.of (by decide +kernel) (Nat.le_of_ble_eq_true rfl) (i_X10_shift a1 a2 σ τ _ y hy ⟨rfl, rfl⟩)
def M_X10_rag : Ms := (yX10_rag, cX10_rag, 3, some .int, 2, 46, 0, 0)
theorem mv_X10_rag : MV M_X10_rag 2 := ⟨⟨q1218, q12, by decide, by decide, by decide +kernel⟩, q1216, q1217⟩
def f_X10_rag (a1 : Int32) (a2 : Int32) (σ : Sg) : Option (Int32 × Sg) :=
  app (if (f_X10_isPeg a1 σ) = 0 then
    (0 : Int32)
  else
    if (f_X10_isRag a2) = 0 then
      (0 : Int32)
    else
      (1 : Int32)) fun (j1 : Int32) =>
  (f_X10_puts j1 ((7 : Int32) + a1) a2 σ).bind fun (y4 : (Int32 × Sg)) =>
  some (y4.1, y4.2)
set_option maxHeartbeats 4000000 in
set_option maxRecDepth 20000 in
theorem i_X10_rag (a1 : Int32) (a2 : Int32) (σ : Sg) (τ : Sl) (Q : Option Value → Hp → Prop) : Imp (f_X10_rag a1 a2 σ) (fun (y : (Int32 × Sg)) => Q (some (.int y.1)) (mk y.2 τ)) (Go M_X10_rag Q 0 0 0 [some (.ref 75), some (.int a1), some (.int a2)] [] (mk σ τ)) := by
  unfold f_X10_rag
  refine im_st (r_aload_n (i := 0) dX10_rag_0 rfl rfl rfl) ?_
  refine im_st (r_aload_n (i := 0) dX10_rag_1 rfl rfl rfl) ?_
  refine im_st (r_iload_n (i := 1) dX10_rag_2 rfl rfl rfl) ?_
  refine im_st (r_callV (as := [.int a1]) (r := some (.int (f_X10_isPeg a1 σ))) (kc1 := 0) (ks1 := 0) (st := [.ref 75]) (st1 := [.int (f_X10_isPeg a1 σ), .ref 75]) (e_X10_isPeg a1 σ τ) mv_X10_isPeg lk_X10_175 ⟨by decide, by decide⟩ rfl (Nat.le_of_ble_eq_true rfl) (by decide) ⟨_, rfl, rfl⟩ ⟨by decide, by decide⟩ (Nat.le_of_ble_eq_true rfl) dX10_rag_3 rfl rfl rfl rfl rfl) ?_
  refine im_seqT (Gm := fun (j1 : Int32) => Go M_X10_rag Q 0 0 21 [none, some (.int a1), some (.int a2)] [.int j1, .ref 75] (mk σ τ)) ?_ (fun j1 => ?_)
  · refine im_brS (r_if_eq (tgt := 20) dX10_rag_6 rfl (by decide)) (fun c2 => ?_) (fun c2 => ?_)
    · refine im_st (r_iconst (v := 0) dX10_rag_20 rfl kI_0) ?_
      refine im_st (r_fgt (L1 := [none, some (.int a1), some (.int a2)]) [0] rfl) ?_
      exact im_ret id
    · refine im_st (r_iload_n (i := 2) dX10_rag_9 rfl rfl rfl) ?_
      refine im_st (r_callS (as := [.int a2]) (r := some (.int (f_X10_isRag a2))) (kc1 := 0) (ks1 := 0) (st := [.ref 75]) (st1 := [.int (f_X10_isRag a2), .ref 75]) (e_X10_isRag a2 σ τ) ms_X10_isRag lk_X10_197 ⟨by decide, by decide⟩ ⟨by decide, by decide⟩ (Nat.le_of_ble_eq_true rfl) dX10_rag_10 rfl rfl rfl rfl rfl) ?_
      refine im_brS (r_if_eq (tgt := 20) dX10_rag_13 rfl (by decide)) (fun c3 => ?_) (fun c3 => ?_)
      · refine im_st (r_iconst (v := 0) dX10_rag_20 rfl kI_0) ?_
        refine im_st (r_fgt (L1 := [none, some (.int a1), some (.int a2)]) [0] rfl) ?_
        exact im_ret id
      · refine im_st (r_iconst (v := 1) dX10_rag_16 rfl kI_1) ?_
        refine im_st (r_goto (pc1 := 21) dX10_rag_17 (by decide)) ?_
        refine im_st (r_fgt (L1 := [none, some (.int a1), some (.int a2)]) [0] rfl) ?_
        exact im_ret id
  refine im_st (r_bipush (v := 7) dX10_rag_21 rfl kB_7) ?_
  refine im_st (r_iload_n (i := 1) dX10_rag_23 rfl rfl rfl) ?_
  refine im_st (r_iadd dX10_rag_24 rfl) ?_
  refine im_st (r_iload_n (i := 2) dX10_rag_25 rfl rfl rfl) ?_
  refine im_bind (fun y4 hy4 => ?_)
  refine im_st (r_callV (as := [.int j1, .int ((7 : Int32) + a1), .int a2]) (r := some (.int y4.1)) (kc1 := 0) (ks1 := 0) (st := []) (st1 := [.int y4.1]) (e_X10_puts j1 ((7 : Int32) + a1) a2 σ τ y4 hy4) mv_X10_puts lk_X10_193 ⟨by decide, by decide⟩ rfl (Nat.le_of_ble_eq_true rfl) (by decide) ⟨_, rfl, rfl⟩ ⟨by decide, by decide⟩ (Nat.le_of_ble_eq_true rfl) dX10_rag_26 rfl rfl rfl rfl rfl) ?_
  exact im_ret (fun q => g_iret rfl rfl rfl dX10_rag_29 q)
theorem e_X10_rag (a1 : Int32) (a2 : Int32) (σ : Sg) (τ : Sl) (y : (Int32 × Sg)) (hy : f_X10_rag a1 a2 σ = some y) : EvD M_X10_rag [.ref 75, .int a1, .int a2] (mk σ τ) (some (.int y.1)) (mk y.2 τ) := EvM.of (by decide +kernel) (Nat.le_of_ble_eq_true rfl) (i_X10_rag a1 a2 σ τ _ y hy ⟨rfl, rfl⟩)
def M_X10_alter : Ms := (yX10_alter, cX10_alter, 5, some .int, 2, 46, 0, 0)
theorem mv_X10_alter : MV M_X10_alter 3 := ⟨⟨q1225, q12, by decide, by decide, by decide +kernel⟩, q1223, q1224⟩
def f_X10_alter (a1 : Int32) (a2 : Int32) (a3 : Int32) (σ : Sg) : Option (Int32 × Sg) :=
  app (if a2 = 0 then
    (f_X10_in (a3.toInt64) (0 : Int64) (3 : Int64))
  else
    if a2 = (1 : Int32) then
      if (f_X10_in (a3.toInt64) (1 : Int64) (9 : Int64)) = 0 then
        (0 : Int32)
      else
        (1 : Int32)
    else
      (0 : Int32)) fun (j1 : Int32) =>
  app (if (f_X10_isHog a1 σ) = 0 then
    (0 : Int32)
  else
    if j1 = 0 then
      (0 : Int32)
    else
      (1 : Int32)) fun (j5 : Int32) =>
  (f_X10_puts j5 (((18 : Int32) + ((4 : Int32) * a2)) + a1) a3 σ).bind fun (y8 : (Int32 × Sg)) =>
  some (y8.1, y8.2)
set_option maxHeartbeats 4000000 in
set_option maxRecDepth 20000 in
theorem i_X10_alter (a1 : Int32) (a2 : Int32) (a3 : Int32) (σ : Sg) (τ : Sl) (Q : Option Value → Hp → Prop) : Imp (f_X10_alter a1 a2 a3 σ) (fun (y : (Int32 × Sg)) => Q (some (.int y.1)) (mk y.2 τ)) (Go M_X10_alter Q 0 0 0 [some (.ref 75), some (.int a1), some (.int a2), some (.int a3), none] [] (mk σ τ)) := by
  unfold f_X10_alter
  refine im_st (r_iload_n (i := 2) dX10_alter_0 rfl rfl rfl) ?_
  refine im_seqT (Gm := fun (j1 : Int32) => Go M_X10_alter Q 0 0 38 [some (.ref 75), some (.int a1), some (.int a2), some (.int a3), none] [.int j1] (mk σ τ)) ?_ (fun j1 => ?_)
  · refine im_brS (r_if_ne (tgt := 16) dX10_alter_1 rfl (by decide)) (fun c2 => ?_) (fun c2 => ?_)
    · refine im_st (r_iload_n (i := 3) dX10_alter_4 rfl rfl rfl) ?_
      refine im_st (r_i2l (v := a3.toInt64) dX10_alter_5 rfl rfl) ?_
      refine im_st (r_lconst (v := 0) dX10_alter_6 rfl rfl) ?_
      refine im_st (r_ldc2 (v := 3) dX10_alter_7 rfl q1191) ?_
      refine im_st (r_callS (as := [.long (a3.toInt64), .long (0 : Int64), .long (3 : Int64)]) (r := some (.int (f_X10_in (a3.toInt64) (0 : Int64) (3 : Int64)))) (kc1 := 0) (ks1 := 0) (st := []) (st1 := [.int (f_X10_in (a3.toInt64) (0 : Int64) (3 : Int64))]) (e_X10_in (a3.toInt64) (0 : Int64) (3 : Int64) σ τ) ms_X10_in lk_X10_49 ⟨by decide, by decide⟩ ⟨by decide, by decide⟩ (Nat.le_of_ble_eq_true rfl) dX10_alter_10 rfl rfl rfl rfl rfl) ?_
      refine im_st (r_goto (pc1 := 38) dX10_alter_13 (by decide)) ?_
      exact im_ret id
    · refine im_st (r_iload_n (i := 2) dX10_alter_16 rfl rfl rfl) ?_
      refine im_st (r_iconst (v := 1) dX10_alter_17 rfl kI_1) ?_
      refine im_brS (r_icmp_ne (tgt := 37) dX10_alter_18 rfl (by decide)) (fun c3 => ?_) (fun c3 => ?_)
      · refine im_st (r_iload_n (i := 3) dX10_alter_21 rfl rfl rfl) ?_
        refine im_st (r_i2l (v := a3.toInt64) dX10_alter_22 rfl rfl) ?_
        refine im_st (r_lconst (v := 1) dX10_alter_23 rfl rfl) ?_
        refine im_st (r_ldc2 (v := 9) dX10_alter_24 rfl q1226) ?_
        refine im_st (r_callS (as := [.long (a3.toInt64), .long (1 : Int64), .long (9 : Int64)]) (r := some (.int (f_X10_in (a3.toInt64) (1 : Int64) (9 : Int64)))) (kc1 := 0) (ks1 := 0) (st := []) (st1 := [.int (f_X10_in (a3.toInt64) (1 : Int64) (9 : Int64))]) (e_X10_in (a3.toInt64) (1 : Int64) (9 : Int64) σ τ) ms_X10_in lk_X10_49 ⟨by decide, by decide⟩ ⟨by decide, by decide⟩ (Nat.le_of_ble_eq_true rfl) dX10_alter_27 rfl rfl rfl rfl rfl) ?_
        refine im_brS (r_if_eq (tgt := 37) dX10_alter_30 rfl (by decide)) (fun c4 => ?_) (fun c4 => ?_)
        · refine im_st (r_iconst (v := 0) dX10_alter_37 rfl kI_0) ?_
          exact im_ret id
        · refine im_st (r_iconst (v := 1) dX10_alter_33 rfl kI_1) ?_
          refine im_st (r_goto (pc1 := 38) dX10_alter_34 (by decide)) ?_
          exact im_ret id
      · refine im_st (r_iconst (v := 0) dX10_alter_37 rfl kI_0) ?_
        exact im_ret id
  refine im_st (r_istore (i := 4) (L1 := [some (.ref 75), some (.int a1), some (.int a2), some (.int a3), some (.int j1)]) dX10_alter_38 rfl (by decide) rfl) ?_
  refine im_st (r_aload_n (i := 0) dX10_alter_40 rfl rfl rfl) ?_
  refine im_st (r_aload_n (i := 0) dX10_alter_41 rfl rfl rfl) ?_
  refine im_st (r_iload_n (i := 1) dX10_alter_42 rfl rfl rfl) ?_
  refine im_st (r_callV (as := [.int a1]) (r := some (.int (f_X10_isHog a1 σ))) (kc1 := 0) (ks1 := 0) (st := [.ref 75]) (st1 := [.int (f_X10_isHog a1 σ), .ref 75]) (e_X10_isHog a1 σ τ) mv_X10_isHog lk_X10_180 ⟨by decide, by decide⟩ rfl (Nat.le_of_ble_eq_true rfl) (by decide) ⟨_, rfl, rfl⟩ ⟨by decide, by decide⟩ (Nat.le_of_ble_eq_true rfl) dX10_alter_43 rfl rfl rfl rfl rfl) ?_
  refine im_seqT (Gm := fun (j5 : Int32) => Go M_X10_alter Q 0 0 59 [none, some (.int a1), some (.int a2), some (.int a3), none] [.int j5, .ref 75] (mk σ τ)) ?_ (fun j5 => ?_)
  · refine im_brS (r_if_eq (tgt := 58) dX10_alter_46 rfl (by decide)) (fun c6 => ?_) (fun c6 => ?_)
    · refine im_st (r_iconst (v := 0) dX10_alter_58 rfl kI_0) ?_
      refine im_st (r_fgt (L1 := [none, some (.int a1), some (.int a2), some (.int a3), none]) [0, 4] rfl) ?_
      exact im_ret id
    · refine im_st (r_iload (i := 4) dX10_alter_49 rfl rfl) ?_
      refine im_brS (r_if_eq (tgt := 58) dX10_alter_51 rfl (by decide)) (fun c7 => ?_) (fun c7 => ?_)
      · refine im_st (r_iconst (v := 0) dX10_alter_58 rfl kI_0) ?_
        refine im_st (r_fgt (L1 := [none, some (.int a1), some (.int a2), some (.int a3), none]) [0, 4] rfl) ?_
        exact im_ret id
      · refine im_st (r_iconst (v := 1) dX10_alter_54 rfl kI_1) ?_
        refine im_st (r_goto (pc1 := 59) dX10_alter_55 (by decide)) ?_
        refine im_st (r_fgt (L1 := [none, some (.int a1), some (.int a2), some (.int a3), none]) [0, 4] rfl) ?_
        exact im_ret id
  refine im_st (r_bipush (v := 18) dX10_alter_59 rfl kB_18) ?_
  refine im_st (r_iconst (v := 4) dX10_alter_61 rfl kI_4) ?_
  refine im_st (r_iload_n (i := 2) dX10_alter_62 rfl rfl rfl) ?_
  refine im_st (r_imul dX10_alter_63 rfl) ?_
  refine im_st (r_iadd dX10_alter_64 rfl) ?_
  refine im_st (r_iload_n (i := 1) dX10_alter_65 rfl rfl rfl) ?_
  refine im_st (r_iadd dX10_alter_66 rfl) ?_
  refine im_st (r_iload_n (i := 3) dX10_alter_67 rfl rfl rfl) ?_
  refine im_bind (fun y8 hy8 => ?_)
  refine im_st (r_callV (as := [.int j5, .int (((18 : Int32) + ((4 : Int32) * a2)) + a1), .int a3]) (r := some (.int y8.1)) (kc1 := 0) (ks1 := 0) (st := []) (st1 := [.int y8.1]) (e_X10_puts j5 (((18 : Int32) + ((4 : Int32) * a2)) + a1) a3 σ τ y8 hy8) mv_X10_puts lk_X10_193 ⟨by decide, by decide⟩ rfl (Nat.le_of_ble_eq_true rfl) (by decide) ⟨_, rfl, rfl⟩ ⟨by decide, by decide⟩ (Nat.le_of_ble_eq_true rfl) dX10_alter_68 rfl rfl rfl rfl rfl) ?_
  exact im_ret (fun q => g_iret rfl rfl rfl dX10_alter_71 q)
theorem e_X10_alter (a1 : Int32) (a2 : Int32) (a3 : Int32) (σ : Sg) (τ : Sl) (y : (Int32 × Sg)) (hy : f_X10_alter a1 a2 a3 σ = some y) : EvD M_X10_alter [.ref 75, .int a1, .int a2, .int a3] (mk σ τ) (some (.int y.1)) (mk y.2 τ) := EvM.of (by decide +kernel) (Nat.le_of_ble_eq_true rfl) (i_X10_alter a1 a2 a3 σ τ _ y hy ⟨rfl, rfl⟩)
def M_X10_drivesOn : Ms := (yX10_drivesOn, cX10_drivesOn, 5, none, 0, 0, 0, 0)
theorem mv_X10_drivesOn : MV M_X10_drivesOn 3 := ⟨⟨q1238, q12, by decide, by decide, by decide +kernel⟩, q1237, p44⟩
def f_X10_drivesOn (a1 : Int32) (a2 : Int32) (a3 : Int32) (σ : Sg) : Option Sg :=
  if inR (a1 + (38 : Int32)) 205 then
  app (σ 76 (a1 + (38 : Int32)).toNatClampNeg) fun (v2 : Int32) =>
  if inR (a1 + v2) 205 then
  app (up2 σ 76 (a1 + v2).toNatClampNeg a2) fun (σ4 : Sg) =>
  if inR ((a1 + (7 : Int32)) + v2) 205 then
  app (up2 σ4 76 ((a1 + (7 : Int32)) + v2).toNatClampNeg a3) fun (σ6 : Sg) =>
  if inR (a1 + (38 : Int32)) 205 then
  if inR (a1 + (38 : Int32)) 205 then
  some (up2 σ6 76 (a1 + (38 : Int32)).toNatClampNeg ((σ6 76 (a1 + (38 : Int32)).toNatClampNeg) + (1 : Int32)))
  else none
  else none
  else none
  else none
  else none
set_option maxHeartbeats 4000000 in
set_option maxRecDepth 20000 in
theorem i_X10_drivesOn (a1 : Int32) (a2 : Int32) (a3 : Int32) (σ : Sg) (τ : Sl) (Q : Option Value → Hp → Prop) : Imp (f_X10_drivesOn a1 a2 a3 σ) (fun (y : Sg) => Q (none) (mk y τ)) (Go M_X10_drivesOn Q 0 0 0 [some (.ref 75), some (.int a1), some (.int a2), some (.int a3), none] [] (mk σ τ)) := by
  unfold f_X10_drivesOn
  refine im_st (r_aload_n (i := 0) dX10_drivesOn_0 rfl rfl rfl) ?_
  refine im_st (s_getR (b := 76) (tag := 10) (j := 0) dX10_drivesOn_1 rfl fl_X10_7 rfl (Nat.le_of_ble_eq_true rfl) rfl rfl) ?_
  refine im_st (r_iload_n (i := 1) dX10_drivesOn_4 rfl rfl rfl) ?_
  refine im_st (r_bipush (v := 38) dX10_drivesOn_5 rfl kB_38) ?_
  refine im_st (r_iadd dX10_drivesOn_7 rfl) ?_
  refine im_grd (fun g1 => ?_)
  refine im_st (s_iaload dX10_drivesOn_8 rfl rfl (Nat.le_of_ble_eq_true rfl) (inR_in g1)) ?_
  refine im_app (Gm := fun (v2 : Int32) => Go M_X10_drivesOn Q 0 0 9 [some (.ref 75), some (.int a1), some (.int a2), some (.int a3), none] [.int v2] (mk σ τ)) (fun v2 => ?_)
  refine im_st (r_istore (i := 4) (L1 := [some (.ref 75), some (.int a1), some (.int a2), some (.int a3), some (.int v2)]) dX10_drivesOn_9 rfl (by decide) rfl) ?_
  refine im_st (r_aload_n (i := 0) dX10_drivesOn_11 rfl rfl rfl) ?_
  refine im_st (s_getR (b := 76) (tag := 10) (j := 0) dX10_drivesOn_12 rfl fl_X10_7 rfl (Nat.le_of_ble_eq_true rfl) rfl rfl) ?_
  refine im_st (r_iload_n (i := 1) dX10_drivesOn_15 rfl rfl rfl) ?_
  refine im_st (r_iload (i := 4) dX10_drivesOn_16 rfl rfl) ?_
  refine im_st (r_iadd dX10_drivesOn_18 rfl) ?_
  refine im_st (r_iload_n (i := 2) dX10_drivesOn_19 rfl rfl rfl) ?_
  refine im_grd (fun g3 => ?_)
  refine im_st (s_iastore dX10_drivesOn_20 rfl rfl (Nat.le_of_ble_eq_true rfl) (inR_in g3)) ?_
  refine im_st (r_aload_n (i := 0) dX10_drivesOn_21 rfl rfl rfl) ?_
  refine im_st (s_getR (b := 76) (tag := 10) (j := 0) dX10_drivesOn_22 rfl fl_X10_7 rfl (Nat.le_of_ble_eq_true rfl) rfl rfl) ?_
  refine im_st (r_iload_n (i := 1) dX10_drivesOn_25 rfl rfl rfl) ?_
  refine im_st (r_bipush (v := 7) dX10_drivesOn_26 rfl kB_7) ?_
  refine im_st (r_iadd dX10_drivesOn_28 rfl) ?_
  refine im_st (r_iload (i := 4) dX10_drivesOn_29 rfl rfl) ?_
  refine im_st (r_iadd dX10_drivesOn_31 rfl) ?_
  refine im_st (r_iload_n (i := 3) dX10_drivesOn_32 rfl rfl rfl) ?_
  refine im_app (Gm := fun (σ4 : Sg) => Go M_X10_drivesOn Q 0 0 33 [some (.ref 75), some (.int a1), some (.int a2), some (.int a3), some (.int v2)] [.int a3, .int ((a1 + (7 : Int32)) + v2), .ref 76] (mk σ4 τ)) (fun σ4 => ?_)
  refine im_grd (fun g5 => ?_)
  refine im_st (s_iastore dX10_drivesOn_33 rfl rfl (Nat.le_of_ble_eq_true rfl) (inR_in g5)) ?_
  refine im_st (r_aload_n (i := 0) dX10_drivesOn_34 rfl rfl rfl) ?_
  refine im_st (s_getR (b := 76) (tag := 10) (j := 0) dX10_drivesOn_35 rfl fl_X10_7 rfl (Nat.le_of_ble_eq_true rfl) rfl rfl) ?_
  refine im_st (r_iload_n (i := 1) dX10_drivesOn_38 rfl rfl rfl) ?_
  refine im_st (r_bipush (v := 38) dX10_drivesOn_39 rfl kB_38) ?_
  refine im_st (r_iadd dX10_drivesOn_41 rfl) ?_
  refine im_st (r_dup2 dX10_drivesOn_42 rfl rfl rfl) ?_
  refine im_app (Gm := fun (σ6 : Sg) => Go M_X10_drivesOn Q 0 0 43 [some (.ref 75), some (.int a1), some (.int a2), some (.int a3), some (.int v2)] [.int (a1 + (38 : Int32)), .ref 76, .int (a1 + (38 : Int32)), .ref 76] (mk σ6 τ)) (fun σ6 => ?_)
  refine im_grd (fun g7 => ?_)
  refine im_st (s_iaload dX10_drivesOn_43 rfl rfl (Nat.le_of_ble_eq_true rfl) (inR_in g7)) ?_
  refine im_st (r_iconst (v := 1) dX10_drivesOn_44 rfl kI_1) ?_
  refine im_st (r_iadd dX10_drivesOn_45 rfl) ?_
  refine im_grd (fun g8 => ?_)
  refine im_st (s_iastore dX10_drivesOn_46 rfl rfl (Nat.le_of_ble_eq_true rfl) (inR_in g8)) ?_
  exact im_ret (fun q => g_vret rfl rfl rfl dX10_drivesOn_47 q)
theorem e_X10_drivesOn (a1 : Int32) (a2 : Int32) (a3 : Int32) (σ : Sg) (τ : Sl) (y : Sg) (hy : f_X10_drivesOn a1 a2 a3 σ = some y) : EvD M_X10_drivesOn [.ref 75, .int a1, .int a2, .int a3] (mk σ τ) (none) (mk y τ) := EvM.of (by decide +kernel) (Nat.le_of_ble_eq_true rfl) (i_X10_drivesOn a1 a2 a3 σ τ _ y hy ⟨rfl, rfl⟩)
def M_X10_drives : Ms := (yX10_drives, cX10_drives, 3, some .int, 2, 45, 0, 0)
theorem mv_X10_drives : MV M_X10_drives 2 := ⟨⟨q1234, q12, by decide, by decide, by decide +kernel⟩, q1233, p43⟩
def f_X10_drives (a1 : Int32) (a2 : Int32) (σ : Sg) : Option (Int32 × Sg) :=
  if (f_X10_isCell a1) = 0 then
    some ((-1 : Int32), σ)
  else
    if (f_X10_isRag a2) = 0 then
      some ((-1 : Int32), σ)
    else
      (f_X10_isFreeOn (0 : Int32) a1 σ).bind fun (y3 : Int32) =>
      if y3 = 0 then
        some ((-2 : Int32), σ)
      else
        if (σ 76 (38 : Int32).toNatClampNeg) = (7 : Int32) then
          some ((-3 : Int32), σ)
        else
          (f_X10_drivesOn (0 : Int32) a1 a2 σ).bind fun (y6 : Sg) =>
          some ((y6 76 (38 : Int32).toNatClampNeg), y6)
set_option maxHeartbeats 4000000 in
set_option maxRecDepth 20000 in
theorem i_X10_drives (a1 : Int32) (a2 : Int32) (σ : Sg) (τ : Sl) (Q : Option Value → Hp → Prop) : Imp (f_X10_drives a1 a2 σ) (fun (y : (Int32 × Sg)) => Q (some (.int y.1)) (mk y.2 τ)) (Go M_X10_drives Q 0 0 0 [some (.ref 75), some (.int a1), some (.int a2)] [] (mk σ τ)) := by
  unfold f_X10_drives
  refine im_st (r_iload_n (i := 1) dX10_drives_0 rfl rfl rfl) ?_
  refine im_st (r_callS (as := [.int a1]) (r := some (.int (f_X10_isCell a1))) (kc1 := 0) (ks1 := 0) (st := []) (st1 := [.int (f_X10_isCell a1)]) (e_X10_isCell a1 σ τ) ms_X10_isCell lk_X10_186 ⟨by decide, by decide⟩ ⟨by decide, by decide⟩ (Nat.le_of_ble_eq_true rfl) dX10_drives_1 rfl rfl rfl rfl rfl) ?_
  refine im_br (r_if_eq (tgt := 14) dX10_drives_4 rfl (by decide)) (fun c1 => ?_) (fun c1 => ?_)
  · refine im_st (r_iconst (v := -1) dX10_drives_14 rfl kI_m1) ?_
    exact im_ret (fun q => g_iret rfl rfl rfl dX10_drives_15 q)
  · refine im_st (r_iload_n (i := 2) dX10_drives_7 rfl rfl rfl) ?_
    refine im_st (r_callS (as := [.int a2]) (r := some (.int (f_X10_isRag a2))) (kc1 := 0) (ks1 := 0) (st := []) (st1 := [.int (f_X10_isRag a2)]) (e_X10_isRag a2 σ τ) ms_X10_isRag lk_X10_197 ⟨by decide, by decide⟩ ⟨by decide, by decide⟩ (Nat.le_of_ble_eq_true rfl) dX10_drives_8 rfl rfl rfl rfl rfl) ?_
    refine im_br (r_if_ne (tgt := 16) dX10_drives_11 rfl (by decide)) (fun c2 => ?_) (fun c2 => ?_)
    · refine im_st (r_iconst (v := -1) dX10_drives_14 rfl kI_m1) ?_
      exact im_ret (fun q => g_iret rfl rfl rfl dX10_drives_15 q)
    · refine im_st (r_aload_n (i := 0) dX10_drives_16 rfl rfl rfl) ?_
      refine im_st (r_iconst (v := 0) dX10_drives_17 rfl kI_0) ?_
      refine im_st (r_iload_n (i := 1) dX10_drives_18 rfl rfl rfl) ?_
      refine im_bind (fun y3 hy3 => ?_)
      refine im_st (r_callV (as := [.int (0 : Int32), .int a1]) (r := some (.int y3)) (kc1 := 0) (ks1 := 0) (st := []) (st1 := [.int y3]) (e_X10_isFreeOn (0 : Int32) a1 σ τ y3 hy3) mv_X10_isFreeOn lk_X10_189 ⟨by decide, by decide⟩ rfl (Nat.le_of_ble_eq_true rfl) (by decide) ⟨_, rfl, rfl⟩ ⟨by decide, by decide⟩ (Nat.le_of_ble_eq_true rfl) dX10_drives_19 rfl rfl rfl rfl rfl) ?_
      refine im_br (r_if_ne (tgt := 28) dX10_drives_22 rfl (by decide)) (fun c4 => ?_) (fun c4 => ?_)
      · refine im_st (r_bipush (v := -2) dX10_drives_25 rfl kB_m2) ?_
        exact im_ret (fun q => g_iret rfl rfl rfl dX10_drives_27 q)
      · refine im_st (r_aload_n (i := 0) dX10_drives_28 rfl rfl rfl) ?_
        refine im_st (s_getR (b := 76) (tag := 10) (j := 0) dX10_drives_29 rfl fl_X10_7 rfl (Nat.le_of_ble_eq_true rfl) rfl rfl) ?_
        refine im_st (r_bipush (v := 38) dX10_drives_32 rfl kB_38) ?_
        refine im_st (s_iaload dX10_drives_34 rfl rfl (Nat.le_of_ble_eq_true rfl) (inR_in rfl)) ?_
        refine im_st (r_bipush (v := 7) dX10_drives_35 rfl kB_7) ?_
        refine im_br (r_icmp_ne (tgt := 43) dX10_drives_37 rfl (by decide)) (fun c5 => ?_) (fun c5 => ?_)
        · refine im_st (r_bipush (v := -3) dX10_drives_40 rfl kB_m3) ?_
          exact im_ret (fun q => g_iret rfl rfl rfl dX10_drives_42 q)
        · refine im_st (r_aload_n (i := 0) dX10_drives_43 rfl rfl rfl) ?_
          refine im_st (r_iconst (v := 0) dX10_drives_44 rfl kI_0) ?_
          refine im_st (r_iload_n (i := 1) dX10_drives_45 rfl rfl rfl) ?_
          refine im_st (r_iload_n (i := 2) dX10_drives_46 rfl rfl rfl) ?_
          refine im_bind (fun y6 hy6 => ?_)
          refine im_st (r_callV (as := [.int (0 : Int32), .int a1, .int a2]) (r := none) (kc1 := 0) (ks1 := 0) (st := []) (st1 := []) (e_X10_drivesOn (0 : Int32) a1 a2 σ τ y6 hy6) mv_X10_drivesOn lk_X10_202 ⟨by decide, by decide⟩ rfl (Nat.le_of_ble_eq_true rfl) (by decide) ⟨_, rfl, rfl⟩ ⟨by decide, by decide⟩ (Nat.le_of_ble_eq_true rfl) dX10_drives_47 rfl rfl rfl rfl rfl) ?_
          refine im_st (r_aload_n (i := 0) dX10_drives_50 rfl rfl rfl) ?_
          refine im_st (s_getR (b := 76) (tag := 10) (j := 0) dX10_drives_51 rfl fl_X10_7 rfl (Nat.le_of_ble_eq_true rfl) rfl rfl) ?_
          refine im_st (r_bipush (v := 38) dX10_drives_54 rfl kB_38) ?_
          refine im_st (s_iaload dX10_drives_56 rfl rfl (Nat.le_of_ble_eq_true rfl) (inR_in rfl)) ?_
          exact im_ret (fun q => g_iret rfl rfl rfl dX10_drives_57 q)
theorem e_X10_drives (a1 : Int32) (a2 : Int32) (σ : Sg) (τ : Sl) (y : (Int32 × Sg)) (hy : f_X10_drives a1 a2 σ = some y) : EvD M_X10_drives [.ref 75, .int a1, .int a2] (mk σ τ) (some (.int y.1)) (mk y.2 τ) := EvM.of (by decide +kernel) (Nat.le_of_ble_eq_true rfl) (i_X10_drives a1 a2 σ τ _ y hy ⟨rfl, rfl⟩)
def M_X10_drive : Ms := (yX10_drive, cX10_drive, 3, some .int, 3, 67, 0, 0)
theorem mv_X10_drive : MV M_X10_drive 2 := ⟨⟨q1230, q12, by decide, by decide, by decide +kernel⟩, q1228, q1229⟩
def f_X10_drive (a1 : Int32) (a2 : Int32) (σ : Sg) : Option (Int32 × Sg) :=
  (f_X10_drives a1 a2 σ).bind fun (y1 : (Int32 × Sg)) =>
  some (y1.1, y1.2)
set_option maxHeartbeats 4000000 in
set_option maxRecDepth 20000 in
theorem i_X10_drive (a1 : Int32) (a2 : Int32) (σ : Sg) (τ : Sl) (Q : Option Value → Hp → Prop) : Imp (f_X10_drive a1 a2 σ) (fun (y : (Int32 × Sg)) => Q (some (.int y.1)) (mk y.2 τ)) (Go M_X10_drive Q 0 0 0 [some (.ref 75), some (.int a1), some (.int a2)] [] (mk σ τ)) := by
  unfold f_X10_drive
  refine im_st (r_aload_n (i := 0) dX10_drive_0 rfl rfl rfl) ?_
  refine im_st (r_iload_n (i := 1) dX10_drive_1 rfl rfl rfl) ?_
  refine im_st (r_iload_n (i := 2) dX10_drive_2 rfl rfl rfl) ?_
  refine im_bind (fun y1 hy1 => ?_)
  refine im_st (r_callV (as := [.int a1, .int a2]) (r := some (.int y1.1)) (kc1 := 0) (ks1 := 0) (st := []) (st1 := [.int y1.1]) (e_X10_drives a1 a2 σ τ y1 hy1) mv_X10_drives lk_X10_206 ⟨by decide, by decide⟩ rfl (Nat.le_of_ble_eq_true rfl) (by decide) ⟨_, rfl, rfl⟩ ⟨by decide, by decide⟩ (Nat.le_of_ble_eq_true rfl) dX10_drive_3 rfl rfl rfl rfl rfl) ?_
  exact im_ret (fun q => g_iret rfl rfl rfl dX10_drive_6 q)
theorem e_X10_drive (a1 : Int32) (a2 : Int32) (σ : Sg) (τ : Sl) (y : (Int32 × Sg)) (hy : f_X10_drive a1 a2 σ = some y) : EvD M_X10_drive [.ref 75, .int a1, .int a2] (mk σ τ) (some (.int y.1)) (mk y.2 τ) := EvM.of (by decide +kernel) (Nat.le_of_ble_eq_true rfl) (i_X10_drive a1 a2 σ τ _ y hy ⟨rfl, rfl⟩)
def M_X10_laysOn : Ms := (yX10_laysOn, cX10_laysOn, 3, none, 0, 0, 0, 0)
theorem mv_X10_laysOn : MV M_X10_laysOn 2 := ⟨⟨q1246, q12, by decide, by decide, by decide +kernel⟩, q1245, p45⟩
def f_X10_laysOn (a1 : Int32) (a2 : Int32) (σ : Sg) : Option Sg :=
  if inR (a1 + (39 : Int32)) 205 then
  app ((a1 + (14 : Int32)) + (σ 76 (a1 + (39 : Int32)).toNatClampNeg)) fun (v2 : Int32) =>
  if inR v2 205 then
  app (up2 σ 76 v2.toNatClampNeg a2) fun (σ4 : Sg) =>
  if inR (a1 + (39 : Int32)) 205 then
  if inR (a1 + (39 : Int32)) 205 then
  some (up2 σ4 76 (a1 + (39 : Int32)).toNatClampNeg ((σ4 76 (a1 + (39 : Int32)).toNatClampNeg) + (1 : Int32)))
  else none
  else none
  else none
  else none
set_option maxHeartbeats 4000000 in
set_option maxRecDepth 20000 in
theorem i_X10_laysOn (a1 : Int32) (a2 : Int32) (σ : Sg) (τ : Sl) (Q : Option Value → Hp → Prop) : Imp (f_X10_laysOn a1 a2 σ) (fun (y : Sg) => Q (none) (mk y τ)) (Go M_X10_laysOn Q 0 0 0 [some (.ref 75), some (.int a1), some (.int a2)] [] (mk σ τ)) := by
  unfold f_X10_laysOn
  refine im_st (r_aload_n (i := 0) dX10_laysOn_0 rfl rfl rfl) ?_
  refine im_st (s_getR (b := 76) (tag := 10) (j := 0) dX10_laysOn_1 rfl fl_X10_7 rfl (Nat.le_of_ble_eq_true rfl) rfl rfl) ?_
  refine im_st (r_iload_n (i := 1) dX10_laysOn_4 rfl rfl rfl) ?_
  refine im_st (r_bipush (v := 14) dX10_laysOn_5 rfl kB_14) ?_
  refine im_st (r_iadd dX10_laysOn_7 rfl) ?_
  refine im_st (r_aload_n (i := 0) dX10_laysOn_8 rfl rfl rfl) ?_
  refine im_st (s_getR (b := 76) (tag := 10) (j := 0) dX10_laysOn_9 rfl fl_X10_7 rfl (Nat.le_of_ble_eq_true rfl) rfl rfl) ?_
  refine im_st (r_iload_n (i := 1) dX10_laysOn_12 rfl rfl rfl) ?_
  refine im_st (r_bipush (v := 39) dX10_laysOn_13 rfl kB_39) ?_
  refine im_st (r_iadd dX10_laysOn_15 rfl) ?_
  refine im_grd (fun g1 => ?_)
  refine im_st (s_iaload dX10_laysOn_16 rfl rfl (Nat.le_of_ble_eq_true rfl) (inR_in g1)) ?_
  refine im_st (r_iadd dX10_laysOn_17 rfl) ?_
  refine im_st (r_iload_n (i := 2) dX10_laysOn_18 rfl rfl rfl) ?_
  refine im_app (Gm := fun (v2 : Int32) => Go M_X10_laysOn Q 0 0 19 [some (.ref 75), some (.int a1), some (.int a2)] [.int a2, .int v2, .ref 76] (mk σ τ)) (fun v2 => ?_)
  refine im_grd (fun g3 => ?_)
  refine im_st (s_iastore dX10_laysOn_19 rfl rfl (Nat.le_of_ble_eq_true rfl) (inR_in g3)) ?_
  refine im_st (r_aload_n (i := 0) dX10_laysOn_20 rfl rfl rfl) ?_
  refine im_st (s_getR (b := 76) (tag := 10) (j := 0) dX10_laysOn_21 rfl fl_X10_7 rfl (Nat.le_of_ble_eq_true rfl) rfl rfl) ?_
  refine im_st (r_iload_n (i := 1) dX10_laysOn_24 rfl rfl rfl) ?_
  refine im_st (r_bipush (v := 39) dX10_laysOn_25 rfl kB_39) ?_
  refine im_st (r_iadd dX10_laysOn_27 rfl) ?_
  refine im_st (r_dup2 dX10_laysOn_28 rfl rfl rfl) ?_
  refine im_app (Gm := fun (σ4 : Sg) => Go M_X10_laysOn Q 0 0 29 [some (.ref 75), some (.int a1), some (.int a2)] [.int (a1 + (39 : Int32)), .ref 76, .int (a1 + (39 : Int32)), .ref 76] (mk σ4 τ)) (fun σ4 => ?_)
  refine im_grd (fun g5 => ?_)
  refine im_st (s_iaload dX10_laysOn_29 rfl rfl (Nat.le_of_ble_eq_true rfl) (inR_in g5)) ?_
  refine im_st (r_iconst (v := 1) dX10_laysOn_30 rfl kI_1) ?_
  refine im_st (r_iadd dX10_laysOn_31 rfl) ?_
  refine im_grd (fun g6 => ?_)
  refine im_st (s_iastore dX10_laysOn_32 rfl rfl (Nat.le_of_ble_eq_true rfl) (inR_in g6)) ?_
  exact im_ret (fun q => g_vret rfl rfl rfl dX10_laysOn_33 q)
theorem e_X10_laysOn (a1 : Int32) (a2 : Int32) (σ : Sg) (τ : Sl) (y : Sg) (hy : f_X10_laysOn a1 a2 σ = some y) : EvD M_X10_laysOn [.ref 75, .int a1, .int a2] (mk σ τ) (none) (mk y τ) := EvM.of (by decide +kernel) (Nat.le_of_ble_eq_true rfl) (i_X10_laysOn a1 a2 σ τ _ y hy ⟨rfl, rfl⟩)
def M_X10_lay : Ms := (yX10_lay, cX10_lay, 2, some .int, 2, 45, 0, 0)
theorem mv_X10_lay : MV M_X10_lay 1 := ⟨⟨q1242, q12, by decide, by decide, by decide +kernel⟩, q1240, q1241⟩
def f_X10_lay (a1 : Int32) (σ : Sg) : Option (Int32 × Sg) :=
  if (f_X10_isCell a1) = 0 then
    some ((-1 : Int32), σ)
  else
    (f_X10_isFreeOn (0 : Int32) a1 σ).bind fun (y2 : Int32) =>
    if y2 = 0 then
      some ((-2 : Int32), σ)
    else
      if (σ 76 (39 : Int32).toNatClampNeg) = (4 : Int32) then
        some ((-3 : Int32), σ)
      else
        (f_X10_laysOn (0 : Int32) a1 σ).bind fun (y5 : Sg) =>
        some ((y5 76 (39 : Int32).toNatClampNeg), y5)
set_option maxHeartbeats 4000000 in
set_option maxRecDepth 20000 in
theorem i_X10_lay (a1 : Int32) (σ : Sg) (τ : Sl) (Q : Option Value → Hp → Prop) : Imp (f_X10_lay a1 σ) (fun (y : (Int32 × Sg)) => Q (some (.int y.1)) (mk y.2 τ)) (Go M_X10_lay Q 0 0 0 [some (.ref 75), some (.int a1)] [] (mk σ τ)) := by
  unfold f_X10_lay
  refine im_st (r_iload_n (i := 1) dX10_lay_0 rfl rfl rfl) ?_
  refine im_st (r_callS (as := [.int a1]) (r := some (.int (f_X10_isCell a1))) (kc1 := 0) (ks1 := 0) (st := []) (st1 := [.int (f_X10_isCell a1)]) (e_X10_isCell a1 σ τ) ms_X10_isCell lk_X10_186 ⟨by decide, by decide⟩ ⟨by decide, by decide⟩ (Nat.le_of_ble_eq_true rfl) dX10_lay_1 rfl rfl rfl rfl rfl) ?_
  refine im_br (r_if_ne (tgt := 9) dX10_lay_4 rfl (by decide)) (fun c1 => ?_) (fun c1 => ?_)
  · refine im_st (r_iconst (v := -1) dX10_lay_7 rfl kI_m1) ?_
    exact im_ret (fun q => g_iret rfl rfl rfl dX10_lay_8 q)
  · refine im_st (r_aload_n (i := 0) dX10_lay_9 rfl rfl rfl) ?_
    refine im_st (r_iconst (v := 0) dX10_lay_10 rfl kI_0) ?_
    refine im_st (r_iload_n (i := 1) dX10_lay_11 rfl rfl rfl) ?_
    refine im_bind (fun y2 hy2 => ?_)
    refine im_st (r_callV (as := [.int (0 : Int32), .int a1]) (r := some (.int y2)) (kc1 := 0) (ks1 := 0) (st := []) (st1 := [.int y2]) (e_X10_isFreeOn (0 : Int32) a1 σ τ y2 hy2) mv_X10_isFreeOn lk_X10_189 ⟨by decide, by decide⟩ rfl (Nat.le_of_ble_eq_true rfl) (by decide) ⟨_, rfl, rfl⟩ ⟨by decide, by decide⟩ (Nat.le_of_ble_eq_true rfl) dX10_lay_12 rfl rfl rfl rfl rfl) ?_
    refine im_br (r_if_ne (tgt := 21) dX10_lay_15 rfl (by decide)) (fun c3 => ?_) (fun c3 => ?_)
    · refine im_st (r_bipush (v := -2) dX10_lay_18 rfl kB_m2) ?_
      exact im_ret (fun q => g_iret rfl rfl rfl dX10_lay_20 q)
    · refine im_st (r_aload_n (i := 0) dX10_lay_21 rfl rfl rfl) ?_
      refine im_st (s_getR (b := 76) (tag := 10) (j := 0) dX10_lay_22 rfl fl_X10_7 rfl (Nat.le_of_ble_eq_true rfl) rfl rfl) ?_
      refine im_st (r_bipush (v := 39) dX10_lay_25 rfl kB_39) ?_
      refine im_st (s_iaload dX10_lay_27 rfl rfl (Nat.le_of_ble_eq_true rfl) (inR_in rfl)) ?_
      refine im_st (r_iconst (v := 4) dX10_lay_28 rfl kI_4) ?_
      refine im_br (r_icmp_ne (tgt := 35) dX10_lay_29 rfl (by decide)) (fun c4 => ?_) (fun c4 => ?_)
      · refine im_st (r_bipush (v := -3) dX10_lay_32 rfl kB_m3) ?_
        exact im_ret (fun q => g_iret rfl rfl rfl dX10_lay_34 q)
      · refine im_st (r_aload_n (i := 0) dX10_lay_35 rfl rfl rfl) ?_
        refine im_st (r_iconst (v := 0) dX10_lay_36 rfl kI_0) ?_
        refine im_st (r_iload_n (i := 1) dX10_lay_37 rfl rfl rfl) ?_
        refine im_bind (fun y5 hy5 => ?_)
        refine im_st (r_callV (as := [.int (0 : Int32), .int a1]) (r := none) (kc1 := 0) (ks1 := 0) (st := []) (st1 := []) (e_X10_laysOn (0 : Int32) a1 σ τ y5 hy5) mv_X10_laysOn lk_X10_209 ⟨by decide, by decide⟩ rfl (Nat.le_of_ble_eq_true rfl) (by decide) ⟨_, rfl, rfl⟩ ⟨by decide, by decide⟩ (Nat.le_of_ble_eq_true rfl) dX10_lay_38 rfl rfl rfl rfl rfl) ?_
        refine im_st (r_aload_n (i := 0) dX10_lay_41 rfl rfl rfl) ?_
        refine im_st (s_getR (b := 76) (tag := 10) (j := 0) dX10_lay_42 rfl fl_X10_7 rfl (Nat.le_of_ble_eq_true rfl) rfl rfl) ?_
        refine im_st (r_bipush (v := 39) dX10_lay_45 rfl kB_39) ?_
        refine im_st (s_iaload dX10_lay_47 rfl rfl (Nat.le_of_ble_eq_true rfl) (inR_in rfl)) ?_
        exact im_ret (fun q => g_iret rfl rfl rfl dX10_lay_48 q)
theorem e_X10_lay (a1 : Int32) (σ : Sg) (τ : Sl) (y : (Int32 × Sg)) (hy : f_X10_lay a1 σ = some y) : EvD M_X10_lay [.ref 75, .int a1] (mk σ τ) (some (.int y.1)) (mk y.2 τ) := EvM.of (by decide +kernel) (Nat.le_of_ble_eq_true rfl) (i_X10_lay a1 σ τ _ y hy ⟨rfl, rfl⟩)
def M_X10_clear : Ms := (yX10_clear, cX10_clear, 2, some .int, 1, 25, 0, 0)
theorem mv_X10_clear : MV M_X10_clear 1 := ⟨⟨q1250, q12, by decide, by decide, by decide +kernel⟩, q1248, q1249⟩
def f_X10_clear (a1 : Int32) (σ : Sg) : Option (Int32 × Sg) :=
  (f_X10_puts (f_X10_in (a1.toInt64) (0 : Int64) ((σ 76 (39 : Int32).toNatClampNeg).toInt64)) (39 : Int32) a1 σ).bind fun (y1 : (Int32 × Sg)) =>
  some (y1.1, y1.2)
set_option maxHeartbeats 4000000 in
set_option maxRecDepth 20000 in
theorem i_X10_clear (a1 : Int32) (σ : Sg) (τ : Sl) (Q : Option Value → Hp → Prop) : Imp (f_X10_clear a1 σ) (fun (y : (Int32 × Sg)) => Q (some (.int y.1)) (mk y.2 τ)) (Go M_X10_clear Q 0 0 0 [some (.ref 75), some (.int a1)] [] (mk σ τ)) := by
  unfold f_X10_clear
  refine im_st (r_aload_n (i := 0) dX10_clear_0 rfl rfl rfl) ?_
  refine im_st (r_iload_n (i := 1) dX10_clear_1 rfl rfl rfl) ?_
  refine im_st (r_i2l (v := a1.toInt64) dX10_clear_2 rfl rfl) ?_
  refine im_st (r_lconst (v := 0) dX10_clear_3 rfl rfl) ?_
  refine im_st (r_aload_n (i := 0) dX10_clear_4 rfl rfl rfl) ?_
  refine im_st (s_getR (b := 76) (tag := 10) (j := 0) dX10_clear_5 rfl fl_X10_7 rfl (Nat.le_of_ble_eq_true rfl) rfl rfl) ?_
  refine im_st (r_bipush (v := 39) dX10_clear_8 rfl kB_39) ?_
  refine im_st (s_iaload dX10_clear_10 rfl rfl (Nat.le_of_ble_eq_true rfl) (inR_in rfl)) ?_
  refine im_st (r_i2l (v := (σ 76 (39 : Int32).toNatClampNeg).toInt64) dX10_clear_11 rfl rfl) ?_
  refine im_st (r_callS (as := [.long (a1.toInt64), .long (0 : Int64), .long ((σ 76 (39 : Int32).toNatClampNeg).toInt64)]) (r := some (.int (f_X10_in (a1.toInt64) (0 : Int64) ((σ 76 (39 : Int32).toNatClampNeg).toInt64)))) (kc1 := 0) (ks1 := 0) (st := [.ref 75]) (st1 := [.int (f_X10_in (a1.toInt64) (0 : Int64) ((σ 76 (39 : Int32).toNatClampNeg).toInt64)), .ref 75]) (e_X10_in (a1.toInt64) (0 : Int64) ((σ 76 (39 : Int32).toNatClampNeg).toInt64) σ τ) ms_X10_in lk_X10_49 ⟨by decide, by decide⟩ ⟨by decide, by decide⟩ (Nat.le_of_ble_eq_true rfl) dX10_clear_12 rfl rfl rfl rfl rfl) ?_
  refine im_st (r_bipush (v := 39) dX10_clear_15 rfl kB_39) ?_
  refine im_st (r_iload_n (i := 1) dX10_clear_17 rfl rfl rfl) ?_
  refine im_bind (fun y1 hy1 => ?_)
  refine im_st (r_callV (as := [.int (f_X10_in (a1.toInt64) (0 : Int64) ((σ 76 (39 : Int32).toNatClampNeg).toInt64)), .int (39 : Int32), .int a1]) (r := some (.int y1.1)) (kc1 := 0) (ks1 := 0) (st := []) (st1 := [.int y1.1]) (e_X10_puts (f_X10_in (a1.toInt64) (0 : Int64) ((σ 76 (39 : Int32).toNatClampNeg).toInt64)) (39 : Int32) a1 σ τ y1 hy1) mv_X10_puts lk_X10_193 ⟨by decide, by decide⟩ rfl (Nat.le_of_ble_eq_true rfl) (by decide) ⟨_, rfl, rfl⟩ ⟨by decide, by decide⟩ (Nat.le_of_ble_eq_true rfl) dX10_clear_18 rfl rfl rfl rfl rfl) ?_
  exact im_ret (fun q => g_iret rfl rfl rfl dX10_clear_21 q)
theorem e_X10_clear (a1 : Int32) (σ : Sg) (τ : Sl) (y : (Int32 × Sg)) (hy : f_X10_clear a1 σ = some y) : EvD M_X10_clear [.ref 75, .int a1] (mk σ τ) (some (.int y.1)) (mk y.2 τ) := EvM.of (by decide +kernel) (Nat.le_of_ble_eq_true rfl) (i_X10_clear a1 σ τ _ y hy ⟨rfl, rfl⟩)
def M_X10_sue : Ms := (yX10_sue, cX10_sue, 4, some .int, 2, 46, 0, 0)
theorem mv_X10_sue : MV M_X10_sue 2 := ⟨⟨q1254, q12, by decide, by decide, by decide +kernel⟩, q1252, q1253⟩
def f_X10_sue (a1 : Int32) (a2 : Int32) (σ : Sg) : Option (Int32 × Sg) :=
  if (f_X10_isHog a1 σ) = 0 then
    some ((-1 : Int32), σ)
  else
    if (f_X10_isColumn a2) = 0 then
      some ((-1 : Int32), σ)
    else
      app (σ 76 (40 : Int32).toNatClampNeg) fun (v3 : Int32) =>
      if v3 = (6 : Int32) then
        some ((-3 : Int32), σ)
      else
        if inR ((26 : Int32) + v3) 205 then
        app (up2 σ 76 ((26 : Int32) + v3).toNatClampNeg a1) fun (σ6 : Sg) =>
        if inR ((32 : Int32) + v3) 205 then
        app (up2 σ6 76 ((32 : Int32) + v3).toNatClampNeg a2) fun (σ8 : Sg) =>
        app (up2 σ8 76 (40 : Int32).toNatClampNeg ((σ8 76 (40 : Int32).toNatClampNeg) + (1 : Int32))) fun (σ9 : Sg) =>
        some ((σ9 76 (40 : Int32).toNatClampNeg), σ9)
        else none
        else none
set_option maxHeartbeats 4000000 in
set_option maxRecDepth 20000 in
theorem i_X10_sue (a1 : Int32) (a2 : Int32) (σ : Sg) (τ : Sl) (Q : Option Value → Hp → Prop) : Imp (f_X10_sue a1 a2 σ) (fun (y : (Int32 × Sg)) => Q (some (.int y.1)) (mk y.2 τ)) (Go M_X10_sue Q 0 0 0 [some (.ref 75), some (.int a1), some (.int a2), none] [] (mk σ τ)) := by
  unfold f_X10_sue
  refine im_st (r_aload_n (i := 0) dX10_sue_0 rfl rfl rfl) ?_
  refine im_st (r_iload_n (i := 1) dX10_sue_1 rfl rfl rfl) ?_
  refine im_st (r_callV (as := [.int a1]) (r := some (.int (f_X10_isHog a1 σ))) (kc1 := 0) (ks1 := 0) (st := []) (st1 := [.int (f_X10_isHog a1 σ)]) (e_X10_isHog a1 σ τ) mv_X10_isHog lk_X10_180 ⟨by decide, by decide⟩ rfl (Nat.le_of_ble_eq_true rfl) (by decide) ⟨_, rfl, rfl⟩ ⟨by decide, by decide⟩ (Nat.le_of_ble_eq_true rfl) dX10_sue_2 rfl rfl rfl rfl rfl) ?_
  refine im_br (r_if_eq (tgt := 15) dX10_sue_5 rfl (by decide)) (fun c1 => ?_) (fun c1 => ?_)
  · refine im_st (r_iconst (v := -1) dX10_sue_15 rfl kI_m1) ?_
    exact im_ret (fun q => g_iret rfl rfl rfl dX10_sue_16 q)
  · refine im_st (r_iload_n (i := 2) dX10_sue_8 rfl rfl rfl) ?_
    refine im_st (r_callS (as := [.int a2]) (r := some (.int (f_X10_isColumn a2))) (kc1 := 0) (ks1 := 0) (st := []) (st1 := [.int (f_X10_isColumn a2)]) (e_X10_isColumn a2 σ τ) ms_X10_isColumn lk_X10_213 ⟨by decide, by decide⟩ ⟨by decide, by decide⟩ (Nat.le_of_ble_eq_true rfl) dX10_sue_9 rfl rfl rfl rfl rfl) ?_
    refine im_br (r_if_ne (tgt := 17) dX10_sue_12 rfl (by decide)) (fun c2 => ?_) (fun c2 => ?_)
    · refine im_st (r_iconst (v := -1) dX10_sue_15 rfl kI_m1) ?_
      exact im_ret (fun q => g_iret rfl rfl rfl dX10_sue_16 q)
    · refine im_st (r_aload_n (i := 0) dX10_sue_17 rfl rfl rfl) ?_
      refine im_st (s_getR (b := 76) (tag := 10) (j := 0) dX10_sue_18 rfl fl_X10_7 rfl (Nat.le_of_ble_eq_true rfl) rfl rfl) ?_
      refine im_st (r_bipush (v := 40) dX10_sue_21 rfl kB_40) ?_
      refine im_st (s_iaload dX10_sue_23 rfl rfl (Nat.le_of_ble_eq_true rfl) (inR_in rfl)) ?_
      refine im_app (Gm := fun (v3 : Int32) => Go M_X10_sue Q 0 0 24 [some (.ref 75), some (.int a1), some (.int a2), none] [.int v3] (mk σ τ)) (fun v3 => ?_)
      refine im_st (r_istore_n (i := 3) (L1 := [some (.ref 75), some (.int a1), some (.int a2), some (.int v3)]) dX10_sue_24 rfl rfl (by decide) rfl) ?_
      refine im_st (r_iload_n (i := 3) dX10_sue_25 rfl rfl rfl) ?_
      refine im_st (r_bipush (v := 6) dX10_sue_26 rfl kB_6) ?_
      refine im_br (r_icmp_ne (tgt := 34) dX10_sue_28 rfl (by decide)) (fun c4 => ?_) (fun c4 => ?_)
      · refine im_st (r_bipush (v := -3) dX10_sue_31 rfl kB_m3) ?_
        exact im_ret (fun q => g_iret rfl rfl rfl dX10_sue_33 q)
      · refine im_st (r_aload_n (i := 0) dX10_sue_34 rfl rfl rfl) ?_
        refine im_st (s_getR (b := 76) (tag := 10) (j := 0) dX10_sue_35 rfl fl_X10_7 rfl (Nat.le_of_ble_eq_true rfl) rfl rfl) ?_
        refine im_st (r_bipush (v := 26) dX10_sue_38 rfl kB_26) ?_
        refine im_st (r_iload_n (i := 3) dX10_sue_40 rfl rfl rfl) ?_
        refine im_st (r_iadd dX10_sue_41 rfl) ?_
        refine im_st (r_iload_n (i := 1) dX10_sue_42 rfl rfl rfl) ?_
        refine im_grd (fun g5 => ?_)
        refine im_st (s_iastore dX10_sue_43 rfl rfl (Nat.le_of_ble_eq_true rfl) (inR_in g5)) ?_
        refine im_st (r_aload_n (i := 0) dX10_sue_44 rfl rfl rfl) ?_
        refine im_st (s_getR (b := 76) (tag := 10) (j := 0) dX10_sue_45 rfl fl_X10_7 rfl (Nat.le_of_ble_eq_true rfl) rfl rfl) ?_
        refine im_st (r_bipush (v := 32) dX10_sue_48 rfl kB_32) ?_
        refine im_st (r_iload_n (i := 3) dX10_sue_50 rfl rfl rfl) ?_
        refine im_st (r_iadd dX10_sue_51 rfl) ?_
        refine im_st (r_iload_n (i := 2) dX10_sue_52 rfl rfl rfl) ?_
        refine im_app (Gm := fun (σ6 : Sg) => Go M_X10_sue Q 0 0 53 [some (.ref 75), some (.int a1), some (.int a2), some (.int v3)] [.int a2, .int ((32 : Int32) + v3), .ref 76] (mk σ6 τ)) (fun σ6 => ?_)
        refine im_grd (fun g7 => ?_)
        refine im_st (s_iastore dX10_sue_53 rfl rfl (Nat.le_of_ble_eq_true rfl) (inR_in g7)) ?_
        refine im_st (r_aload_n (i := 0) dX10_sue_54 rfl rfl rfl) ?_
        refine im_st (s_getR (b := 76) (tag := 10) (j := 0) dX10_sue_55 rfl fl_X10_7 rfl (Nat.le_of_ble_eq_true rfl) rfl rfl) ?_
        refine im_st (r_bipush (v := 40) dX10_sue_58 rfl kB_40) ?_
        refine im_st (r_dup2 dX10_sue_60 rfl rfl rfl) ?_
        refine im_app (Gm := fun (σ8 : Sg) => Go M_X10_sue Q 0 0 61 [some (.ref 75), some (.int a1), some (.int a2), some (.int v3)] [.int (40 : Int32), .ref 76, .int (40 : Int32), .ref 76] (mk σ8 τ)) (fun σ8 => ?_)
        refine im_st (s_iaload dX10_sue_61 rfl rfl (Nat.le_of_ble_eq_true rfl) (inR_in rfl)) ?_
        refine im_st (r_iconst (v := 1) dX10_sue_62 rfl kI_1) ?_
        refine im_st (r_iadd dX10_sue_63 rfl) ?_
        refine im_st (s_iastore dX10_sue_64 rfl rfl (Nat.le_of_ble_eq_true rfl) (inR_in rfl)) ?_
        refine im_st (r_aload_n (i := 0) dX10_sue_65 rfl rfl rfl) ?_
        refine im_st (s_getR (b := 76) (tag := 10) (j := 0) dX10_sue_66 rfl fl_X10_7 rfl (Nat.le_of_ble_eq_true rfl) rfl rfl) ?_
        refine im_st (r_bipush (v := 40) dX10_sue_69 rfl kB_40) ?_
        refine im_app (Gm := fun (σ9 : Sg) => Go M_X10_sue Q 0 0 71 [some (.ref 75), some (.int a1), some (.int a2), some (.int v3)] [.int (40 : Int32), .ref 76] (mk σ9 τ)) (fun σ9 => ?_)
        refine im_st (s_iaload dX10_sue_71 rfl rfl (Nat.le_of_ble_eq_true rfl) (inR_in rfl)) ?_
        exact im_ret (fun q => g_iret rfl rfl rfl dX10_sue_72 q)
theorem e_X10_sue (a1 : Int32) (a2 : Int32) (σ : Sg) (τ : Sl) (y : (Int32 × Sg)) (hy : f_X10_sue a1 a2 σ = some y) : EvD M_X10_sue [.ref 75, .int a1, .int a2] (mk σ τ) (some (.int y.1)) (mk y.2 τ) := EvM.of (by decide +kernel) (Nat.le_of_ble_eq_true rfl) (i_X10_sue a1 a2 σ τ _ y hy ⟨rfl, rfl⟩)
def M_X10_drop : Ms := (yX10_drop, cX10_drop, 2, some .int, 1, 25, 0, 0)
theorem mv_X10_drop : MV M_X10_drop 1 := ⟨⟨q1262, q12, by decide, by decide, by decide +kernel⟩, q1260, q1261⟩
def f_X10_drop (a1 : Int32) (σ : Sg) : Option (Int32 × Sg) :=
  (f_X10_puts (f_X10_in (a1.toInt64) (0 : Int64) ((σ 76 (40 : Int32).toNatClampNeg).toInt64)) (40 : Int32) a1 σ).bind fun (y1 : (Int32 × Sg)) =>
  some (y1.1, y1.2)
set_option maxHeartbeats 4000000 in
set_option maxRecDepth 20000 in
theorem i_X10_drop (a1 : Int32) (σ : Sg) (τ : Sl) (Q : Option Value → Hp → Prop) : Imp (f_X10_drop a1 σ) (fun (y : (Int32 × Sg)) => Q (some (.int y.1)) (mk y.2 τ)) (Go M_X10_drop Q 0 0 0 [some (.ref 75), some (.int a1)] [] (mk σ τ)) := by
  unfold f_X10_drop
  refine im_st (r_aload_n (i := 0) dX10_drop_0 rfl rfl rfl) ?_
  refine im_st (r_iload_n (i := 1) dX10_drop_1 rfl rfl rfl) ?_
  refine im_st (r_i2l (v := a1.toInt64) dX10_drop_2 rfl rfl) ?_
  refine im_st (r_lconst (v := 0) dX10_drop_3 rfl rfl) ?_
  refine im_st (r_aload_n (i := 0) dX10_drop_4 rfl rfl rfl) ?_
  refine im_st (s_getR (b := 76) (tag := 10) (j := 0) dX10_drop_5 rfl fl_X10_7 rfl (Nat.le_of_ble_eq_true rfl) rfl rfl) ?_
  refine im_st (r_bipush (v := 40) dX10_drop_8 rfl kB_40) ?_
  refine im_st (s_iaload dX10_drop_10 rfl rfl (Nat.le_of_ble_eq_true rfl) (inR_in rfl)) ?_
  refine im_st (r_i2l (v := (σ 76 (40 : Int32).toNatClampNeg).toInt64) dX10_drop_11 rfl rfl) ?_
  refine im_st (r_callS (as := [.long (a1.toInt64), .long (0 : Int64), .long ((σ 76 (40 : Int32).toNatClampNeg).toInt64)]) (r := some (.int (f_X10_in (a1.toInt64) (0 : Int64) ((σ 76 (40 : Int32).toNatClampNeg).toInt64)))) (kc1 := 0) (ks1 := 0) (st := [.ref 75]) (st1 := [.int (f_X10_in (a1.toInt64) (0 : Int64) ((σ 76 (40 : Int32).toNatClampNeg).toInt64)), .ref 75]) (e_X10_in (a1.toInt64) (0 : Int64) ((σ 76 (40 : Int32).toNatClampNeg).toInt64) σ τ) ms_X10_in lk_X10_49 ⟨by decide, by decide⟩ ⟨by decide, by decide⟩ (Nat.le_of_ble_eq_true rfl) dX10_drop_12 rfl rfl rfl rfl rfl) ?_
  refine im_st (r_bipush (v := 40) dX10_drop_15 rfl kB_40) ?_
  refine im_st (r_iload_n (i := 1) dX10_drop_17 rfl rfl rfl) ?_
  refine im_bind (fun y1 hy1 => ?_)
  refine im_st (r_callV (as := [.int (f_X10_in (a1.toInt64) (0 : Int64) ((σ 76 (40 : Int32).toNatClampNeg).toInt64)), .int (40 : Int32), .int a1]) (r := some (.int y1.1)) (kc1 := 0) (ks1 := 0) (st := []) (st1 := [.int y1.1]) (e_X10_puts (f_X10_in (a1.toInt64) (0 : Int64) ((σ 76 (40 : Int32).toNatClampNeg).toInt64)) (40 : Int32) a1 σ τ y1 hy1) mv_X10_puts lk_X10_193 ⟨by decide, by decide⟩ rfl (Nat.le_of_ble_eq_true rfl) (by decide) ⟨_, rfl, rfl⟩ ⟨by decide, by decide⟩ (Nat.le_of_ble_eq_true rfl) dX10_drop_18 rfl rfl rfl rfl rfl) ?_
  exact im_ret (fun q => g_iret rfl rfl rfl dX10_drop_21 q)
theorem e_X10_drop (a1 : Int32) (σ : Sg) (τ : Sl) (y : (Int32 × Sg)) (hy : f_X10_drop a1 σ = some y) : EvD M_X10_drop [.ref 75, .int a1] (mk σ τ) (some (.int y.1)) (mk y.2 τ) := EvM.of (by decide +kernel) (Nat.le_of_ble_eq_true rfl) (i_X10_drop a1 σ τ _ y hy ⟨rfl, rfl⟩)
def M_X10_run : Ms := (yX10_run, cX10_run, 5, some .int, 3, 77, 0, 0)
theorem mv_X10_run : MV M_X10_run 3 := ⟨⟨q1266, q12, by decide, by decide, by decide +kernel⟩, q1264, q1265⟩
def f_X10_run (a1 : Int32) (a2 : Int32) (a3 : Int32) (σ : Sg) : Option (Int32 × Sg) :=
  if (f_X10_isHog a1 σ) = 0 then
    some ((-1 : Int32), σ)
  else
    if (f_X10_isColumn a2) = 0 then
      some ((-1 : Int32), σ)
    else
      if (f_X10_in (a3.toInt64) (0 : Int64) (4 : Int64)) = 0 then
        some ((-1 : Int32), σ)
      else
        (f_X10_winnerOn (0 : Int32) a1 a2 σ).bind fun (y4 : (Int32 × Sg)) =>
        if a3 = 0 then
          some ((y4.2 75 16), y4.2)
        else
          if a3 = (1 : Int32) then
            some (y4.1, y4.2)
          else
            if a3 = (2 : Int32) then
              some ((y4.2 75 17), y4.2)
            else
              if a3 = (3 : Int32) then
                some ((y4.2 75 18), y4.2)
              else
                if (y4.2 75 19) = 0 then
                  some ((0 : Int32), y4.2)
                else
                  some ((1 : Int32), y4.2)
set_option maxHeartbeats 4000000 in
set_option maxRecDepth 20000 in
theorem i_X10_run (a1 : Int32) (a2 : Int32) (a3 : Int32) (σ : Sg) (τ : Sl) (Q : Option Value → Hp → Prop) : Imp (f_X10_run a1 a2 a3 σ) (fun (y : (Int32 × Sg)) => Q (some (.int y.1)) (mk y.2 τ)) (Go M_X10_run Q 0 0 0 [some (.ref 75), some (.int a1), some (.int a2), some (.int a3), none] [] (mk σ τ)) := by
  unfold f_X10_run
  refine im_st (r_aload_n (i := 0) dX10_run_0 rfl rfl rfl) ?_
  refine im_st (r_iload_n (i := 1) dX10_run_1 rfl rfl rfl) ?_
  refine im_st (r_callV (as := [.int a1]) (r := some (.int (f_X10_isHog a1 σ))) (kc1 := 0) (ks1 := 0) (st := []) (st1 := [.int (f_X10_isHog a1 σ)]) (e_X10_isHog a1 σ τ) mv_X10_isHog lk_X10_180 ⟨by decide, by decide⟩ rfl (Nat.le_of_ble_eq_true rfl) (by decide) ⟨_, rfl, rfl⟩ ⟨by decide, by decide⟩ (Nat.le_of_ble_eq_true rfl) dX10_run_2 rfl rfl rfl rfl rfl) ?_
  refine im_br (r_if_eq (tgt := 27) dX10_run_5 rfl (by decide)) (fun c1 => ?_) (fun c1 => ?_)
  · refine im_st (r_iconst (v := -1) dX10_run_27 rfl kI_m1) ?_
    exact im_ret (fun q => g_iret rfl rfl rfl dX10_run_28 q)
  · refine im_st (r_iload_n (i := 2) dX10_run_8 rfl rfl rfl) ?_
    refine im_st (r_callS (as := [.int a2]) (r := some (.int (f_X10_isColumn a2))) (kc1 := 0) (ks1 := 0) (st := []) (st1 := [.int (f_X10_isColumn a2)]) (e_X10_isColumn a2 σ τ) ms_X10_isColumn lk_X10_213 ⟨by decide, by decide⟩ ⟨by decide, by decide⟩ (Nat.le_of_ble_eq_true rfl) dX10_run_9 rfl rfl rfl rfl rfl) ?_
    refine im_br (r_if_eq (tgt := 27) dX10_run_12 rfl (by decide)) (fun c2 => ?_) (fun c2 => ?_)
    · refine im_st (r_iconst (v := -1) dX10_run_27 rfl kI_m1) ?_
      exact im_ret (fun q => g_iret rfl rfl rfl dX10_run_28 q)
    · refine im_st (r_iload_n (i := 3) dX10_run_15 rfl rfl rfl) ?_
      refine im_st (r_i2l (v := a3.toInt64) dX10_run_16 rfl rfl) ?_
      refine im_st (r_lconst (v := 0) dX10_run_17 rfl rfl) ?_
      refine im_st (r_ldc2 (v := 4) dX10_run_18 rfl q1267) ?_
      refine im_st (r_callS (as := [.long (a3.toInt64), .long (0 : Int64), .long (4 : Int64)]) (r := some (.int (f_X10_in (a3.toInt64) (0 : Int64) (4 : Int64)))) (kc1 := 0) (ks1 := 0) (st := []) (st1 := [.int (f_X10_in (a3.toInt64) (0 : Int64) (4 : Int64))]) (e_X10_in (a3.toInt64) (0 : Int64) (4 : Int64) σ τ) ms_X10_in lk_X10_49 ⟨by decide, by decide⟩ ⟨by decide, by decide⟩ (Nat.le_of_ble_eq_true rfl) dX10_run_21 rfl rfl rfl rfl rfl) ?_
      refine im_br (r_if_ne (tgt := 29) dX10_run_24 rfl (by decide)) (fun c3 => ?_) (fun c3 => ?_)
      · refine im_st (r_iconst (v := -1) dX10_run_27 rfl kI_m1) ?_
        exact im_ret (fun q => g_iret rfl rfl rfl dX10_run_28 q)
      · refine im_st (r_aload_n (i := 0) dX10_run_29 rfl rfl rfl) ?_
        refine im_st (r_iconst (v := 0) dX10_run_30 rfl kI_0) ?_
        refine im_st (r_iload_n (i := 1) dX10_run_31 rfl rfl rfl) ?_
        refine im_st (r_iload_n (i := 2) dX10_run_32 rfl rfl rfl) ?_
        refine im_bind (fun y4 hy4 => ?_)
        refine im_st (r_callV (as := [.int (0 : Int32), .int a1, .int a2]) (r := some (.int y4.1)) (kc1 := 0) (ks1 := 0) (st := []) (st1 := [.int y4.1]) (e_X10_winnerOn (0 : Int32) a1 a2 σ τ y4 hy4) mv_X10_winnerOn lk_X10_168 ⟨by decide, by decide⟩ rfl (Nat.le_of_ble_eq_true rfl) (by decide) ⟨_, rfl, rfl⟩ ⟨by decide, by decide⟩ (Nat.le_of_ble_eq_true rfl) dX10_run_33 rfl rfl rfl rfl rfl) ?_
        refine im_st (r_istore (i := 4) (L1 := [some (.ref 75), some (.int a1), some (.int a2), some (.int a3), some (.int y4.1)]) dX10_run_36 rfl (by decide) rfl) ?_
        refine im_st (r_iload_n (i := 3) dX10_run_38 rfl rfl rfl) ?_
        refine im_br (r_if_ne (tgt := 49) dX10_run_39 rfl (by decide)) (fun c5 => ?_) (fun c5 => ?_)
        · refine im_st (r_aload_n (i := 0) dX10_run_42 rfl rfl rfl) ?_
          refine im_st (s_getI (tag := 10) (j := 16) dX10_run_43 rfl fl_X10_145 rfl (Nat.le_of_ble_eq_true rfl) rfl) ?_
          refine im_st (r_goto (pc1 := 95) dX10_run_46 (by decide)) ?_
          exact im_ret (fun q => g_iret rfl rfl rfl dX10_run_95 q)
        · refine im_st (r_iload_n (i := 3) dX10_run_49 rfl rfl rfl) ?_
          refine im_st (r_iconst (v := 1) dX10_run_50 rfl kI_1) ?_
          refine im_br (r_icmp_ne (tgt := 59) dX10_run_51 rfl (by decide)) (fun c6 => ?_) (fun c6 => ?_)
          · refine im_st (r_iload (i := 4) dX10_run_54 rfl rfl) ?_
            refine im_st (r_goto (pc1 := 95) dX10_run_56 (by decide)) ?_
            exact im_ret (fun q => g_iret rfl rfl rfl dX10_run_95 q)
          · refine im_st (r_iload_n (i := 3) dX10_run_59 rfl rfl rfl) ?_
            refine im_st (r_iconst (v := 2) dX10_run_60 rfl kI_2) ?_
            refine im_br (r_icmp_ne (tgt := 71) dX10_run_61 rfl (by decide)) (fun c7 => ?_) (fun c7 => ?_)
            · refine im_st (r_aload_n (i := 0) dX10_run_64 rfl rfl rfl) ?_
              refine im_st (s_getI (tag := 10) (j := 17) dX10_run_65 rfl fl_X10_148 rfl (Nat.le_of_ble_eq_true rfl) rfl) ?_
              refine im_st (r_goto (pc1 := 95) dX10_run_68 (by decide)) ?_
              exact im_ret (fun q => g_iret rfl rfl rfl dX10_run_95 q)
            · refine im_st (r_iload_n (i := 3) dX10_run_71 rfl rfl rfl) ?_
              refine im_st (r_iconst (v := 3) dX10_run_72 rfl kI_3) ?_
              refine im_br (r_icmp_ne (tgt := 83) dX10_run_73 rfl (by decide)) (fun c8 => ?_) (fun c8 => ?_)
              · refine im_st (r_aload_n (i := 0) dX10_run_76 rfl rfl rfl) ?_
                refine im_st (s_getI (tag := 10) (j := 18) dX10_run_77 rfl fl_X10_151 rfl (Nat.le_of_ble_eq_true rfl) rfl) ?_
                refine im_st (r_goto (pc1 := 95) dX10_run_80 (by decide)) ?_
                exact im_ret (fun q => g_iret rfl rfl rfl dX10_run_95 q)
              · refine im_st (r_aload_n (i := 0) dX10_run_83 rfl rfl rfl) ?_
                refine im_st (s_getI (tag := 10) (j := 19) dX10_run_84 rfl fl_X10_154 rfl (Nat.le_of_ble_eq_true rfl) rfl) ?_
                refine im_br (r_if_eq (tgt := 94) dX10_run_87 rfl (by decide)) (fun c9 => ?_) (fun c9 => ?_)
                · refine im_st (r_iconst (v := 0) dX10_run_94 rfl kI_0) ?_
                  exact im_ret (fun q => g_iret rfl rfl rfl dX10_run_95 q)
                · refine im_st (r_iconst (v := 1) dX10_run_90 rfl kI_1) ?_
                  refine im_st (r_goto (pc1 := 95) dX10_run_91 (by decide)) ?_
                  exact im_ret (fun q => g_iret rfl rfl rfl dX10_run_95 q)
theorem e_X10_run (a1 : Int32) (a2 : Int32) (a3 : Int32) (σ : Sg) (τ : Sl) (y : (Int32 × Sg)) (hy : f_X10_run a1 a2 a3 σ = some y) : EvD M_X10_run [.ref 75, .int a1, .int a2, .int a3] (mk σ τ) (some (.int y.1)) (mk y.2 τ) := EvM.of (by decide +kernel) (Nat.le_of_ble_eq_true rfl) (i_X10_run a1 a2 a3 σ τ _ y hy ⟨rfl, rfl⟩)
def M_X10_way : Ms := (yX10_way, cX10_way, 4, some .int, 2, 54, 0, 0)
theorem mv_X10_way : MV M_X10_way 3 := ⟨⟨q1271, q12, by decide, by decide, by decide +kernel⟩, q1269, q1270⟩
def f_X10_way (a1 : Int32) (a2 : Int32) (a3 : Int32) (σ : Sg) : Option (Int32 × Sg) :=
  if (f_X10_isHog a1 σ) = 0 then
    some ((-1 : Int32), σ)
  else
    if (f_X10_isColumn a2) = 0 then
      some ((-1 : Int32), σ)
    else
      if (f_X10_in (a3.toInt64) (0 : Int64) (9 : Int64)) = 0 then
        some ((-1 : Int32), σ)
      else
        (f_X10_runsOn (0 : Int32) a1 a2 (0 : Int32) σ).bind fun (y4 : Sg) =>
        if (y4 75 17) < a3 then
          some ((-4 : Int32), y4)
        else
          if inR a3 10 then
          some ((y4 81 a3.toNatClampNeg), y4)
          else none
set_option maxHeartbeats 4000000 in
set_option maxRecDepth 20000 in
theorem i_X10_way (a1 : Int32) (a2 : Int32) (a3 : Int32) (σ : Sg) (τ : Sl) (Q : Option Value → Hp → Prop) : Imp (f_X10_way a1 a2 a3 σ) (fun (y : (Int32 × Sg)) => Q (some (.int y.1)) (mk y.2 τ)) (Go M_X10_way Q 0 0 0 [some (.ref 75), some (.int a1), some (.int a2), some (.int a3)] [] (mk σ τ)) := by
  unfold f_X10_way
  refine im_st (r_aload_n (i := 0) dX10_way_0 rfl rfl rfl) ?_
  refine im_st (r_iload_n (i := 1) dX10_way_1 rfl rfl rfl) ?_
  refine im_st (r_callV (as := [.int a1]) (r := some (.int (f_X10_isHog a1 σ))) (kc1 := 0) (ks1 := 0) (st := []) (st1 := [.int (f_X10_isHog a1 σ)]) (e_X10_isHog a1 σ τ) mv_X10_isHog lk_X10_180 ⟨by decide, by decide⟩ rfl (Nat.le_of_ble_eq_true rfl) (by decide) ⟨_, rfl, rfl⟩ ⟨by decide, by decide⟩ (Nat.le_of_ble_eq_true rfl) dX10_way_2 rfl rfl rfl rfl rfl) ?_
  refine im_br (r_if_eq (tgt := 27) dX10_way_5 rfl (by decide)) (fun c1 => ?_) (fun c1 => ?_)
  · refine im_st (r_iconst (v := -1) dX10_way_27 rfl kI_m1) ?_
    exact im_ret (fun q => g_iret rfl rfl rfl dX10_way_28 q)
  · refine im_st (r_iload_n (i := 2) dX10_way_8 rfl rfl rfl) ?_
    refine im_st (r_callS (as := [.int a2]) (r := some (.int (f_X10_isColumn a2))) (kc1 := 0) (ks1 := 0) (st := []) (st1 := [.int (f_X10_isColumn a2)]) (e_X10_isColumn a2 σ τ) ms_X10_isColumn lk_X10_213 ⟨by decide, by decide⟩ ⟨by decide, by decide⟩ (Nat.le_of_ble_eq_true rfl) dX10_way_9 rfl rfl rfl rfl rfl) ?_
    refine im_br (r_if_eq (tgt := 27) dX10_way_12 rfl (by decide)) (fun c2 => ?_) (fun c2 => ?_)
    · refine im_st (r_iconst (v := -1) dX10_way_27 rfl kI_m1) ?_
      exact im_ret (fun q => g_iret rfl rfl rfl dX10_way_28 q)
    · refine im_st (r_iload_n (i := 3) dX10_way_15 rfl rfl rfl) ?_
      refine im_st (r_i2l (v := a3.toInt64) dX10_way_16 rfl rfl) ?_
      refine im_st (r_lconst (v := 0) dX10_way_17 rfl rfl) ?_
      refine im_st (r_ldc2 (v := 9) dX10_way_18 rfl q1226) ?_
      refine im_st (r_callS (as := [.long (a3.toInt64), .long (0 : Int64), .long (9 : Int64)]) (r := some (.int (f_X10_in (a3.toInt64) (0 : Int64) (9 : Int64)))) (kc1 := 0) (ks1 := 0) (st := []) (st1 := [.int (f_X10_in (a3.toInt64) (0 : Int64) (9 : Int64))]) (e_X10_in (a3.toInt64) (0 : Int64) (9 : Int64) σ τ) ms_X10_in lk_X10_49 ⟨by decide, by decide⟩ ⟨by decide, by decide⟩ (Nat.le_of_ble_eq_true rfl) dX10_way_21 rfl rfl rfl rfl rfl) ?_
      refine im_br (r_if_ne (tgt := 29) dX10_way_24 rfl (by decide)) (fun c3 => ?_) (fun c3 => ?_)
      · refine im_st (r_iconst (v := -1) dX10_way_27 rfl kI_m1) ?_
        exact im_ret (fun q => g_iret rfl rfl rfl dX10_way_28 q)
      · refine im_st (r_aload_n (i := 0) dX10_way_29 rfl rfl rfl) ?_
        refine im_st (r_iconst (v := 0) dX10_way_30 rfl kI_0) ?_
        refine im_st (r_iload_n (i := 1) dX10_way_31 rfl rfl rfl) ?_
        refine im_st (r_iload_n (i := 2) dX10_way_32 rfl rfl rfl) ?_
        refine im_st (r_iconst (v := 0) dX10_way_33 rfl kI_0) ?_
        refine im_bind (fun y4 hy4 => ?_)
        refine im_st (r_callV (as := [.int (0 : Int32), .int a1, .int a2, .int (0 : Int32)]) (r := none) (kc1 := 0) (ks1 := 0) (st := []) (st1 := []) (e_X10_runsOn (0 : Int32) a1 a2 (0 : Int32) σ τ y4 hy4) mv_X10_runsOn lk_X10_164 ⟨by decide, by decide⟩ rfl (Nat.le_of_ble_eq_true rfl) (by decide) ⟨_, rfl, rfl⟩ ⟨by decide, by decide⟩ (Nat.le_of_ble_eq_true rfl) dX10_way_34 rfl rfl rfl rfl rfl) ?_
        refine im_st (r_iload_n (i := 3) dX10_way_37 rfl rfl rfl) ?_
        refine im_st (r_aload_n (i := 0) dX10_way_38 rfl rfl rfl) ?_
        refine im_st (s_getI (tag := 10) (j := 17) dX10_way_39 rfl fl_X10_148 rfl (Nat.le_of_ble_eq_true rfl) rfl) ?_
        refine im_br (r_icmp_gt (tgt := 54) dX10_way_42 rfl (by decide)) (fun c5 => ?_) (fun c5 => ?_)
        · refine im_st (r_bipush (v := -4) dX10_way_54 rfl kB_m4) ?_
          exact im_ret (fun q => g_iret rfl rfl rfl dX10_way_56 q)
        · refine im_st (r_aload_n (i := 0) dX10_way_45 rfl rfl rfl) ?_
          refine im_st (s_getR (b := 81) (tag := 10) (j := 20) dX10_way_46 rfl fl_X10_25 rfl (Nat.le_of_ble_eq_true rfl) rfl rfl) ?_
          refine im_st (r_iload_n (i := 3) dX10_way_49 rfl rfl rfl) ?_
          refine im_grd (fun g6 => ?_)
          refine im_st (s_iaload dX10_way_50 rfl rfl (Nat.le_of_ble_eq_true rfl) (inR_in g6)) ?_
          refine im_st (r_goto (pc1 := 56) dX10_way_51 (by decide)) ?_
          exact im_ret (fun q => g_iret rfl rfl rfl dX10_way_56 q)
theorem e_X10_way (a1 : Int32) (a2 : Int32) (a3 : Int32) (σ : Sg) (τ : Sl) (y : (Int32 × Sg)) (hy : f_X10_way a1 a2 a3 σ = some y) : EvD M_X10_way [.ref 75, .int a1, .int a2, .int a3] (mk σ τ) (some (.int y.1)) (mk y.2 τ) := EvM.of (by decide +kernel) (Nat.le_of_ble_eq_true rfl) (i_X10_way a1 a2 a3 σ τ _ y hy ⟨rfl, rfl⟩)
def M_X10_wins : Ms := (yX10_wins, cX10_wins, 2, some .int, 4, 102, 0, 0)
theorem mv_X10_wins : MV M_X10_wins 1 := ⟨⟨q1275, q12, by decide, by decide, by decide +kernel⟩, q1273, q1274⟩
def f_X10_wins (a1 : Int32) (σ : Sg) : Option (Int32 × Sg) :=
  if (f_X10_isRag a1) = 0 then
    some ((-1 : Int32), σ)
  else
    (f_X10_winsOn (0 : Int32) a1 σ).bind fun (y2 : (Int32 × Sg)) =>
    some (y2.1, y2.2)
set_option maxHeartbeats 4000000 in
set_option maxRecDepth 20000 in
theorem i_X10_wins (a1 : Int32) (σ : Sg) (τ : Sl) (Q : Option Value → Hp → Prop) : Imp (f_X10_wins a1 σ) (fun (y : (Int32 × Sg)) => Q (some (.int y.1)) (mk y.2 τ)) (Go M_X10_wins Q 0 0 0 [some (.ref 75), some (.int a1)] [] (mk σ τ)) := by
  unfold f_X10_wins
  refine im_st (r_iload_n (i := 1) dX10_wins_0 rfl rfl rfl) ?_
  refine im_st (r_callS (as := [.int a1]) (r := some (.int (f_X10_isRag a1))) (kc1 := 0) (ks1 := 0) (st := []) (st1 := [.int (f_X10_isRag a1)]) (e_X10_isRag a1 σ τ) ms_X10_isRag lk_X10_197 ⟨by decide, by decide⟩ ⟨by decide, by decide⟩ (Nat.le_of_ble_eq_true rfl) dX10_wins_1 rfl rfl rfl rfl rfl) ?_
  refine im_br (r_if_eq (tgt := 16) dX10_wins_4 rfl (by decide)) (fun c1 => ?_) (fun c1 => ?_)
  · refine im_st (r_iconst (v := -1) dX10_wins_16 rfl kI_m1) ?_
    exact im_ret (fun q => g_iret rfl rfl rfl dX10_wins_17 q)
  · refine im_st (r_aload_n (i := 0) dX10_wins_7 rfl rfl rfl) ?_
    refine im_st (r_iconst (v := 0) dX10_wins_8 rfl kI_0) ?_
    refine im_st (r_iload_n (i := 1) dX10_wins_9 rfl rfl rfl) ?_
    refine im_bind (fun y2 hy2 => ?_)
    refine im_st (r_callV (as := [.int (0 : Int32), .int a1]) (r := some (.int y2.1)) (kc1 := 0) (ks1 := 0) (st := []) (st1 := [.int y2.1]) (e_X10_winsOn (0 : Int32) a1 σ τ y2 hy2) mv_X10_winsOn lk_X10_172 ⟨by decide, by decide⟩ rfl (Nat.le_of_ble_eq_true rfl) (by decide) ⟨_, rfl, rfl⟩ ⟨by decide, by decide⟩ (Nat.le_of_ble_eq_true rfl) dX10_wins_10 rfl rfl rfl rfl rfl) ?_
    refine im_st (r_goto (pc1 := 17) dX10_wins_13 (by decide)) ?_
    exact im_ret (fun q => g_iret rfl rfl rfl dX10_wins_17 q)
theorem e_X10_wins (a1 : Int32) (σ : Sg) (τ : Sl) (y : (Int32 × Sg)) (hy : f_X10_wins a1 σ = some y) : EvD M_X10_wins [.ref 75, .int a1] (mk σ τ) (some (.int y.1)) (mk y.2 τ) := EvM.of (by decide +kernel) (Nat.le_of_ble_eq_true rfl) (i_X10_wins a1 σ τ _ y hy ⟨rfl, rfl⟩)
def M_X10_share : Ms := (yX10_share, cX10_share, 5, some .int, 3, 77, 0, 0)
theorem mv_X10_share : MV M_X10_share 2 := ⟨⟨q1279, q12, by decide, by decide, by decide +kernel⟩, q1277, q1278⟩
def b_X10_share_22 (a1 : Int32) (a2 : Int32) : (Int32 × Int32 × Sg) → Option ((Int32 × Int32 × Sg) ⊕ (Int32 × Int32 × Sg)) := fun (s3 : (Int32 × Int32 × Sg)) =>
  if (8 : Int32) ≤ s3.2.1 then
    some (.inr (s3.1, s3.2.1, s3.2.2))
  else
    (f_X10_winnerOn (0 : Int32) a1 s3.2.1 s3.2.2).bind fun (y5 : (Int32 × Sg)) =>
    app (if y5.1 = a2 then
      (1 : Int32)
    else
      (0 : Int32)) fun (j6 : Int32) =>
    some (.inl ((s3.1 + j6), (s3.2.1 + 1), y5.2))
def f_X10_share (a1 : Int32) (a2 : Int32) (σ : Sg) : Option (Int32 × Sg) :=
  if (f_X10_isHog a1 σ) = 0 then
    some ((-1 : Int32), σ)
  else
    if (f_X10_isRag a2) = 0 then
      some ((-1 : Int32), σ)
    else
      (wh (b_X10_share_22 a1 a2) 4096 ((0 : Int32), (0 : Int32), σ)).bind fun (e8 : (Int32 × Int32 × Sg)) =>
      some (e8.1, e8.2.2)
set_option maxHeartbeats 4000000 in
set_option maxRecDepth 20000 in
theorem i_X10_share (a1 : Int32) (a2 : Int32) (σ : Sg) (τ : Sl) (Q : Option Value → Hp → Prop) : Imp (f_X10_share a1 a2 σ) (fun (y : (Int32 × Sg)) => Q (some (.int y.1)) (mk y.2 τ)) (Go M_X10_share Q 0 0 0 [some (.ref 75), some (.int a1), some (.int a2), none, none] [] (mk σ τ)) := by
  unfold f_X10_share
  refine im_st (r_aload_n (i := 0) dX10_share_0 rfl rfl rfl) ?_
  refine im_st (r_iload_n (i := 1) dX10_share_1 rfl rfl rfl) ?_
  refine im_st (r_callV (as := [.int a1]) (r := some (.int (f_X10_isHog a1 σ))) (kc1 := 0) (ks1 := 0) (st := []) (st1 := [.int (f_X10_isHog a1 σ)]) (e_X10_isHog a1 σ τ) mv_X10_isHog lk_X10_180 ⟨by decide, by decide⟩ rfl (Nat.le_of_ble_eq_true rfl) (by decide) ⟨_, rfl, rfl⟩ ⟨by decide, by decide⟩ (Nat.le_of_ble_eq_true rfl) dX10_share_2 rfl rfl rfl rfl rfl) ?_
  refine im_br (r_if_eq (tgt := 15) dX10_share_5 rfl (by decide)) (fun c1 => ?_) (fun c1 => ?_)
  · refine im_st (r_iconst (v := -1) dX10_share_15 rfl kI_m1) ?_
    exact im_ret (fun q => g_iret rfl rfl rfl dX10_share_16 q)
  · refine im_st (r_iload_n (i := 2) dX10_share_8 rfl rfl rfl) ?_
    refine im_st (r_callS (as := [.int a2]) (r := some (.int (f_X10_isRag a2))) (kc1 := 0) (ks1 := 0) (st := []) (st1 := [.int (f_X10_isRag a2)]) (e_X10_isRag a2 σ τ) ms_X10_isRag lk_X10_197 ⟨by decide, by decide⟩ ⟨by decide, by decide⟩ (Nat.le_of_ble_eq_true rfl) dX10_share_9 rfl rfl rfl rfl rfl) ?_
    refine im_br (r_if_ne (tgt := 17) dX10_share_12 rfl (by decide)) (fun c2 => ?_) (fun c2 => ?_)
    · refine im_st (r_iconst (v := -1) dX10_share_15 rfl kI_m1) ?_
      exact im_ret (fun q => g_iret rfl rfl rfl dX10_share_16 q)
    · refine im_st (r_iconst (v := 0) dX10_share_17 rfl kI_0) ?_
      refine im_st (r_istore_n (i := 3) (L1 := [some (.ref 75), some (.int a1), some (.int a2), some (.int (0 : Int32)), none]) dX10_share_18 rfl rfl (by decide) rfl) ?_
      refine im_st (r_iconst (v := 0) dX10_share_19 rfl kI_0) ?_
      refine im_st (r_istore (i := 4) (L1 := [some (.ref 75), some (.int a1), some (.int a2), some (.int (0 : Int32)), some (.int (0 : Int32))]) dX10_share_20 rfl (by decide) rfl) ?_
      refine im_seq (Gm := fun (e8 : (Int32 × Int32 × Sg)) => Go M_X10_share Q 0 0 55 [none, none, none, some (.int e8.1), none] [] (mk e8.2.2 τ)) ?_ (fun e8 => ?_)
      · refine im_wh (G := fun (s3 : (Int32 × Int32 × Sg)) => Go M_X10_share Q 0 0 22 [some (.ref 75), some (.int a1), some (.int a2), some (.int s3.1), some (.int s3.2.1)] [] (mk s3.2.2 τ)) (fun s3 => ?_) _ _
        unfold b_X10_share_22
        refine im_st (r_iload (i := 4) dX10_share_22 rfl rfl) ?_
        refine im_st (r_bipush (v := 8) dX10_share_24 rfl kB_8) ?_
        refine im_br (r_icmp_ge (tgt := 55) dX10_share_26 rfl (by decide)) (fun c4 => ?_) (fun c4 => ?_)
        · refine im_st (r_fgt (L1 := [none, none, none, some (.int s3.1), none]) [0, 1, 2, 4] rfl) ?_
          exact im_ret id
        · refine im_st (r_iload_n (i := 3) dX10_share_29 rfl rfl rfl) ?_
          refine im_st (r_aload_n (i := 0) dX10_share_30 rfl rfl rfl) ?_
          refine im_st (r_iconst (v := 0) dX10_share_31 rfl kI_0) ?_
          refine im_st (r_iload_n (i := 1) dX10_share_32 rfl rfl rfl) ?_
          refine im_st (r_iload (i := 4) dX10_share_33 rfl rfl) ?_
          refine im_bind (fun y5 hy5 => ?_)
          refine im_st (r_callV (as := [.int (0 : Int32), .int a1, .int s3.2.1]) (r := some (.int y5.1)) (kc1 := 0) (ks1 := 0) (st := [.int s3.1]) (st1 := [.int y5.1, .int s3.1]) (e_X10_winnerOn (0 : Int32) a1 s3.2.1 s3.2.2 τ y5 hy5) mv_X10_winnerOn lk_X10_168 ⟨by decide, by decide⟩ rfl (Nat.le_of_ble_eq_true rfl) (by decide) ⟨_, rfl, rfl⟩ ⟨by decide, by decide⟩ (Nat.le_of_ble_eq_true rfl) dX10_share_35 rfl rfl rfl rfl rfl) ?_
          refine im_st (r_iload_n (i := 2) dX10_share_38 rfl rfl rfl) ?_
          refine im_seqT (Gm := fun (j6 : Int32) => Go M_X10_share Q 0 0 47 [some (.ref 75), some (.int a1), some (.int a2), none, some (.int s3.2.1)] [.int j6, .int s3.1] (mk y5.2 τ)) ?_ (fun j6 => ?_)
          · refine im_brS (r_icmp_ne (tgt := 46) dX10_share_39 rfl (by decide)) (fun c7 => ?_) (fun c7 => ?_)
            · refine im_st (r_iconst (v := 1) dX10_share_42 rfl kI_1) ?_
              refine im_st (r_goto (pc1 := 47) dX10_share_43 (by decide)) ?_
              refine im_st (r_fgt (L1 := [some (.ref 75), some (.int a1), some (.int a2), none, some (.int s3.2.1)]) [3] rfl) ?_
              exact im_ret id
            · refine im_st (r_iconst (v := 0) dX10_share_46 rfl kI_0) ?_
              refine im_st (r_fgt (L1 := [some (.ref 75), some (.int a1), some (.int a2), none, some (.int s3.2.1)]) [3] rfl) ?_
              exact im_ret id
          refine im_st (r_iadd dX10_share_47 rfl) ?_
          refine im_st (r_istore_n (i := 3) (L1 := [some (.ref 75), some (.int a1), some (.int a2), some (.int (s3.1 + j6)), some (.int s3.2.1)]) dX10_share_48 rfl rfl (by decide) rfl) ?_
          refine im_st (r_iinc (i := 4) (x := s3.2.1) (v := (s3.2.1 + 1)) (L1 := [some (.ref 75), some (.int a1), some (.int a2), some (.int (s3.1 + j6)), some (.int (s3.2.1 + 1))]) dX10_share_49 rfl rfl rfl (by decide) rfl) ?_
          refine im_st (r_goto (pc1 := 22) dX10_share_52 (by decide)) ?_
          exact im_ret id
      refine im_st (r_iload_n (i := 3) dX10_share_55 rfl rfl rfl) ?_
      exact im_ret (fun q => g_iret rfl rfl rfl dX10_share_56 q)
theorem e_X10_share (a1 : Int32) (a2 : Int32) (σ : Sg) (τ : Sl) (y : (Int32 × Sg)) (hy : f_X10_share a1 a2 σ = some y) : EvD M_X10_share [.ref 75, .int a1, .int a2] (mk σ τ) (some (.int y.1)) (mk y.2 τ) := EvM.of (by decide +kernel) (Nat.le_of_ble_eq_true rfl) (i_X10_share a1 a2 σ τ _ y hy ⟨rfl, rfl⟩)
def M_X10_first : Ms := (yX10_first, cX10_first, 4, some .int, 3, 77, 0, 0)
theorem mv_X10_first : MV M_X10_first 2 := ⟨⟨q1283, q12, by decide, by decide, by decide +kernel⟩, q1281, q1282⟩
def b_X10_first_19 (a1 : Int32) (a2 : Int32) : (Int32 × Sg) → Option ((Int32 × Sg) ⊕ ((Int32 × Sg) ⊕ (Int32 × Sg))) := fun (s3 : (Int32 × Sg)) =>
  if (8 : Int32) ≤ s3.1 then
    some (.inr (.inl (s3.1, s3.2)))
  else
    (f_X10_winnerOn (0 : Int32) a1 s3.1 s3.2).bind fun (y5 : (Int32 × Sg)) =>
    if y5.1 = a2 then
      some (.inr (.inr (s3.1, y5.2)))
    else
      some (.inl ((s3.1 + 1), y5.2))
def f_X10_first (a1 : Int32) (a2 : Int32) (σ : Sg) : Option (Int32 × Sg) :=
  if (f_X10_isHog a1 σ) = 0 then
    some ((-1 : Int32), σ)
  else
    if (f_X10_isRag a2) = 0 then
      some ((-1 : Int32), σ)
    else
      (wh (b_X10_first_19 a1 a2) 4096 ((0 : Int32), σ)).bind fun (r9 : ((Int32 × Sg) ⊕ (Int32 × Sg))) =>
      Sum.elim (fun (e7 : (Int32 × Sg)) =>
        some ((-4 : Int32), e7.2)) (fun (y8 : (Int32 × Sg)) => some y8) r9
set_option maxHeartbeats 4000000 in
set_option maxRecDepth 20000 in
theorem i_X10_first (a1 : Int32) (a2 : Int32) (σ : Sg) (τ : Sl) (Q : Option Value → Hp → Prop) : Imp (f_X10_first a1 a2 σ) (fun (y : (Int32 × Sg)) => Q (some (.int y.1)) (mk y.2 τ)) (Go M_X10_first Q 0 0 0 [some (.ref 75), some (.int a1), some (.int a2), none] [] (mk σ τ)) := by
  unfold f_X10_first
  refine im_st (r_aload_n (i := 0) dX10_first_0 rfl rfl rfl) ?_
  refine im_st (r_iload_n (i := 1) dX10_first_1 rfl rfl rfl) ?_
  refine im_st (r_callV (as := [.int a1]) (r := some (.int (f_X10_isHog a1 σ))) (kc1 := 0) (ks1 := 0) (st := []) (st1 := [.int (f_X10_isHog a1 σ)]) (e_X10_isHog a1 σ τ) mv_X10_isHog lk_X10_180 ⟨by decide, by decide⟩ rfl (Nat.le_of_ble_eq_true rfl) (by decide) ⟨_, rfl, rfl⟩ ⟨by decide, by decide⟩ (Nat.le_of_ble_eq_true rfl) dX10_first_2 rfl rfl rfl rfl rfl) ?_
  refine im_br (r_if_eq (tgt := 15) dX10_first_5 rfl (by decide)) (fun c1 => ?_) (fun c1 => ?_)
  · refine im_st (r_iconst (v := -1) dX10_first_15 rfl kI_m1) ?_
    exact im_ret (fun q => g_iret rfl rfl rfl dX10_first_16 q)
  · refine im_st (r_iload_n (i := 2) dX10_first_8 rfl rfl rfl) ?_
    refine im_st (r_callS (as := [.int a2]) (r := some (.int (f_X10_isRag a2))) (kc1 := 0) (ks1 := 0) (st := []) (st1 := [.int (f_X10_isRag a2)]) (e_X10_isRag a2 σ τ) ms_X10_isRag lk_X10_197 ⟨by decide, by decide⟩ ⟨by decide, by decide⟩ (Nat.le_of_ble_eq_true rfl) dX10_first_9 rfl rfl rfl rfl rfl) ?_
    refine im_br (r_if_ne (tgt := 17) dX10_first_12 rfl (by decide)) (fun c2 => ?_) (fun c2 => ?_)
    · refine im_st (r_iconst (v := -1) dX10_first_15 rfl kI_m1) ?_
      exact im_ret (fun q => g_iret rfl rfl rfl dX10_first_16 q)
    · refine im_st (r_iconst (v := 0) dX10_first_17 rfl kI_0) ?_
      refine im_st (r_istore_n (i := 3) (L1 := [some (.ref 75), some (.int a1), some (.int a2), some (.int (0 : Int32))]) dX10_first_18 rfl rfl (by decide) rfl) ?_
      refine im_seq (Gm := Sum.elim (fun (e7 : (Int32 × Sg)) => Go M_X10_first Q 0 0 44 [none, none, none, none] [] (mk e7.2 τ)) (fun (y : (Int32 × Sg)) => Q (some (.int y.1)) (mk y.2 τ))) ?_ (fun r9 => ?_)
      · refine im_wh (G := fun (s3 : (Int32 × Sg)) => Go M_X10_first Q 0 0 19 [some (.ref 75), some (.int a1), some (.int a2), some (.int s3.1)] [] (mk s3.2 τ)) (fun s3 => ?_) _ _
        unfold b_X10_first_19
        refine im_st (r_iload_n (i := 3) dX10_first_19 rfl rfl rfl) ?_
        refine im_st (r_bipush (v := 8) dX10_first_20 rfl kB_8) ?_
        refine im_br (r_icmp_ge (tgt := 44) dX10_first_22 rfl (by decide)) (fun c4 => ?_) (fun c4 => ?_)
        · refine im_st (r_fgt (L1 := [none, none, none, none]) [0, 1, 2, 3] rfl) ?_
          exact im_ret id
        · refine im_st (r_aload_n (i := 0) dX10_first_25 rfl rfl rfl) ?_
          refine im_st (r_iconst (v := 0) dX10_first_26 rfl kI_0) ?_
          refine im_st (r_iload_n (i := 1) dX10_first_27 rfl rfl rfl) ?_
          refine im_st (r_iload_n (i := 3) dX10_first_28 rfl rfl rfl) ?_
          refine im_bind (fun y5 hy5 => ?_)
          refine im_st (r_callV (as := [.int (0 : Int32), .int a1, .int s3.1]) (r := some (.int y5.1)) (kc1 := 0) (ks1 := 0) (st := []) (st1 := [.int y5.1]) (e_X10_winnerOn (0 : Int32) a1 s3.1 s3.2 τ y5 hy5) mv_X10_winnerOn lk_X10_168 ⟨by decide, by decide⟩ rfl (Nat.le_of_ble_eq_true rfl) (by decide) ⟨_, rfl, rfl⟩ ⟨by decide, by decide⟩ (Nat.le_of_ble_eq_true rfl) dX10_first_29 rfl rfl rfl rfl rfl) ?_
          refine im_st (r_iload_n (i := 2) dX10_first_32 rfl rfl rfl) ?_
          refine im_br (r_icmp_ne (tgt := 38) dX10_first_33 rfl (by decide)) (fun c6 => ?_) (fun c6 => ?_)
          · refine im_st (r_iload_n (i := 3) dX10_first_36 rfl rfl rfl) ?_
            exact im_ret (fun q => g_iret rfl rfl rfl dX10_first_37 q)
          · refine im_st (r_iinc (i := 3) (x := s3.1) (v := (s3.1 + 1)) (L1 := [some (.ref 75), some (.int a1), some (.int a2), some (.int (s3.1 + 1))]) dX10_first_38 rfl rfl rfl (by decide) rfl) ?_
            refine im_st (r_goto (pc1 := 19) dX10_first_41 (by decide)) ?_
            exact im_ret id
      refine im_sum (fun e7 => ?_) (fun y8 => im_ret id) r9
      refine im_st (r_bipush (v := -4) dX10_first_44 rfl kB_m4) ?_
      exact im_ret (fun q => g_iret rfl rfl rfl dX10_first_46 q)
theorem e_X10_first (a1 : Int32) (a2 : Int32) (σ : Sg) (τ : Sl) (y : (Int32 × Sg)) (hy : f_X10_first a1 a2 σ = some y) : EvD M_X10_first [.ref 75, .int a1, .int a2] (mk σ τ) (some (.int y.1)) (mk y.2 τ) := EvM.of (by decide +kernel) (Nat.le_of_ble_eq_true rfl) (i_X10_first a1 a2 σ τ _ y hy ⟨rfl, rfl⟩)
def M_X10_copies : Ms := (yX10_copies, cX10_copies, 4, none, 0, 0, 0, 0)
theorem mv_X10_copies : MV M_X10_copies 2 := ⟨⟨q1291, q12, by decide, by decide, by decide +kernel⟩, q1290, p46⟩
def b_X10_copies_2 (a1 : Int32) (a2 : Int32) : (Int32 × Sg) → Option ((Int32 × Sg) ⊕ (Int32 × Sg)) := fun (s1 : (Int32 × Sg)) =>
  if (41 : Int32) ≤ s1.1 then
    some (.inr (s1.1, s1.2))
  else
    if inR (a1 + s1.1) 205 then
    if inR (a2 + s1.1) 205 then
    some (.inl ((s1.1 + 1), (up2 s1.2 76 (a2 + s1.1).toNatClampNeg (s1.2 76 (a1 + s1.1).toNatClampNeg))))
    else none
    else none
def f_X10_copies (a1 : Int32) (a2 : Int32) (σ : Sg) : Option Sg :=
  (wh (b_X10_copies_2 a1 a2) 4096 ((0 : Int32), σ)).bind fun (e5 : (Int32 × Sg)) =>
  some e5.2
set_option maxHeartbeats 4000000 in
set_option maxRecDepth 20000 in
theorem i_X10_copies (a1 : Int32) (a2 : Int32) (σ : Sg) (τ : Sl) (Q : Option Value → Hp → Prop) : Imp (f_X10_copies a1 a2 σ) (fun (y : Sg) => Q (none) (mk y τ)) (Go M_X10_copies Q 0 0 0 [some (.ref 75), some (.int a1), some (.int a2), none] [] (mk σ τ)) := by
  unfold f_X10_copies
  refine im_st (r_iconst (v := 0) dX10_copies_0 rfl kI_0) ?_
  refine im_st (r_istore_n (i := 3) (L1 := [some (.ref 75), some (.int a1), some (.int a2), some (.int (0 : Int32))]) dX10_copies_1 rfl rfl (by decide) rfl) ?_
  refine im_seq (Gm := fun (e5 : (Int32 × Sg)) => Go M_X10_copies Q 0 0 30 [none, none, none, none] [] (mk e5.2 τ)) ?_ (fun e5 => ?_)
  · refine im_wh (G := fun (s1 : (Int32 × Sg)) => Go M_X10_copies Q 0 0 2 [some (.ref 75), some (.int a1), some (.int a2), some (.int s1.1)] [] (mk s1.2 τ)) (fun s1 => ?_) _ _
    unfold b_X10_copies_2
    refine im_st (r_iload_n (i := 3) dX10_copies_2 rfl rfl rfl) ?_
    refine im_st (r_bipush (v := 41) dX10_copies_3 rfl kB_41) ?_
    refine im_br (r_icmp_ge (tgt := 30) dX10_copies_5 rfl (by decide)) (fun c2 => ?_) (fun c2 => ?_)
    · refine im_st (r_fgt (L1 := [none, none, none, none]) [0, 1, 2, 3] rfl) ?_
      exact im_ret id
    · refine im_st (r_aload_n (i := 0) dX10_copies_8 rfl rfl rfl) ?_
      refine im_st (s_getR (b := 76) (tag := 10) (j := 0) dX10_copies_9 rfl fl_X10_7 rfl (Nat.le_of_ble_eq_true rfl) rfl rfl) ?_
      refine im_st (r_iload_n (i := 2) dX10_copies_12 rfl rfl rfl) ?_
      refine im_st (r_iload_n (i := 3) dX10_copies_13 rfl rfl rfl) ?_
      refine im_st (r_iadd dX10_copies_14 rfl) ?_
      refine im_st (r_aload_n (i := 0) dX10_copies_15 rfl rfl rfl) ?_
      refine im_st (s_getR (b := 76) (tag := 10) (j := 0) dX10_copies_16 rfl fl_X10_7 rfl (Nat.le_of_ble_eq_true rfl) rfl rfl) ?_
      refine im_st (r_iload_n (i := 1) dX10_copies_19 rfl rfl rfl) ?_
      refine im_st (r_iload_n (i := 3) dX10_copies_20 rfl rfl rfl) ?_
      refine im_st (r_iadd dX10_copies_21 rfl) ?_
      refine im_grd (fun g3 => ?_)
      refine im_st (s_iaload dX10_copies_22 rfl rfl (Nat.le_of_ble_eq_true rfl) (inR_in g3)) ?_
      refine im_grd (fun g4 => ?_)
      refine im_st (s_iastore dX10_copies_23 rfl rfl (Nat.le_of_ble_eq_true rfl) (inR_in g4)) ?_
      refine im_st (r_iinc (i := 3) (x := s1.1) (v := (s1.1 + 1)) (L1 := [some (.ref 75), some (.int a1), some (.int a2), some (.int (s1.1 + 1))]) dX10_copies_24 rfl rfl rfl (by decide) rfl) ?_
      refine im_st (r_goto (pc1 := 2) dX10_copies_27 (by decide)) ?_
      exact im_ret id
  exact im_ret (fun q => g_vret rfl rfl rfl dX10_copies_30 q)
theorem e_X10_copies (a1 : Int32) (a2 : Int32) (σ : Sg) (τ : Sl) (y : Sg) (hy : f_X10_copies a1 a2 σ = some y) : EvD M_X10_copies [.ref 75, .int a1, .int a2] (mk σ τ) (none) (mk y τ) := EvM.of (by decide +kernel) (Nat.le_of_ble_eq_true rfl) (i_X10_copies a1 a2 σ τ _ y hy ⟨rfl, rfl⟩)
def M_X10_kindly : Ms := (yX10_kindly, cX10_kindly, 6, some .int, 3, 77, 0, 0)
theorem mv_X10_kindly : MV M_X10_kindly 3 := ⟨⟨q1287, q12, by decide, by decide, by decide +kernel⟩, q1285, q1286⟩
def b_X10_kindly_38 (a1 : Int32) (a2 : Int32) (a3 : Int32) : (Int32 × Int32 × Sg) → Option ((Int32 × Int32 × Sg) ⊕ (Int32 × Int32 × Sg)) := fun (s5 : (Int32 × Int32 × Sg)) =>
  if (4 : Int32) ≤ s5.2.1 then
    some (.inr (s5.1, s5.2.1, s5.2.2))
  else
    if inR ((182 : Int32) + a1) 205 then
    app (up2 s5.2.2 76 ((182 : Int32) + a1).toNatClampNeg s5.2.1) fun (σ8 : Sg) =>
    (f_X10_winnerOn (164 : Int32) a1 a2 σ8).bind fun (y9 : (Int32 × Sg)) =>
    app (if y9.1 = a3 then
      ((1 : Int32) <<< (s5.2.1 &&& 31))
    else
      (0 : Int32)) fun (j10 : Int32) =>
    some (.inl ((s5.1 ||| j10), (s5.2.1 + 1), y9.2))
    else none
def f_X10_kindly (a1 : Int32) (a2 : Int32) (a3 : Int32) (σ : Sg) : Option (Int32 × Sg) :=
  if (f_X10_isHog a1 σ) = 0 then
    some ((-1 : Int32), σ)
  else
    if (f_X10_isColumn a2) = 0 then
      some ((-1 : Int32), σ)
    else
      if (f_X10_isRag a3) = 0 then
        some ((-1 : Int32), σ)
      else
        (f_X10_copies (0 : Int32) (164 : Int32) σ).bind fun (y4 : Sg) =>
        (wh (b_X10_kindly_38 a1 a2 a3) 4096 ((0 : Int32), (0 : Int32), y4)).bind fun (e12 : (Int32 × Int32 × Sg)) =>
        some (e12.1, e12.2.2)
set_option maxHeartbeats 4000000 in
set_option maxRecDepth 20000 in
theorem i_X10_kindly (a1 : Int32) (a2 : Int32) (a3 : Int32) (σ : Sg) (τ : Sl) (Q : Option Value → Hp → Prop) : Imp (f_X10_kindly a1 a2 a3 σ) (fun (y : (Int32 × Sg)) => Q (some (.int y.1)) (mk y.2 τ)) (Go M_X10_kindly Q 0 0 0 [some (.ref 75), some (.int a1), some (.int a2), some (.int a3), none, none] [] (mk σ τ)) := by
  unfold f_X10_kindly
  refine im_st (r_aload_n (i := 0) dX10_kindly_0 rfl rfl rfl) ?_
  refine im_st (r_iload_n (i := 1) dX10_kindly_1 rfl rfl rfl) ?_
  refine im_st (r_callV (as := [.int a1]) (r := some (.int (f_X10_isHog a1 σ))) (kc1 := 0) (ks1 := 0) (st := []) (st1 := [.int (f_X10_isHog a1 σ)]) (e_X10_isHog a1 σ τ) mv_X10_isHog lk_X10_180 ⟨by decide, by decide⟩ rfl (Nat.le_of_ble_eq_true rfl) (by decide) ⟨_, rfl, rfl⟩ ⟨by decide, by decide⟩ (Nat.le_of_ble_eq_true rfl) dX10_kindly_2 rfl rfl rfl rfl rfl) ?_
  refine im_br (r_if_eq (tgt := 22) dX10_kindly_5 rfl (by decide)) (fun c1 => ?_) (fun c1 => ?_)
  · refine im_st (r_iconst (v := -1) dX10_kindly_22 rfl kI_m1) ?_
    exact im_ret (fun q => g_iret rfl rfl rfl dX10_kindly_23 q)
  · refine im_st (r_iload_n (i := 2) dX10_kindly_8 rfl rfl rfl) ?_
    refine im_st (r_callS (as := [.int a2]) (r := some (.int (f_X10_isColumn a2))) (kc1 := 0) (ks1 := 0) (st := []) (st1 := [.int (f_X10_isColumn a2)]) (e_X10_isColumn a2 σ τ) ms_X10_isColumn lk_X10_213 ⟨by decide, by decide⟩ ⟨by decide, by decide⟩ (Nat.le_of_ble_eq_true rfl) dX10_kindly_9 rfl rfl rfl rfl rfl) ?_
    refine im_br (r_if_eq (tgt := 22) dX10_kindly_12 rfl (by decide)) (fun c2 => ?_) (fun c2 => ?_)
    · refine im_st (r_iconst (v := -1) dX10_kindly_22 rfl kI_m1) ?_
      exact im_ret (fun q => g_iret rfl rfl rfl dX10_kindly_23 q)
    · refine im_st (r_iload_n (i := 3) dX10_kindly_15 rfl rfl rfl) ?_
      refine im_st (r_callS (as := [.int a3]) (r := some (.int (f_X10_isRag a3))) (kc1 := 0) (ks1 := 0) (st := []) (st1 := [.int (f_X10_isRag a3)]) (e_X10_isRag a3 σ τ) ms_X10_isRag lk_X10_197 ⟨by decide, by decide⟩ ⟨by decide, by decide⟩ (Nat.le_of_ble_eq_true rfl) dX10_kindly_16 rfl rfl rfl rfl rfl) ?_
      refine im_br (r_if_ne (tgt := 24) dX10_kindly_19 rfl (by decide)) (fun c3 => ?_) (fun c3 => ?_)
      · refine im_st (r_iconst (v := -1) dX10_kindly_22 rfl kI_m1) ?_
        exact im_ret (fun q => g_iret rfl rfl rfl dX10_kindly_23 q)
      · refine im_st (r_iconst (v := 0) dX10_kindly_24 rfl kI_0) ?_
        refine im_st (r_istore (i := 4) (L1 := [some (.ref 75), some (.int a1), some (.int a2), some (.int a3), some (.int (0 : Int32)), none]) dX10_kindly_25 rfl (by decide) rfl) ?_
        refine im_st (r_aload_n (i := 0) dX10_kindly_27 rfl rfl rfl) ?_
        refine im_st (r_iconst (v := 0) dX10_kindly_28 rfl kI_0) ?_
        refine im_st (r_sipush (v := 164) dX10_kindly_29 rfl kS_164) ?_
        refine im_bind (fun y4 hy4 => ?_)
        refine im_st (r_callV (as := [.int (0 : Int32), .int (164 : Int32)]) (r := none) (kc1 := 0) (ks1 := 0) (st := []) (st1 := []) (e_X10_copies (0 : Int32) (164 : Int32) σ τ y4 hy4) mv_X10_copies lk_X10_218 ⟨by decide, by decide⟩ rfl (Nat.le_of_ble_eq_true rfl) (by decide) ⟨_, rfl, rfl⟩ ⟨by decide, by decide⟩ (Nat.le_of_ble_eq_true rfl) dX10_kindly_32 rfl rfl rfl rfl rfl) ?_
        refine im_st (r_iconst (v := 0) dX10_kindly_35 rfl kI_0) ?_
        refine im_st (r_istore (i := 5) (L1 := [some (.ref 75), some (.int a1), some (.int a2), some (.int a3), some (.int (0 : Int32)), some (.int (0 : Int32))]) dX10_kindly_36 rfl (by decide) rfl) ?_
        refine im_seq (Gm := fun (e12 : (Int32 × Int32 × Sg)) => Go M_X10_kindly Q 0 0 88 [none, none, none, none, some (.int e12.1), none] [] (mk e12.2.2 τ)) ?_ (fun e12 => ?_)
        · refine im_wh (G := fun (s5 : (Int32 × Int32 × Sg)) => Go M_X10_kindly Q 0 0 38 [some (.ref 75), some (.int a1), some (.int a2), some (.int a3), some (.int s5.1), some (.int s5.2.1)] [] (mk s5.2.2 τ)) (fun s5 => ?_) _ _
          unfold b_X10_kindly_38
          refine im_st (r_iload (i := 5) dX10_kindly_38 rfl rfl) ?_
          refine im_st (r_iconst (v := 4) dX10_kindly_40 rfl kI_4) ?_
          refine im_br (r_icmp_ge (tgt := 88) dX10_kindly_41 rfl (by decide)) (fun c6 => ?_) (fun c6 => ?_)
          · refine im_st (r_fgt (L1 := [none, none, none, none, some (.int s5.1), none]) [0, 1, 2, 3, 5] rfl) ?_
            exact im_ret id
          · refine im_st (r_aload_n (i := 0) dX10_kindly_44 rfl rfl rfl) ?_
            refine im_st (s_getR (b := 76) (tag := 10) (j := 0) dX10_kindly_45 rfl fl_X10_7 rfl (Nat.le_of_ble_eq_true rfl) rfl rfl) ?_
            refine im_st (r_sipush (v := 182) dX10_kindly_48 rfl kS_182) ?_
            refine im_st (r_iload_n (i := 1) dX10_kindly_51 rfl rfl rfl) ?_
            refine im_st (r_iadd dX10_kindly_52 rfl) ?_
            refine im_st (r_iload (i := 5) dX10_kindly_53 rfl rfl) ?_
            refine im_grd (fun g7 => ?_)
            refine im_st (s_iastore dX10_kindly_55 rfl rfl (Nat.le_of_ble_eq_true rfl) (inR_in g7)) ?_
            refine im_st (r_iload (i := 4) dX10_kindly_56 rfl rfl) ?_
            refine im_st (r_aload_n (i := 0) dX10_kindly_58 rfl rfl rfl) ?_
            refine im_st (r_sipush (v := 164) dX10_kindly_59 rfl kS_164) ?_
            refine im_st (r_iload_n (i := 1) dX10_kindly_62 rfl rfl rfl) ?_
            refine im_st (r_iload_n (i := 2) dX10_kindly_63 rfl rfl rfl) ?_
            refine im_app (Gm := fun (σ8 : Sg) => Go M_X10_kindly Q 0 0 64 [some (.ref 75), some (.int a1), some (.int a2), some (.int a3), some (.int s5.1), some (.int s5.2.1)] [.int a2, .int a1, .int (164 : Int32), .ref 75, .int s5.1] (mk σ8 τ)) (fun σ8 => ?_)
            refine im_bind (fun y9 hy9 => ?_)
            refine im_st (r_callV (as := [.int (164 : Int32), .int a1, .int a2]) (r := some (.int y9.1)) (kc1 := 0) (ks1 := 0) (st := [.int s5.1]) (st1 := [.int y9.1, .int s5.1]) (e_X10_winnerOn (164 : Int32) a1 a2 σ8 τ y9 hy9) mv_X10_winnerOn lk_X10_168 ⟨by decide, by decide⟩ rfl (Nat.le_of_ble_eq_true rfl) (by decide) ⟨_, rfl, rfl⟩ ⟨by decide, by decide⟩ (Nat.le_of_ble_eq_true rfl) dX10_kindly_64 rfl rfl rfl rfl rfl) ?_
            refine im_st (r_iload_n (i := 3) dX10_kindly_67 rfl rfl rfl) ?_
            refine im_seqT (Gm := fun (j10 : Int32) => Go M_X10_kindly Q 0 0 79 [some (.ref 75), some (.int a1), some (.int a2), some (.int a3), none, some (.int s5.2.1)] [.int j10, .int s5.1] (mk y9.2 τ)) ?_ (fun j10 => ?_)
            · refine im_brS (r_icmp_ne (tgt := 78) dX10_kindly_68 rfl (by decide)) (fun c11 => ?_) (fun c11 => ?_)
              · refine im_st (r_iconst (v := 1) dX10_kindly_71 rfl kI_1) ?_
                refine im_st (r_iload (i := 5) dX10_kindly_72 rfl rfl) ?_
                refine im_st (r_ishl dX10_kindly_74 rfl) ?_
                refine im_st (r_goto (pc1 := 79) dX10_kindly_75 (by decide)) ?_
                refine im_st (r_fgt (L1 := [some (.ref 75), some (.int a1), some (.int a2), some (.int a3), none, some (.int s5.2.1)]) [4] rfl) ?_
                exact im_ret id
              · refine im_st (r_iconst (v := 0) dX10_kindly_78 rfl kI_0) ?_
                refine im_st (r_fgt (L1 := [some (.ref 75), some (.int a1), some (.int a2), some (.int a3), none, some (.int s5.2.1)]) [4] rfl) ?_
                exact im_ret id
            refine im_st (r_ior dX10_kindly_79 rfl) ?_
            refine im_st (r_istore (i := 4) (L1 := [some (.ref 75), some (.int a1), some (.int a2), some (.int a3), some (.int (s5.1 ||| j10)), some (.int s5.2.1)]) dX10_kindly_80 rfl (by decide) rfl) ?_
            refine im_st (r_iinc (i := 5) (x := s5.2.1) (v := (s5.2.1 + 1)) (L1 := [some (.ref 75), some (.int a1), some (.int a2), some (.int a3), some (.int (s5.1 ||| j10)), some (.int (s5.2.1 + 1))]) dX10_kindly_82 rfl rfl rfl (by decide) rfl) ?_
            refine im_st (r_goto (pc1 := 38) dX10_kindly_85 (by decide)) ?_
            exact im_ret id
        refine im_st (r_iload (i := 4) dX10_kindly_88 rfl rfl) ?_
        exact im_ret (fun q => g_iret rfl rfl rfl dX10_kindly_90 q)
theorem e_X10_kindly (a1 : Int32) (a2 : Int32) (a3 : Int32) (σ : Sg) (τ : Sl) (y : (Int32 × Sg)) (hy : f_X10_kindly a1 a2 a3 σ = some y) : EvD M_X10_kindly [.ref 75, .int a1, .int a2, .int a3] (mk σ τ) (some (.int y.1)) (mk y.2 τ) := EvM.of (by decide +kernel) (Nat.le_of_ble_eq_true rfl) (i_X10_kindly a1 a2 a3 σ τ _ y hy ⟨rfl, rfl⟩)
def M_X10_place : Ms := (yX10_place, cX10_place, 7, some .int, 4, 102, 0, 0)
theorem mv_X10_place : MV M_X10_place 2 := ⟨⟨q1295, q12, by decide, by decide, by decide +kernel⟩, q1293, q1294⟩
def b_X10_place_42 (a1 : Int32) : (Int32 × Int32 × Int32 × Sg) → Option ((Int32 × Int32 × Int32 × Sg) ⊕ (Int32 × Int32 × Int32 × Sg)) := fun (s4 : (Int32 × Int32 × Int32 × Sg)) =>
  if (98 : Int32) ≤ s4.2.2.1 then
    some (.inr (s4.1, s4.2.1, s4.2.2.1, s4.2.2.2))
  else
    (if (f_X10_isCell s4.2.2.1) = 0 then
      some (s4.1, s4.2.1, s4.2.2.2)
    else
      (f_X10_isFreeOn (0 : Int32) s4.2.2.1 s4.2.2.2).bind fun (y8 : Int32) =>
      if y8 = 0 then
        some (s4.1, s4.2.1, s4.2.2.2)
      else
        (f_X10_copies (0 : Int32) (164 : Int32) s4.2.2.2).bind fun (y10 : Sg) =>
        (f_X10_drivesOn (164 : Int32) s4.2.2.1 a1 y10).bind fun (y11 : Sg) =>
        (f_X10_winsOn (164 : Int32) a1 y11).bind fun (y12 : (Int32 × Sg)) =>
        (f_X10_bitsOf y12.1).bind fun (y13 : Int32) =>
        app (if y13 ≤ s4.1 then
          s4.2.1
        else
          s4.2.2.1) fun (j14 : Int32) =>
        app (if y13 ≤ s4.1 then
          s4.1
        else
          y13) fun (j16 : Int32) =>
        some (j16, j14, y12.2)).bind fun (j6 : (Int32 × Int32 × Sg)) =>
    some (.inl (j6.1, j6.2.1, (s4.2.2.1 + 1), j6.2.2))
def f_X10_place (a1 : Int32) (a2 : Int32) (σ : Sg) : Option (Int32 × Sg) :=
  if (f_X10_isRag a1) = 0 then
    some ((-1 : Int32), σ)
  else
    if (f_X10_in (a2.toInt64) (0 : Int64) (1 : Int64)) = 0 then
      some ((-1 : Int32), σ)
    else
      if (σ 76 (38 : Int32).toNatClampNeg) = (7 : Int32) then
        some ((-3 : Int32), σ)
      else
        (wh (b_X10_place_42 a1) 4096 ((-1 : Int32), (0 : Int32), (0 : Int32), σ)).bind fun (e18 : (Int32 × Int32 × Int32 × Sg)) =>
        if a2 = 0 then
          some (e18.2.1, e18.2.2.2)
        else
          some (e18.1, e18.2.2.2)
set_option maxHeartbeats 4000000 in
set_option maxRecDepth 20000 in
theorem i_X10_place (a1 : Int32) (a2 : Int32) (σ : Sg) (τ : Sl) (Q : Option Value → Hp → Prop) : Imp (f_X10_place a1 a2 σ) (fun (y : (Int32 × Sg)) => Q (some (.int y.1)) (mk y.2 τ)) (Go M_X10_place Q 0 0 0 [some (.ref 75), some (.int a1), some (.int a2), none, none, none, none] [] (mk σ τ)) := by
  unfold f_X10_place
  refine im_st (r_iload_n (i := 1) dX10_place_0 rfl rfl rfl) ?_
  refine im_st (r_callS (as := [.int a1]) (r := some (.int (f_X10_isRag a1))) (kc1 := 0) (ks1 := 0) (st := []) (st1 := [.int (f_X10_isRag a1)]) (e_X10_isRag a1 σ τ) ms_X10_isRag lk_X10_197 ⟨by decide, by decide⟩ ⟨by decide, by decide⟩ (Nat.le_of_ble_eq_true rfl) dX10_place_1 rfl rfl rfl rfl rfl) ?_
  refine im_br (r_if_eq (tgt := 17) dX10_place_4 rfl (by decide)) (fun c1 => ?_) (fun c1 => ?_)
  · refine im_st (r_iconst (v := -1) dX10_place_17 rfl kI_m1) ?_
    exact im_ret (fun q => g_iret rfl rfl rfl dX10_place_18 q)
  · refine im_st (r_iload_n (i := 2) dX10_place_7 rfl rfl rfl) ?_
    refine im_st (r_i2l (v := a2.toInt64) dX10_place_8 rfl rfl) ?_
    refine im_st (r_lconst (v := 0) dX10_place_9 rfl rfl) ?_
    refine im_st (r_lconst (v := 1) dX10_place_10 rfl rfl) ?_
    refine im_st (r_callS (as := [.long (a2.toInt64), .long (0 : Int64), .long (1 : Int64)]) (r := some (.int (f_X10_in (a2.toInt64) (0 : Int64) (1 : Int64)))) (kc1 := 0) (ks1 := 0) (st := []) (st1 := [.int (f_X10_in (a2.toInt64) (0 : Int64) (1 : Int64))]) (e_X10_in (a2.toInt64) (0 : Int64) (1 : Int64) σ τ) ms_X10_in lk_X10_49 ⟨by decide, by decide⟩ ⟨by decide, by decide⟩ (Nat.le_of_ble_eq_true rfl) dX10_place_11 rfl rfl rfl rfl rfl) ?_
    refine im_br (r_if_ne (tgt := 19) dX10_place_14 rfl (by decide)) (fun c2 => ?_) (fun c2 => ?_)
    · refine im_st (r_iconst (v := -1) dX10_place_17 rfl kI_m1) ?_
      exact im_ret (fun q => g_iret rfl rfl rfl dX10_place_18 q)
    · refine im_st (r_aload_n (i := 0) dX10_place_19 rfl rfl rfl) ?_
      refine im_st (s_getR (b := 76) (tag := 10) (j := 0) dX10_place_20 rfl fl_X10_7 rfl (Nat.le_of_ble_eq_true rfl) rfl rfl) ?_
      refine im_st (r_bipush (v := 38) dX10_place_23 rfl kB_38) ?_
      refine im_st (s_iaload dX10_place_25 rfl rfl (Nat.le_of_ble_eq_true rfl) (inR_in rfl)) ?_
      refine im_st (r_bipush (v := 7) dX10_place_26 rfl kB_7) ?_
      refine im_br (r_icmp_ne (tgt := 34) dX10_place_28 rfl (by decide)) (fun c3 => ?_) (fun c3 => ?_)
      · refine im_st (r_bipush (v := -3) dX10_place_31 rfl kB_m3) ?_
        exact im_ret (fun q => g_iret rfl rfl rfl dX10_place_33 q)
      · refine im_st (r_iconst (v := -1) dX10_place_34 rfl kI_m1) ?_
        refine im_st (r_istore_n (i := 3) (L1 := [some (.ref 75), some (.int a1), some (.int a2), some (.int (-1 : Int32)), none, none, none]) dX10_place_35 rfl rfl (by decide) rfl) ?_
        refine im_st (r_iconst (v := 0) dX10_place_36 rfl kI_0) ?_
        refine im_st (r_istore (i := 4) (L1 := [some (.ref 75), some (.int a1), some (.int a2), some (.int (-1 : Int32)), some (.int (0 : Int32)), none, none]) dX10_place_37 rfl (by decide) rfl) ?_
        refine im_st (r_iconst (v := 0) dX10_place_39 rfl kI_0) ?_
        refine im_st (r_istore (i := 5) (L1 := [some (.ref 75), some (.int a1), some (.int a2), some (.int (-1 : Int32)), some (.int (0 : Int32)), some (.int (0 : Int32)), none]) dX10_place_40 rfl (by decide) rfl) ?_
        refine im_seq (Gm := fun (e18 : (Int32 × Int32 × Int32 × Sg)) => Go M_X10_place Q 0 0 132 [none, none, some (.int a2), some (.int e18.1), some (.int e18.2.1), none, none] [] (mk e18.2.2.2 τ)) ?_ (fun e18 => ?_)
        · refine im_wh (G := fun (s4 : (Int32 × Int32 × Int32 × Sg)) => Go M_X10_place Q 0 0 42 [some (.ref 75), some (.int a1), some (.int a2), some (.int s4.1), some (.int s4.2.1), some (.int s4.2.2.1), none] [] (mk s4.2.2.2 τ)) (fun s4 => ?_) _ _
          unfold b_X10_place_42
          refine im_st (r_iload (i := 5) dX10_place_42 rfl rfl) ?_
          refine im_st (r_bipush (v := 98) dX10_place_44 rfl kB_98) ?_
          refine im_br (r_icmp_ge (tgt := 132) dX10_place_46 rfl (by decide)) (fun c5 => ?_) (fun c5 => ?_)
          · refine im_st (r_fgt (L1 := [none, none, some (.int a2), some (.int s4.1), some (.int s4.2.1), none, none]) [0, 1, 5] rfl) ?_
            exact im_ret id
          · refine im_st (r_iload (i := 5) dX10_place_49 rfl rfl) ?_
            refine im_st (r_callS (as := [.int s4.2.2.1]) (r := some (.int (f_X10_isCell s4.2.2.1))) (kc1 := 0) (ks1 := 0) (st := []) (st1 := [.int (f_X10_isCell s4.2.2.1)]) (e_X10_isCell s4.2.2.1 s4.2.2.2 τ) ms_X10_isCell lk_X10_186 ⟨by decide, by decide⟩ ⟨by decide, by decide⟩ (Nat.le_of_ble_eq_true rfl) dX10_place_51 rfl rfl rfl rfl rfl) ?_
            refine im_seq (Gm := fun (j6 : (Int32 × Int32 × Sg)) => Go M_X10_place Q 0 0 126 [some (.ref 75), some (.int a1), some (.int a2), some (.int j6.1), some (.int j6.2.1), some (.int s4.2.2.1), none] [] (mk j6.2.2 τ)) ?_ (fun j6 => ?_)
            · refine im_br (r_if_eq (tgt := 126) dX10_place_54 rfl (by decide)) (fun c7 => ?_) (fun c7 => ?_)
              · exact im_ret id
              · refine im_st (r_aload_n (i := 0) dX10_place_57 rfl rfl rfl) ?_
                refine im_st (r_iconst (v := 0) dX10_place_58 rfl kI_0) ?_
                refine im_st (r_iload (i := 5) dX10_place_59 rfl rfl) ?_
                refine im_bind (fun y8 hy8 => ?_)
                refine im_st (r_callV (as := [.int (0 : Int32), .int s4.2.2.1]) (r := some (.int y8)) (kc1 := 0) (ks1 := 0) (st := []) (st1 := [.int y8]) (e_X10_isFreeOn (0 : Int32) s4.2.2.1 s4.2.2.2 τ y8 hy8) mv_X10_isFreeOn lk_X10_189 ⟨by decide, by decide⟩ rfl (Nat.le_of_ble_eq_true rfl) (by decide) ⟨_, rfl, rfl⟩ ⟨by decide, by decide⟩ (Nat.le_of_ble_eq_true rfl) dX10_place_61 rfl rfl rfl rfl rfl) ?_
                refine im_br (r_if_eq (tgt := 126) dX10_place_64 rfl (by decide)) (fun c9 => ?_) (fun c9 => ?_)
                · exact im_ret id
                · refine im_st (r_aload_n (i := 0) dX10_place_67 rfl rfl rfl) ?_
                  refine im_st (r_iconst (v := 0) dX10_place_68 rfl kI_0) ?_
                  refine im_st (r_sipush (v := 164) dX10_place_69 rfl kS_164) ?_
                  refine im_bind (fun y10 hy10 => ?_)
                  refine im_st (r_callV (as := [.int (0 : Int32), .int (164 : Int32)]) (r := none) (kc1 := 0) (ks1 := 0) (st := []) (st1 := []) (e_X10_copies (0 : Int32) (164 : Int32) s4.2.2.2 τ y10 hy10) mv_X10_copies lk_X10_218 ⟨by decide, by decide⟩ rfl (Nat.le_of_ble_eq_true rfl) (by decide) ⟨_, rfl, rfl⟩ ⟨by decide, by decide⟩ (Nat.le_of_ble_eq_true rfl) dX10_place_72 rfl rfl rfl rfl rfl) ?_
                  refine im_st (r_aload_n (i := 0) dX10_place_75 rfl rfl rfl) ?_
                  refine im_st (r_sipush (v := 164) dX10_place_76 rfl kS_164) ?_
                  refine im_st (r_iload (i := 5) dX10_place_79 rfl rfl) ?_
                  refine im_st (r_iload_n (i := 1) dX10_place_81 rfl rfl rfl) ?_
                  refine im_bind (fun y11 hy11 => ?_)
                  refine im_st (r_callV (as := [.int (164 : Int32), .int s4.2.2.1, .int a1]) (r := none) (kc1 := 0) (ks1 := 0) (st := []) (st1 := []) (e_X10_drivesOn (164 : Int32) s4.2.2.1 a1 y10 τ y11 hy11) mv_X10_drivesOn lk_X10_202 ⟨by decide, by decide⟩ rfl (Nat.le_of_ble_eq_true rfl) (by decide) ⟨_, rfl, rfl⟩ ⟨by decide, by decide⟩ (Nat.le_of_ble_eq_true rfl) dX10_place_82 rfl rfl rfl rfl rfl) ?_
                  refine im_st (r_aload_n (i := 0) dX10_place_85 rfl rfl rfl) ?_
                  refine im_st (r_sipush (v := 164) dX10_place_86 rfl kS_164) ?_
                  refine im_st (r_iload_n (i := 1) dX10_place_89 rfl rfl rfl) ?_
                  refine im_bind (fun y12 hy12 => ?_)
                  refine im_st (r_callV (as := [.int (164 : Int32), .int a1]) (r := some (.int y12.1)) (kc1 := 0) (ks1 := 0) (st := []) (st1 := [.int y12.1]) (e_X10_winsOn (164 : Int32) a1 y11 τ y12 hy12) mv_X10_winsOn lk_X10_172 ⟨by decide, by decide⟩ rfl (Nat.le_of_ble_eq_true rfl) (by decide) ⟨_, rfl, rfl⟩ ⟨by decide, by decide⟩ (Nat.le_of_ble_eq_true rfl) dX10_place_90 rfl rfl rfl rfl rfl) ?_
                  refine im_bind (fun y13 hy13 => ?_)
                  refine im_st (r_callS (as := [.int y12.1]) (r := some (.int y13)) (kc1 := 0) (ks1 := 0) (st := []) (st1 := [.int y13]) (e_X10_bitsOf y12.1 y12.2 τ y13 hy13) ms_X10_bitsOf lk_X10_221 ⟨by decide, by decide⟩ ⟨by decide, by decide⟩ (Nat.le_of_ble_eq_true rfl) dX10_place_93 rfl rfl rfl rfl rfl) ?_
                  refine im_st (r_istore (i := 6) (L1 := [some (.ref 75), some (.int a1), some (.int a2), some (.int s4.1), some (.int s4.2.1), some (.int s4.2.2.1), some (.int y13)]) dX10_place_96 rfl (by decide) rfl) ?_
                  refine im_st (r_iload (i := 6) dX10_place_98 rfl rfl) ?_
                  refine im_st (r_iload_n (i := 3) dX10_place_100 rfl rfl rfl) ?_
                  refine im_seqT (Gm := fun (j14 : Int32) => Go M_X10_place Q 0 0 111 [some (.ref 75), some (.int a1), some (.int a2), some (.int s4.1), none, some (.int s4.2.2.1), some (.int y13)] [.int j14] (mk y12.2 τ)) ?_ (fun j14 => ?_)
                  · refine im_brS (r_icmp_le (tgt := 109) dX10_place_101 rfl (by decide)) (fun c15 => ?_) (fun c15 => ?_)
                    · refine im_st (r_iload (i := 4) dX10_place_109 rfl rfl) ?_
                      refine im_st (r_fgt (L1 := [some (.ref 75), some (.int a1), some (.int a2), some (.int s4.1), none, some (.int s4.2.2.1), some (.int y13)]) [4] rfl) ?_
                      exact im_ret id
                    · refine im_st (r_iload (i := 5) dX10_place_104 rfl rfl) ?_
                      refine im_st (r_goto (pc1 := 111) dX10_place_106 (by decide)) ?_
                      refine im_st (r_fgt (L1 := [some (.ref 75), some (.int a1), some (.int a2), some (.int s4.1), none, some (.int s4.2.2.1), some (.int y13)]) [4] rfl) ?_
                      exact im_ret id
                  refine im_st (r_istore (i := 4) (L1 := [some (.ref 75), some (.int a1), some (.int a2), some (.int s4.1), some (.int j14), some (.int s4.2.2.1), some (.int y13)]) dX10_place_111 rfl (by decide) rfl) ?_
                  refine im_st (r_iload (i := 6) dX10_place_113 rfl rfl) ?_
                  refine im_st (r_iload_n (i := 3) dX10_place_115 rfl rfl rfl) ?_
                  refine im_seqT (Gm := fun (j16 : Int32) => Go M_X10_place Q 0 0 125 [some (.ref 75), some (.int a1), some (.int a2), none, some (.int j14), some (.int s4.2.2.1), none] [.int j16] (mk y12.2 τ)) ?_ (fun j16 => ?_)
                  · refine im_brS (r_icmp_le (tgt := 124) dX10_place_116 rfl (by decide)) (fun c17 => ?_) (fun c17 => ?_)
                    · refine im_st (r_iload_n (i := 3) dX10_place_124 rfl rfl rfl) ?_
                      refine im_st (r_fgt (L1 := [some (.ref 75), some (.int a1), some (.int a2), none, some (.int j14), some (.int s4.2.2.1), none]) [3, 6] rfl) ?_
                      exact im_ret id
                    · refine im_st (r_iload (i := 6) dX10_place_119 rfl rfl) ?_
                      refine im_st (r_goto (pc1 := 125) dX10_place_121 (by decide)) ?_
                      refine im_st (r_fgt (L1 := [some (.ref 75), some (.int a1), some (.int a2), none, some (.int j14), some (.int s4.2.2.1), none]) [3, 6] rfl) ?_
                      exact im_ret id
                  refine im_st (r_istore_n (i := 3) (L1 := [some (.ref 75), some (.int a1), some (.int a2), some (.int j16), some (.int j14), some (.int s4.2.2.1), none]) dX10_place_125 rfl rfl (by decide) rfl) ?_
                  exact im_ret id
            refine im_st (r_iinc (i := 5) (x := s4.2.2.1) (v := (s4.2.2.1 + 1)) (L1 := [some (.ref 75), some (.int a1), some (.int a2), some (.int j6.1), some (.int j6.2.1), some (.int (s4.2.2.1 + 1)), none]) dX10_place_126 rfl rfl rfl (by decide) rfl) ?_
            refine im_st (r_goto (pc1 := 42) dX10_place_129 (by decide)) ?_
            exact im_ret id
        refine im_st (r_iload_n (i := 2) dX10_place_132 rfl rfl rfl) ?_
        refine im_br (r_if_ne (tgt := 141) dX10_place_133 rfl (by decide)) (fun c19 => ?_) (fun c19 => ?_)
        · refine im_st (r_iload (i := 4) dX10_place_136 rfl rfl) ?_
          refine im_st (r_goto (pc1 := 142) dX10_place_138 (by decide)) ?_
          exact im_ret (fun q => g_iret rfl rfl rfl dX10_place_142 q)
        · refine im_st (r_iload_n (i := 3) dX10_place_141 rfl rfl rfl) ?_
          exact im_ret (fun q => g_iret rfl rfl rfl dX10_place_142 q)
theorem e_X10_place (a1 : Int32) (a2 : Int32) (σ : Sg) (τ : Sl) (y : (Int32 × Sg)) (hy : f_X10_place a1 a2 σ = some y) : EvD M_X10_place [.ref 75, .int a1, .int a2] (mk σ τ) (some (.int y.1)) (mk y.2 τ) := EvM.of (by decide +kernel) (Nat.le_of_ble_eq_true rfl) (i_X10_place a1 a2 σ τ _ y hy ⟨rfl, rfl⟩)
def M_X10_move : Ms := (yX10_move, cX10_move, 7, some .int, 4, 102, 0, 0)
theorem mv_X10_move : MV M_X10_move 2 := ⟨⟨q1302, q12, by decide, by decide, by decide +kernel⟩, q1300, q1301⟩
def b_X10_move_36 (a1 : Int32) : (Int32 × Int32 × Int32 × Sg) → Option ((Int32 × Int32 × Int32 × Sg) ⊕ (Int32 × Int32 × Int32 × Sg)) := fun (s4 : (Int32 × Int32 × Int32 × Sg)) =>
  if (98 : Int32) ≤ s4.2.2.1 then
    some (.inr (s4.1, s4.2.1, s4.2.2.1, s4.2.2.2))
  else
    (if (f_X10_isCell s4.2.2.1) = 0 then
      some (s4.1, s4.2.1, s4.2.2.2)
    else
      (f_X10_isFreeOn (0 : Int32) s4.2.2.1 s4.2.2.2).bind fun (y8 : Int32) =>
      if y8 = 0 then
        if inR a1 205 then
        if (s4.2.2.2 76 a1.toNatClampNeg) = s4.2.2.1 then
          if inR ((164 : Int32) + a1) 205 then
          app (up2 s4.2.2.2 76 ((164 : Int32) + a1).toNatClampNeg s4.2.2.1) fun (σ13 : Sg) =>
          if inR ((7 : Int32) + a1) 205 then
          (f_X10_winsOn (164 : Int32) (σ13 76 ((7 : Int32) + a1).toNatClampNeg) σ13).bind fun (y15 : (Int32 × Sg)) =>
          (f_X10_bitsOf y15.1).bind fun (y16 : Int32) =>
          app (if y16 ≤ s4.1 then
            s4.2.1
          else
            s4.2.2.1) fun (j17 : Int32) =>
          app (if y16 ≤ s4.1 then
            s4.1
          else
            y16) fun (j19 : Int32) =>
          some (j19, j17, y15.2)
          else none
          else none
        else
          some (s4.1, s4.2.1, s4.2.2.2)
        else none
      else
        if inR ((164 : Int32) + a1) 205 then
        app (up2 s4.2.2.2 76 ((164 : Int32) + a1).toNatClampNeg s4.2.2.1) fun (σ22 : Sg) =>
        if inR ((7 : Int32) + a1) 205 then
        (f_X10_winsOn (164 : Int32) (σ22 76 ((7 : Int32) + a1).toNatClampNeg) σ22).bind fun (y24 : (Int32 × Sg)) =>
        (f_X10_bitsOf y24.1).bind fun (y25 : Int32) =>
        app (if y25 ≤ s4.1 then
          s4.2.1
        else
          s4.2.2.1) fun (j26 : Int32) =>
        app (if y25 ≤ s4.1 then
          s4.1
        else
          y25) fun (j28 : Int32) =>
        some (j28, j26, y24.2)
        else none
        else none).bind fun (j6 : (Int32 × Int32 × Sg)) =>
    some (.inl (j6.1, j6.2.1, (s4.2.2.1 + 1), j6.2.2))
def f_X10_move (a1 : Int32) (a2 : Int32) (σ : Sg) : Option (Int32 × Sg) :=
  if (f_X10_isPeg a1 σ) = 0 then
    some ((-1 : Int32), σ)
  else
    if (f_X10_in (a2.toInt64) (0 : Int64) (1 : Int64)) = 0 then
      some ((-1 : Int32), σ)
    else
      (f_X10_copies (0 : Int32) (164 : Int32) σ).bind fun (y3 : Sg) =>
      (wh (b_X10_move_36 a1) 4096 ((-1 : Int32), (0 : Int32), (0 : Int32), y3)).bind fun (e30 : (Int32 × Int32 × Int32 × Sg)) =>
      if a2 = 0 then
        some (e30.2.1, e30.2.2.2)
      else
        some (e30.1, e30.2.2.2)
set_option maxHeartbeats 4000000 in
set_option maxRecDepth 20000 in
theorem i_X10_move (a1 : Int32) (a2 : Int32) (σ : Sg) (τ : Sl) (Q : Option Value → Hp → Prop) : Imp (f_X10_move a1 a2 σ) (fun (y : (Int32 × Sg)) => Q (some (.int y.1)) (mk y.2 τ)) (Go M_X10_move Q 0 0 0 [some (.ref 75), some (.int a1), some (.int a2), none, none, none, none] [] (mk σ τ)) := by
  unfold f_X10_move
  refine im_st (r_aload_n (i := 0) dX10_move_0 rfl rfl rfl) ?_
  refine im_st (r_iload_n (i := 1) dX10_move_1 rfl rfl rfl) ?_
  refine im_st (r_callV (as := [.int a1]) (r := some (.int (f_X10_isPeg a1 σ))) (kc1 := 0) (ks1 := 0) (st := []) (st1 := [.int (f_X10_isPeg a1 σ)]) (e_X10_isPeg a1 σ τ) mv_X10_isPeg lk_X10_175 ⟨by decide, by decide⟩ rfl (Nat.le_of_ble_eq_true rfl) (by decide) ⟨_, rfl, rfl⟩ ⟨by decide, by decide⟩ (Nat.le_of_ble_eq_true rfl) dX10_move_2 rfl rfl rfl rfl rfl) ?_
  refine im_br (r_if_eq (tgt := 18) dX10_move_5 rfl (by decide)) (fun c1 => ?_) (fun c1 => ?_)
  · refine im_st (r_iconst (v := -1) dX10_move_18 rfl kI_m1) ?_
    exact im_ret (fun q => g_iret rfl rfl rfl dX10_move_19 q)
  · refine im_st (r_iload_n (i := 2) dX10_move_8 rfl rfl rfl) ?_
    refine im_st (r_i2l (v := a2.toInt64) dX10_move_9 rfl rfl) ?_
    refine im_st (r_lconst (v := 0) dX10_move_10 rfl rfl) ?_
    refine im_st (r_lconst (v := 1) dX10_move_11 rfl rfl) ?_
    refine im_st (r_callS (as := [.long (a2.toInt64), .long (0 : Int64), .long (1 : Int64)]) (r := some (.int (f_X10_in (a2.toInt64) (0 : Int64) (1 : Int64)))) (kc1 := 0) (ks1 := 0) (st := []) (st1 := [.int (f_X10_in (a2.toInt64) (0 : Int64) (1 : Int64))]) (e_X10_in (a2.toInt64) (0 : Int64) (1 : Int64) σ τ) ms_X10_in lk_X10_49 ⟨by decide, by decide⟩ ⟨by decide, by decide⟩ (Nat.le_of_ble_eq_true rfl) dX10_move_12 rfl rfl rfl rfl rfl) ?_
    refine im_br (r_if_ne (tgt := 20) dX10_move_15 rfl (by decide)) (fun c2 => ?_) (fun c2 => ?_)
    · refine im_st (r_iconst (v := -1) dX10_move_18 rfl kI_m1) ?_
      exact im_ret (fun q => g_iret rfl rfl rfl dX10_move_19 q)
    · refine im_st (r_iconst (v := -1) dX10_move_20 rfl kI_m1) ?_
      refine im_st (r_istore_n (i := 3) (L1 := [some (.ref 75), some (.int a1), some (.int a2), some (.int (-1 : Int32)), none, none, none]) dX10_move_21 rfl rfl (by decide) rfl) ?_
      refine im_st (r_iconst (v := 0) dX10_move_22 rfl kI_0) ?_
      refine im_st (r_istore (i := 4) (L1 := [some (.ref 75), some (.int a1), some (.int a2), some (.int (-1 : Int32)), some (.int (0 : Int32)), none, none]) dX10_move_23 rfl (by decide) rfl) ?_
      refine im_st (r_aload_n (i := 0) dX10_move_25 rfl rfl rfl) ?_
      refine im_st (r_iconst (v := 0) dX10_move_26 rfl kI_0) ?_
      refine im_st (r_sipush (v := 164) dX10_move_27 rfl kS_164) ?_
      refine im_bind (fun y3 hy3 => ?_)
      refine im_st (r_callV (as := [.int (0 : Int32), .int (164 : Int32)]) (r := none) (kc1 := 0) (ks1 := 0) (st := []) (st1 := []) (e_X10_copies (0 : Int32) (164 : Int32) σ τ y3 hy3) mv_X10_copies lk_X10_218 ⟨by decide, by decide⟩ rfl (Nat.le_of_ble_eq_true rfl) (by decide) ⟨_, rfl, rfl⟩ ⟨by decide, by decide⟩ (Nat.le_of_ble_eq_true rfl) dX10_move_30 rfl rfl rfl rfl rfl) ?_
      refine im_st (r_iconst (v := 0) dX10_move_33 rfl kI_0) ?_
      refine im_st (r_istore (i := 5) (L1 := [some (.ref 75), some (.int a1), some (.int a2), some (.int (-1 : Int32)), some (.int (0 : Int32)), some (.int (0 : Int32)), none]) dX10_move_34 rfl (by decide) rfl) ?_
      refine im_seq (Gm := fun (e30 : (Int32 × Int32 × Int32 × Sg)) => Go M_X10_move Q 0 0 139 [none, none, some (.int a2), some (.int e30.1), some (.int e30.2.1), none, none] [] (mk e30.2.2.2 τ)) ?_ (fun e30 => ?_)
      · refine im_wh (G := fun (s4 : (Int32 × Int32 × Int32 × Sg)) => Go M_X10_move Q 0 0 36 [some (.ref 75), some (.int a1), some (.int a2), some (.int s4.1), some (.int s4.2.1), some (.int s4.2.2.1), none] [] (mk s4.2.2.2 τ)) (fun s4 => ?_) _ _
        unfold b_X10_move_36
        refine im_st (r_iload (i := 5) dX10_move_36 rfl rfl) ?_
        refine im_st (r_bipush (v := 98) dX10_move_38 rfl kB_98) ?_
        refine im_br (r_icmp_ge (tgt := 139) dX10_move_40 rfl (by decide)) (fun c5 => ?_) (fun c5 => ?_)
        · refine im_st (r_fgt (L1 := [none, none, some (.int a2), some (.int s4.1), some (.int s4.2.1), none, none]) [0, 1, 5] rfl) ?_
          exact im_ret id
        · refine im_st (r_iload (i := 5) dX10_move_43 rfl rfl) ?_
          refine im_st (r_callS (as := [.int s4.2.2.1]) (r := some (.int (f_X10_isCell s4.2.2.1))) (kc1 := 0) (ks1 := 0) (st := []) (st1 := [.int (f_X10_isCell s4.2.2.1)]) (e_X10_isCell s4.2.2.1 s4.2.2.2 τ) ms_X10_isCell lk_X10_186 ⟨by decide, by decide⟩ ⟨by decide, by decide⟩ (Nat.le_of_ble_eq_true rfl) dX10_move_45 rfl rfl rfl rfl rfl) ?_
          refine im_seq (Gm := fun (j6 : (Int32 × Int32 × Sg)) => Go M_X10_move Q 0 0 133 [some (.ref 75), some (.int a1), some (.int a2), some (.int j6.1), some (.int j6.2.1), some (.int s4.2.2.1), none] [] (mk j6.2.2 τ)) ?_ (fun j6 => ?_)
          · refine im_br (r_if_eq (tgt := 133) dX10_move_48 rfl (by decide)) (fun c7 => ?_) (fun c7 => ?_)
            · exact im_ret id
            · refine im_st (r_aload_n (i := 0) dX10_move_51 rfl rfl rfl) ?_
              refine im_st (r_iconst (v := 0) dX10_move_52 rfl kI_0) ?_
              refine im_st (r_iload (i := 5) dX10_move_53 rfl rfl) ?_
              refine im_bind (fun y8 hy8 => ?_)
              refine im_st (r_callV (as := [.int (0 : Int32), .int s4.2.2.1]) (r := some (.int y8)) (kc1 := 0) (ks1 := 0) (st := []) (st1 := [.int y8]) (e_X10_isFreeOn (0 : Int32) s4.2.2.1 s4.2.2.2 τ y8 hy8) mv_X10_isFreeOn lk_X10_189 ⟨by decide, by decide⟩ rfl (Nat.le_of_ble_eq_true rfl) (by decide) ⟨_, rfl, rfl⟩ ⟨by decide, by decide⟩ (Nat.le_of_ble_eq_true rfl) dX10_move_55 rfl rfl rfl rfl rfl) ?_
              refine im_br (r_if_ne (tgt := 72) dX10_move_58 rfl (by decide)) (fun c9 => ?_) (fun c9 => ?_)
              · refine im_st (r_aload_n (i := 0) dX10_move_61 rfl rfl rfl) ?_
                refine im_st (s_getR (b := 76) (tag := 10) (j := 0) dX10_move_62 rfl fl_X10_7 rfl (Nat.le_of_ble_eq_true rfl) rfl rfl) ?_
                refine im_st (r_iload_n (i := 1) dX10_move_65 rfl rfl rfl) ?_
                refine im_grd (fun g10 => ?_)
                refine im_st (s_iaload dX10_move_66 rfl rfl (Nat.le_of_ble_eq_true rfl) (inR_in g10)) ?_
                refine im_st (r_iload (i := 5) dX10_move_67 rfl rfl) ?_
                refine im_br (r_icmp_ne (tgt := 133) dX10_move_69 rfl (by decide)) (fun c11 => ?_) (fun c11 => ?_)
                · refine im_st (r_aload_n (i := 0) dX10_move_72 rfl rfl rfl) ?_
                  refine im_st (s_getR (b := 76) (tag := 10) (j := 0) dX10_move_73 rfl fl_X10_7 rfl (Nat.le_of_ble_eq_true rfl) rfl rfl) ?_
                  refine im_st (r_sipush (v := 164) dX10_move_76 rfl kS_164) ?_
                  refine im_st (r_iload_n (i := 1) dX10_move_79 rfl rfl rfl) ?_
                  refine im_st (r_iadd dX10_move_80 rfl) ?_
                  refine im_st (r_iload (i := 5) dX10_move_81 rfl rfl) ?_
                  refine im_grd (fun g12 => ?_)
                  refine im_st (s_iastore dX10_move_83 rfl rfl (Nat.le_of_ble_eq_true rfl) (inR_in g12)) ?_
                  refine im_st (r_aload_n (i := 0) dX10_move_84 rfl rfl rfl) ?_
                  refine im_st (r_sipush (v := 164) dX10_move_85 rfl kS_164) ?_
                  refine im_st (r_aload_n (i := 0) dX10_move_88 rfl rfl rfl) ?_
                  refine im_st (s_getR (b := 76) (tag := 10) (j := 0) dX10_move_89 rfl fl_X10_7 rfl (Nat.le_of_ble_eq_true rfl) rfl rfl) ?_
                  refine im_st (r_bipush (v := 7) dX10_move_92 rfl kB_7) ?_
                  refine im_st (r_iload_n (i := 1) dX10_move_94 rfl rfl rfl) ?_
                  refine im_st (r_iadd dX10_move_95 rfl) ?_
                  refine im_app (Gm := fun (σ13 : Sg) => Go M_X10_move Q 0 0 96 [some (.ref 75), some (.int a1), some (.int a2), some (.int s4.1), some (.int s4.2.1), some (.int s4.2.2.1), none] [.int ((7 : Int32) + a1), .ref 76, .int (164 : Int32), .ref 75] (mk σ13 τ)) (fun σ13 => ?_)
                  refine im_grd (fun g14 => ?_)
                  refine im_st (s_iaload dX10_move_96 rfl rfl (Nat.le_of_ble_eq_true rfl) (inR_in g14)) ?_
                  refine im_bind (fun y15 hy15 => ?_)
                  refine im_st (r_callV (as := [.int (164 : Int32), .int (σ13 76 ((7 : Int32) + a1).toNatClampNeg)]) (r := some (.int y15.1)) (kc1 := 0) (ks1 := 0) (st := []) (st1 := [.int y15.1]) (e_X10_winsOn (164 : Int32) (σ13 76 ((7 : Int32) + a1).toNatClampNeg) σ13 τ y15 hy15) mv_X10_winsOn lk_X10_172 ⟨by decide, by decide⟩ rfl (Nat.le_of_ble_eq_true rfl) (by decide) ⟨_, rfl, rfl⟩ ⟨by decide, by decide⟩ (Nat.le_of_ble_eq_true rfl) dX10_move_97 rfl rfl rfl rfl rfl) ?_
                  refine im_bind (fun y16 hy16 => ?_)
                  refine im_st (r_callS (as := [.int y15.1]) (r := some (.int y16)) (kc1 := 0) (ks1 := 0) (st := []) (st1 := [.int y16]) (e_X10_bitsOf y15.1 y15.2 τ y16 hy16) ms_X10_bitsOf lk_X10_221 ⟨by decide, by decide⟩ ⟨by decide, by decide⟩ (Nat.le_of_ble_eq_true rfl) dX10_move_100 rfl rfl rfl rfl rfl) ?_
                  refine im_st (r_istore (i := 6) (L1 := [some (.ref 75), some (.int a1), some (.int a2), some (.int s4.1), some (.int s4.2.1), some (.int s4.2.2.1), some (.int y16)]) dX10_move_103 rfl (by decide) rfl) ?_
                  refine im_st (r_iload (i := 6) dX10_move_105 rfl rfl) ?_
                  refine im_st (r_iload_n (i := 3) dX10_move_107 rfl rfl rfl) ?_
                  refine im_seqT (Gm := fun (j17 : Int32) => Go M_X10_move Q 0 0 118 [some (.ref 75), some (.int a1), some (.int a2), some (.int s4.1), none, some (.int s4.2.2.1), some (.int y16)] [.int j17] (mk y15.2 τ)) ?_ (fun j17 => ?_)
                  · refine im_brS (r_icmp_le (tgt := 116) dX10_move_108 rfl (by decide)) (fun c18 => ?_) (fun c18 => ?_)
                    · refine im_st (r_iload (i := 4) dX10_move_116 rfl rfl) ?_
                      refine im_st (r_fgt (L1 := [some (.ref 75), some (.int a1), some (.int a2), some (.int s4.1), none, some (.int s4.2.2.1), some (.int y16)]) [4] rfl) ?_
                      exact im_ret id
                    · refine im_st (r_iload (i := 5) dX10_move_111 rfl rfl) ?_
                      refine im_st (r_goto (pc1 := 118) dX10_move_113 (by decide)) ?_
                      refine im_st (r_fgt (L1 := [some (.ref 75), some (.int a1), some (.int a2), some (.int s4.1), none, some (.int s4.2.2.1), some (.int y16)]) [4] rfl) ?_
                      exact im_ret id
                  refine im_st (r_istore (i := 4) (L1 := [some (.ref 75), some (.int a1), some (.int a2), some (.int s4.1), some (.int j17), some (.int s4.2.2.1), some (.int y16)]) dX10_move_118 rfl (by decide) rfl) ?_
                  refine im_st (r_iload (i := 6) dX10_move_120 rfl rfl) ?_
                  refine im_st (r_iload_n (i := 3) dX10_move_122 rfl rfl rfl) ?_
                  refine im_seqT (Gm := fun (j19 : Int32) => Go M_X10_move Q 0 0 132 [some (.ref 75), some (.int a1), some (.int a2), none, some (.int j17), some (.int s4.2.2.1), none] [.int j19] (mk y15.2 τ)) ?_ (fun j19 => ?_)
                  · refine im_brS (r_icmp_le (tgt := 131) dX10_move_123 rfl (by decide)) (fun c20 => ?_) (fun c20 => ?_)
                    · refine im_st (r_iload_n (i := 3) dX10_move_131 rfl rfl rfl) ?_
                      refine im_st (r_fgt (L1 := [some (.ref 75), some (.int a1), some (.int a2), none, some (.int j17), some (.int s4.2.2.1), none]) [3, 6] rfl) ?_
                      exact im_ret id
                    · refine im_st (r_iload (i := 6) dX10_move_126 rfl rfl) ?_
                      refine im_st (r_goto (pc1 := 132) dX10_move_128 (by decide)) ?_
                      refine im_st (r_fgt (L1 := [some (.ref 75), some (.int a1), some (.int a2), none, some (.int j17), some (.int s4.2.2.1), none]) [3, 6] rfl) ?_
                      exact im_ret id
                  refine im_st (r_istore_n (i := 3) (L1 := [some (.ref 75), some (.int a1), some (.int a2), some (.int j19), some (.int j17), some (.int s4.2.2.1), none]) dX10_move_132 rfl rfl (by decide) rfl) ?_
                  exact im_ret id
                · exact im_ret id
              · refine im_st (r_aload_n (i := 0) dX10_move_72 rfl rfl rfl) ?_
                refine im_st (s_getR (b := 76) (tag := 10) (j := 0) dX10_move_73 rfl fl_X10_7 rfl (Nat.le_of_ble_eq_true rfl) rfl rfl) ?_
                refine im_st (r_sipush (v := 164) dX10_move_76 rfl kS_164) ?_
                refine im_st (r_iload_n (i := 1) dX10_move_79 rfl rfl rfl) ?_
                refine im_st (r_iadd dX10_move_80 rfl) ?_
                refine im_st (r_iload (i := 5) dX10_move_81 rfl rfl) ?_
                refine im_grd (fun g21 => ?_)
                refine im_st (s_iastore dX10_move_83 rfl rfl (Nat.le_of_ble_eq_true rfl) (inR_in g21)) ?_
                refine im_st (r_aload_n (i := 0) dX10_move_84 rfl rfl rfl) ?_
                refine im_st (r_sipush (v := 164) dX10_move_85 rfl kS_164) ?_
                refine im_st (r_aload_n (i := 0) dX10_move_88 rfl rfl rfl) ?_
                refine im_st (s_getR (b := 76) (tag := 10) (j := 0) dX10_move_89 rfl fl_X10_7 rfl (Nat.le_of_ble_eq_true rfl) rfl rfl) ?_
                refine im_st (r_bipush (v := 7) dX10_move_92 rfl kB_7) ?_
                refine im_st (r_iload_n (i := 1) dX10_move_94 rfl rfl rfl) ?_
                refine im_st (r_iadd dX10_move_95 rfl) ?_
                refine im_app (Gm := fun (σ22 : Sg) => Go M_X10_move Q 0 0 96 [some (.ref 75), some (.int a1), some (.int a2), some (.int s4.1), some (.int s4.2.1), some (.int s4.2.2.1), none] [.int ((7 : Int32) + a1), .ref 76, .int (164 : Int32), .ref 75] (mk σ22 τ)) (fun σ22 => ?_)
                refine im_grd (fun g23 => ?_)
                refine im_st (s_iaload dX10_move_96 rfl rfl (Nat.le_of_ble_eq_true rfl) (inR_in g23)) ?_
                refine im_bind (fun y24 hy24 => ?_)
                refine im_st (r_callV (as := [.int (164 : Int32), .int (σ22 76 ((7 : Int32) + a1).toNatClampNeg)]) (r := some (.int y24.1)) (kc1 := 0) (ks1 := 0) (st := []) (st1 := [.int y24.1]) (e_X10_winsOn (164 : Int32) (σ22 76 ((7 : Int32) + a1).toNatClampNeg) σ22 τ y24 hy24) mv_X10_winsOn lk_X10_172 ⟨by decide, by decide⟩ rfl (Nat.le_of_ble_eq_true rfl) (by decide) ⟨_, rfl, rfl⟩ ⟨by decide, by decide⟩ (Nat.le_of_ble_eq_true rfl) dX10_move_97 rfl rfl rfl rfl rfl) ?_
                refine im_bind (fun y25 hy25 => ?_)
                refine im_st (r_callS (as := [.int y24.1]) (r := some (.int y25)) (kc1 := 0) (ks1 := 0) (st := []) (st1 := [.int y25]) (e_X10_bitsOf y24.1 y24.2 τ y25 hy25) ms_X10_bitsOf lk_X10_221 ⟨by decide, by decide⟩ ⟨by decide, by decide⟩ (Nat.le_of_ble_eq_true rfl) dX10_move_100 rfl rfl rfl rfl rfl) ?_
                refine im_st (r_istore (i := 6) (L1 := [some (.ref 75), some (.int a1), some (.int a2), some (.int s4.1), some (.int s4.2.1), some (.int s4.2.2.1), some (.int y25)]) dX10_move_103 rfl (by decide) rfl) ?_
                refine im_st (r_iload (i := 6) dX10_move_105 rfl rfl) ?_
                refine im_st (r_iload_n (i := 3) dX10_move_107 rfl rfl rfl) ?_
                refine im_seqT (Gm := fun (j26 : Int32) => Go M_X10_move Q 0 0 118 [some (.ref 75), some (.int a1), some (.int a2), some (.int s4.1), none, some (.int s4.2.2.1), some (.int y25)] [.int j26] (mk y24.2 τ)) ?_ (fun j26 => ?_)
                · refine im_brS (r_icmp_le (tgt := 116) dX10_move_108 rfl (by decide)) (fun c27 => ?_) (fun c27 => ?_)
                  · refine im_st (r_iload (i := 4) dX10_move_116 rfl rfl) ?_
                    refine im_st (r_fgt (L1 := [some (.ref 75), some (.int a1), some (.int a2), some (.int s4.1), none, some (.int s4.2.2.1), some (.int y25)]) [4] rfl) ?_
                    exact im_ret id
                  · refine im_st (r_iload (i := 5) dX10_move_111 rfl rfl) ?_
                    refine im_st (r_goto (pc1 := 118) dX10_move_113 (by decide)) ?_
                    refine im_st (r_fgt (L1 := [some (.ref 75), some (.int a1), some (.int a2), some (.int s4.1), none, some (.int s4.2.2.1), some (.int y25)]) [4] rfl) ?_
                    exact im_ret id
                refine im_st (r_istore (i := 4) (L1 := [some (.ref 75), some (.int a1), some (.int a2), some (.int s4.1), some (.int j26), some (.int s4.2.2.1), some (.int y25)]) dX10_move_118 rfl (by decide) rfl) ?_
                refine im_st (r_iload (i := 6) dX10_move_120 rfl rfl) ?_
                refine im_st (r_iload_n (i := 3) dX10_move_122 rfl rfl rfl) ?_
                refine im_seqT (Gm := fun (j28 : Int32) => Go M_X10_move Q 0 0 132 [some (.ref 75), some (.int a1), some (.int a2), none, some (.int j26), some (.int s4.2.2.1), none] [.int j28] (mk y24.2 τ)) ?_ (fun j28 => ?_)
                · refine im_brS (r_icmp_le (tgt := 131) dX10_move_123 rfl (by decide)) (fun c29 => ?_) (fun c29 => ?_)
                  · refine im_st (r_iload_n (i := 3) dX10_move_131 rfl rfl rfl) ?_
                    refine im_st (r_fgt (L1 := [some (.ref 75), some (.int a1), some (.int a2), none, some (.int j26), some (.int s4.2.2.1), none]) [3, 6] rfl) ?_
                    exact im_ret id
                  · refine im_st (r_iload (i := 6) dX10_move_126 rfl rfl) ?_
                    refine im_st (r_goto (pc1 := 132) dX10_move_128 (by decide)) ?_
                    refine im_st (r_fgt (L1 := [some (.ref 75), some (.int a1), some (.int a2), none, some (.int j26), some (.int s4.2.2.1), none]) [3, 6] rfl) ?_
                    exact im_ret id
                refine im_st (r_istore_n (i := 3) (L1 := [some (.ref 75), some (.int a1), some (.int a2), some (.int j28), some (.int j26), some (.int s4.2.2.1), none]) dX10_move_132 rfl rfl (by decide) rfl) ?_
                exact im_ret id
          refine im_st (r_iinc (i := 5) (x := s4.2.2.1) (v := (s4.2.2.1 + 1)) (L1 := [some (.ref 75), some (.int a1), some (.int a2), some (.int j6.1), some (.int j6.2.1), some (.int (s4.2.2.1 + 1)), none]) dX10_move_133 rfl rfl rfl (by decide) rfl) ?_
          refine im_st (r_goto (pc1 := 36) dX10_move_136 (by decide)) ?_
          exact im_ret id
      refine im_st (r_iload_n (i := 2) dX10_move_139 rfl rfl rfl) ?_
      refine im_br (r_if_ne (tgt := 148) dX10_move_140 rfl (by decide)) (fun c31 => ?_) (fun c31 => ?_)
      · refine im_st (r_iload (i := 4) dX10_move_143 rfl rfl) ?_
        refine im_st (r_goto (pc1 := 149) dX10_move_145 (by decide)) ?_
        exact im_ret (fun q => g_iret rfl rfl rfl dX10_move_149 q)
      · refine im_st (r_iload_n (i := 3) dX10_move_148 rfl rfl rfl) ?_
        exact im_ret (fun q => g_iret rfl rfl rfl dX10_move_149 q)
theorem e_X10_move (a1 : Int32) (a2 : Int32) (σ : Sg) (τ : Sl) (y : (Int32 × Sg)) (hy : f_X10_move a1 a2 σ = some y) : EvD M_X10_move [.ref 75, .int a1, .int a2] (mk σ τ) (some (.int y.1)) (mk y.2 τ) := EvM.of (by decide +kernel) (Nat.le_of_ble_eq_true rfl) (i_X10_move a1 a2 σ τ _ y hy ⟨rfl, rfl⟩)
def M_X10_bribe : Ms := (yX10_bribe, cX10_bribe, 7, some .int, 4, 102, 0, 0)
theorem mv_X10_bribe : MV M_X10_bribe 2 := ⟨⟨q1306, q12, by decide, by decide, by decide +kernel⟩, q1304, q1305⟩
def b_X10_bribe_42 (a1 : Int32) : (Int32 × Int32 × Int32 × Sg) → Option ((Int32 × Int32 × Int32 × Sg) ⊕ (Int32 × Int32 × Int32 × Sg)) := fun (s4 : (Int32 × Int32 × Int32 × Sg)) =>
  if (98 : Int32) ≤ s4.2.2.1 then
    some (.inr (s4.1, s4.2.1, s4.2.2.1, s4.2.2.2))
  else
    (if (f_X10_isCell s4.2.2.1) = 0 then
      some (s4.1, s4.2.1, s4.2.2.2)
    else
      (f_X10_isFreeOn (0 : Int32) s4.2.2.1 s4.2.2.2).bind fun (y8 : Int32) =>
      if y8 = 0 then
        some (s4.1, s4.2.1, s4.2.2.2)
      else
        (f_X10_copies (0 : Int32) (164 : Int32) s4.2.2.2).bind fun (y10 : Sg) =>
        (f_X10_laysOn (164 : Int32) s4.2.2.1 y10).bind fun (y11 : Sg) =>
        (f_X10_winsOn (164 : Int32) (-4 : Int32) y11).bind fun (y12 : (Int32 × Sg)) =>
        (f_X10_winsOn (164 : Int32) a1 y12.2).bind fun (y13 : (Int32 × Sg)) =>
        (f_X10_bitsOf (y12.1 &&& (y13.1 ^^^ (-1 : Int32)))).bind fun (y14 : Int32) =>
        app (if s4.1 ≤ y14 then
          s4.2.1
        else
          s4.2.2.1) fun (j15 : Int32) =>
        app (if s4.1 ≤ y14 then
          s4.1
        else
          y14) fun (j17 : Int32) =>
        some (j17, j15, y13.2)).bind fun (j6 : (Int32 × Int32 × Sg)) =>
    some (.inl (j6.1, j6.2.1, (s4.2.2.1 + 1), j6.2.2))
def f_X10_bribe (a1 : Int32) (a2 : Int32) (σ : Sg) : Option (Int32 × Sg) :=
  if (f_X10_isRag a1) = 0 then
    some ((-1 : Int32), σ)
  else
    if (f_X10_in (a2.toInt64) (0 : Int64) (1 : Int64)) = 0 then
      some ((-1 : Int32), σ)
    else
      if (σ 76 (39 : Int32).toNatClampNeg) = (4 : Int32) then
        some ((-3 : Int32), σ)
      else
        (wh (b_X10_bribe_42 a1) 4096 ((100 : Int32), (0 : Int32), (0 : Int32), σ)).bind fun (e19 : (Int32 × Int32 × Int32 × Sg)) =>
        if a2 = 0 then
          some (e19.2.1, e19.2.2.2)
        else
          some (e19.1, e19.2.2.2)
set_option maxHeartbeats 4000000 in
set_option maxRecDepth 20000 in
theorem i_X10_bribe (a1 : Int32) (a2 : Int32) (σ : Sg) (τ : Sl) (Q : Option Value → Hp → Prop) : Imp (f_X10_bribe a1 a2 σ) (fun (y : (Int32 × Sg)) => Q (some (.int y.1)) (mk y.2 τ)) (Go M_X10_bribe Q 0 0 0 [some (.ref 75), some (.int a1), some (.int a2), none, none, none, none] [] (mk σ τ)) := by
  unfold f_X10_bribe
  refine im_st (r_iload_n (i := 1) dX10_bribe_0 rfl rfl rfl) ?_
  refine im_st (r_callS (as := [.int a1]) (r := some (.int (f_X10_isRag a1))) (kc1 := 0) (ks1 := 0) (st := []) (st1 := [.int (f_X10_isRag a1)]) (e_X10_isRag a1 σ τ) ms_X10_isRag lk_X10_197 ⟨by decide, by decide⟩ ⟨by decide, by decide⟩ (Nat.le_of_ble_eq_true rfl) dX10_bribe_1 rfl rfl rfl rfl rfl) ?_
  refine im_br (r_if_eq (tgt := 17) dX10_bribe_4 rfl (by decide)) (fun c1 => ?_) (fun c1 => ?_)
  · refine im_st (r_iconst (v := -1) dX10_bribe_17 rfl kI_m1) ?_
    exact im_ret (fun q => g_iret rfl rfl rfl dX10_bribe_18 q)
  · refine im_st (r_iload_n (i := 2) dX10_bribe_7 rfl rfl rfl) ?_
    refine im_st (r_i2l (v := a2.toInt64) dX10_bribe_8 rfl rfl) ?_
    refine im_st (r_lconst (v := 0) dX10_bribe_9 rfl rfl) ?_
    refine im_st (r_lconst (v := 1) dX10_bribe_10 rfl rfl) ?_
    refine im_st (r_callS (as := [.long (a2.toInt64), .long (0 : Int64), .long (1 : Int64)]) (r := some (.int (f_X10_in (a2.toInt64) (0 : Int64) (1 : Int64)))) (kc1 := 0) (ks1 := 0) (st := []) (st1 := [.int (f_X10_in (a2.toInt64) (0 : Int64) (1 : Int64))]) (e_X10_in (a2.toInt64) (0 : Int64) (1 : Int64) σ τ) ms_X10_in lk_X10_49 ⟨by decide, by decide⟩ ⟨by decide, by decide⟩ (Nat.le_of_ble_eq_true rfl) dX10_bribe_11 rfl rfl rfl rfl rfl) ?_
    refine im_br (r_if_ne (tgt := 19) dX10_bribe_14 rfl (by decide)) (fun c2 => ?_) (fun c2 => ?_)
    · refine im_st (r_iconst (v := -1) dX10_bribe_17 rfl kI_m1) ?_
      exact im_ret (fun q => g_iret rfl rfl rfl dX10_bribe_18 q)
    · refine im_st (r_aload_n (i := 0) dX10_bribe_19 rfl rfl rfl) ?_
      refine im_st (s_getR (b := 76) (tag := 10) (j := 0) dX10_bribe_20 rfl fl_X10_7 rfl (Nat.le_of_ble_eq_true rfl) rfl rfl) ?_
      refine im_st (r_bipush (v := 39) dX10_bribe_23 rfl kB_39) ?_
      refine im_st (s_iaload dX10_bribe_25 rfl rfl (Nat.le_of_ble_eq_true rfl) (inR_in rfl)) ?_
      refine im_st (r_iconst (v := 4) dX10_bribe_26 rfl kI_4) ?_
      refine im_br (r_icmp_ne (tgt := 33) dX10_bribe_27 rfl (by decide)) (fun c3 => ?_) (fun c3 => ?_)
      · refine im_st (r_bipush (v := -3) dX10_bribe_30 rfl kB_m3) ?_
        exact im_ret (fun q => g_iret rfl rfl rfl dX10_bribe_32 q)
      · refine im_st (r_bipush (v := 100) dX10_bribe_33 rfl kB_100) ?_
        refine im_st (r_istore_n (i := 3) (L1 := [some (.ref 75), some (.int a1), some (.int a2), some (.int (100 : Int32)), none, none, none]) dX10_bribe_35 rfl rfl (by decide) rfl) ?_
        refine im_st (r_iconst (v := 0) dX10_bribe_36 rfl kI_0) ?_
        refine im_st (r_istore (i := 4) (L1 := [some (.ref 75), some (.int a1), some (.int a2), some (.int (100 : Int32)), some (.int (0 : Int32)), none, none]) dX10_bribe_37 rfl (by decide) rfl) ?_
        refine im_st (r_iconst (v := 0) dX10_bribe_39 rfl kI_0) ?_
        refine im_st (r_istore (i := 5) (L1 := [some (.ref 75), some (.int a1), some (.int a2), some (.int (100 : Int32)), some (.int (0 : Int32)), some (.int (0 : Int32)), none]) dX10_bribe_40 rfl (by decide) rfl) ?_
        refine im_seq (Gm := fun (e19 : (Int32 × Int32 × Int32 × Sg)) => Go M_X10_bribe Q 0 0 143 [none, none, some (.int a2), some (.int e19.1), some (.int e19.2.1), none, none] [] (mk e19.2.2.2 τ)) ?_ (fun e19 => ?_)
        · refine im_wh (G := fun (s4 : (Int32 × Int32 × Int32 × Sg)) => Go M_X10_bribe Q 0 0 42 [some (.ref 75), some (.int a1), some (.int a2), some (.int s4.1), some (.int s4.2.1), some (.int s4.2.2.1), none] [] (mk s4.2.2.2 τ)) (fun s4 => ?_) _ _
          unfold b_X10_bribe_42
          refine im_st (r_iload (i := 5) dX10_bribe_42 rfl rfl) ?_
          refine im_st (r_bipush (v := 98) dX10_bribe_44 rfl kB_98) ?_
          refine im_br (r_icmp_ge (tgt := 143) dX10_bribe_46 rfl (by decide)) (fun c5 => ?_) (fun c5 => ?_)
          · refine im_st (r_fgt (L1 := [none, none, some (.int a2), some (.int s4.1), some (.int s4.2.1), none, none]) [0, 1, 5] rfl) ?_
            exact im_ret id
          · refine im_st (r_iload (i := 5) dX10_bribe_49 rfl rfl) ?_
            refine im_st (r_callS (as := [.int s4.2.2.1]) (r := some (.int (f_X10_isCell s4.2.2.1))) (kc1 := 0) (ks1 := 0) (st := []) (st1 := [.int (f_X10_isCell s4.2.2.1)]) (e_X10_isCell s4.2.2.1 s4.2.2.2 τ) ms_X10_isCell lk_X10_186 ⟨by decide, by decide⟩ ⟨by decide, by decide⟩ (Nat.le_of_ble_eq_true rfl) dX10_bribe_51 rfl rfl rfl rfl rfl) ?_
            refine im_seq (Gm := fun (j6 : (Int32 × Int32 × Sg)) => Go M_X10_bribe Q 0 0 137 [some (.ref 75), some (.int a1), some (.int a2), some (.int j6.1), some (.int j6.2.1), some (.int s4.2.2.1), none] [] (mk j6.2.2 τ)) ?_ (fun j6 => ?_)
            · refine im_br (r_if_eq (tgt := 137) dX10_bribe_54 rfl (by decide)) (fun c7 => ?_) (fun c7 => ?_)
              · exact im_ret id
              · refine im_st (r_aload_n (i := 0) dX10_bribe_57 rfl rfl rfl) ?_
                refine im_st (r_iconst (v := 0) dX10_bribe_58 rfl kI_0) ?_
                refine im_st (r_iload (i := 5) dX10_bribe_59 rfl rfl) ?_
                refine im_bind (fun y8 hy8 => ?_)
                refine im_st (r_callV (as := [.int (0 : Int32), .int s4.2.2.1]) (r := some (.int y8)) (kc1 := 0) (ks1 := 0) (st := []) (st1 := [.int y8]) (e_X10_isFreeOn (0 : Int32) s4.2.2.1 s4.2.2.2 τ y8 hy8) mv_X10_isFreeOn lk_X10_189 ⟨by decide, by decide⟩ rfl (Nat.le_of_ble_eq_true rfl) (by decide) ⟨_, rfl, rfl⟩ ⟨by decide, by decide⟩ (Nat.le_of_ble_eq_true rfl) dX10_bribe_61 rfl rfl rfl rfl rfl) ?_
                refine im_br (r_if_eq (tgt := 137) dX10_bribe_64 rfl (by decide)) (fun c9 => ?_) (fun c9 => ?_)
                · exact im_ret id
                · refine im_st (r_aload_n (i := 0) dX10_bribe_67 rfl rfl rfl) ?_
                  refine im_st (r_iconst (v := 0) dX10_bribe_68 rfl kI_0) ?_
                  refine im_st (r_sipush (v := 164) dX10_bribe_69 rfl kS_164) ?_
                  refine im_bind (fun y10 hy10 => ?_)
                  refine im_st (r_callV (as := [.int (0 : Int32), .int (164 : Int32)]) (r := none) (kc1 := 0) (ks1 := 0) (st := []) (st1 := []) (e_X10_copies (0 : Int32) (164 : Int32) s4.2.2.2 τ y10 hy10) mv_X10_copies lk_X10_218 ⟨by decide, by decide⟩ rfl (Nat.le_of_ble_eq_true rfl) (by decide) ⟨_, rfl, rfl⟩ ⟨by decide, by decide⟩ (Nat.le_of_ble_eq_true rfl) dX10_bribe_72 rfl rfl rfl rfl rfl) ?_
                  refine im_st (r_aload_n (i := 0) dX10_bribe_75 rfl rfl rfl) ?_
                  refine im_st (r_sipush (v := 164) dX10_bribe_76 rfl kS_164) ?_
                  refine im_st (r_iload (i := 5) dX10_bribe_79 rfl rfl) ?_
                  refine im_bind (fun y11 hy11 => ?_)
                  refine im_st (r_callV (as := [.int (164 : Int32), .int s4.2.2.1]) (r := none) (kc1 := 0) (ks1 := 0) (st := []) (st1 := []) (e_X10_laysOn (164 : Int32) s4.2.2.1 y10 τ y11 hy11) mv_X10_laysOn lk_X10_209 ⟨by decide, by decide⟩ rfl (Nat.le_of_ble_eq_true rfl) (by decide) ⟨_, rfl, rfl⟩ ⟨by decide, by decide⟩ (Nat.le_of_ble_eq_true rfl) dX10_bribe_81 rfl rfl rfl rfl rfl) ?_
                  refine im_st (r_aload_n (i := 0) dX10_bribe_84 rfl rfl rfl) ?_
                  refine im_st (r_sipush (v := 164) dX10_bribe_85 rfl kS_164) ?_
                  refine im_st (r_bipush (v := -4) dX10_bribe_88 rfl kB_m4) ?_
                  refine im_bind (fun y12 hy12 => ?_)
                  refine im_st (r_callV (as := [.int (164 : Int32), .int (-4 : Int32)]) (r := some (.int y12.1)) (kc1 := 0) (ks1 := 0) (st := []) (st1 := [.int y12.1]) (e_X10_winsOn (164 : Int32) (-4 : Int32) y11 τ y12 hy12) mv_X10_winsOn lk_X10_172 ⟨by decide, by decide⟩ rfl (Nat.le_of_ble_eq_true rfl) (by decide) ⟨_, rfl, rfl⟩ ⟨by decide, by decide⟩ (Nat.le_of_ble_eq_true rfl) dX10_bribe_90 rfl rfl rfl rfl rfl) ?_
                  refine im_st (r_aload_n (i := 0) dX10_bribe_93 rfl rfl rfl) ?_
                  refine im_st (r_sipush (v := 164) dX10_bribe_94 rfl kS_164) ?_
                  refine im_st (r_iload_n (i := 1) dX10_bribe_97 rfl rfl rfl) ?_
                  refine im_bind (fun y13 hy13 => ?_)
                  refine im_st (r_callV (as := [.int (164 : Int32), .int a1]) (r := some (.int y13.1)) (kc1 := 0) (ks1 := 0) (st := [.int y12.1]) (st1 := [.int y13.1, .int y12.1]) (e_X10_winsOn (164 : Int32) a1 y12.2 τ y13 hy13) mv_X10_winsOn lk_X10_172 ⟨by decide, by decide⟩ rfl (Nat.le_of_ble_eq_true rfl) (by decide) ⟨_, rfl, rfl⟩ ⟨by decide, by decide⟩ (Nat.le_of_ble_eq_true rfl) dX10_bribe_98 rfl rfl rfl rfl rfl) ?_
                  refine im_st (r_iconst (v := -1) dX10_bribe_101 rfl kI_m1) ?_
                  refine im_st (r_ixor dX10_bribe_102 rfl) ?_
                  refine im_st (r_iand dX10_bribe_103 rfl) ?_
                  refine im_bind (fun y14 hy14 => ?_)
                  refine im_st (r_callS (as := [.int (y12.1 &&& (y13.1 ^^^ (-1 : Int32)))]) (r := some (.int y14)) (kc1 := 0) (ks1 := 0) (st := []) (st1 := [.int y14]) (e_X10_bitsOf (y12.1 &&& (y13.1 ^^^ (-1 : Int32))) y13.2 τ y14 hy14) ms_X10_bitsOf lk_X10_221 ⟨by decide, by decide⟩ ⟨by decide, by decide⟩ (Nat.le_of_ble_eq_true rfl) dX10_bribe_104 rfl rfl rfl rfl rfl) ?_
                  refine im_st (r_istore (i := 6) (L1 := [some (.ref 75), some (.int a1), some (.int a2), some (.int s4.1), some (.int s4.2.1), some (.int s4.2.2.1), some (.int y14)]) dX10_bribe_107 rfl (by decide) rfl) ?_
                  refine im_st (r_iload (i := 6) dX10_bribe_109 rfl rfl) ?_
                  refine im_st (r_iload_n (i := 3) dX10_bribe_111 rfl rfl rfl) ?_
                  refine im_seqT (Gm := fun (j15 : Int32) => Go M_X10_bribe Q 0 0 122 [some (.ref 75), some (.int a1), some (.int a2), some (.int s4.1), none, some (.int s4.2.2.1), some (.int y14)] [.int j15] (mk y13.2 τ)) ?_ (fun j15 => ?_)
                  · refine im_brS (r_icmp_ge (tgt := 120) dX10_bribe_112 rfl (by decide)) (fun c16 => ?_) (fun c16 => ?_)
                    · refine im_st (r_iload (i := 4) dX10_bribe_120 rfl rfl) ?_
                      refine im_st (r_fgt (L1 := [some (.ref 75), some (.int a1), some (.int a2), some (.int s4.1), none, some (.int s4.2.2.1), some (.int y14)]) [4] rfl) ?_
                      exact im_ret id
                    · refine im_st (r_iload (i := 5) dX10_bribe_115 rfl rfl) ?_
                      refine im_st (r_goto (pc1 := 122) dX10_bribe_117 (by decide)) ?_
                      refine im_st (r_fgt (L1 := [some (.ref 75), some (.int a1), some (.int a2), some (.int s4.1), none, some (.int s4.2.2.1), some (.int y14)]) [4] rfl) ?_
                      exact im_ret id
                  refine im_st (r_istore (i := 4) (L1 := [some (.ref 75), some (.int a1), some (.int a2), some (.int s4.1), some (.int j15), some (.int s4.2.2.1), some (.int y14)]) dX10_bribe_122 rfl (by decide) rfl) ?_
                  refine im_st (r_iload (i := 6) dX10_bribe_124 rfl rfl) ?_
                  refine im_st (r_iload_n (i := 3) dX10_bribe_126 rfl rfl rfl) ?_
                  refine im_seqT (Gm := fun (j17 : Int32) => Go M_X10_bribe Q 0 0 136 [some (.ref 75), some (.int a1), some (.int a2), none, some (.int j15), some (.int s4.2.2.1), none] [.int j17] (mk y13.2 τ)) ?_ (fun j17 => ?_)
                  · refine im_brS (r_icmp_ge (tgt := 135) dX10_bribe_127 rfl (by decide)) (fun c18 => ?_) (fun c18 => ?_)
                    · refine im_st (r_iload_n (i := 3) dX10_bribe_135 rfl rfl rfl) ?_
                      refine im_st (r_fgt (L1 := [some (.ref 75), some (.int a1), some (.int a2), none, some (.int j15), some (.int s4.2.2.1), none]) [3, 6] rfl) ?_
                      exact im_ret id
                    · refine im_st (r_iload (i := 6) dX10_bribe_130 rfl rfl) ?_
                      refine im_st (r_goto (pc1 := 136) dX10_bribe_132 (by decide)) ?_
                      refine im_st (r_fgt (L1 := [some (.ref 75), some (.int a1), some (.int a2), none, some (.int j15), some (.int s4.2.2.1), none]) [3, 6] rfl) ?_
                      exact im_ret id
                  refine im_st (r_istore_n (i := 3) (L1 := [some (.ref 75), some (.int a1), some (.int a2), some (.int j17), some (.int j15), some (.int s4.2.2.1), none]) dX10_bribe_136 rfl rfl (by decide) rfl) ?_
                  exact im_ret id
            refine im_st (r_iinc (i := 5) (x := s4.2.2.1) (v := (s4.2.2.1 + 1)) (L1 := [some (.ref 75), some (.int a1), some (.int a2), some (.int j6.1), some (.int j6.2.1), some (.int (s4.2.2.1 + 1)), none]) dX10_bribe_137 rfl rfl rfl (by decide) rfl) ?_
            refine im_st (r_goto (pc1 := 42) dX10_bribe_140 (by decide)) ?_
            exact im_ret id
        refine im_st (r_iload_n (i := 2) dX10_bribe_143 rfl rfl rfl) ?_
        refine im_br (r_if_ne (tgt := 152) dX10_bribe_144 rfl (by decide)) (fun c20 => ?_) (fun c20 => ?_)
        · refine im_st (r_iload (i := 4) dX10_bribe_147 rfl rfl) ?_
          refine im_st (r_goto (pc1 := 153) dX10_bribe_149 (by decide)) ?_
          exact im_ret (fun q => g_iret rfl rfl rfl dX10_bribe_153 q)
        · refine im_st (r_iload_n (i := 3) dX10_bribe_152 rfl rfl rfl) ?_
          exact im_ret (fun q => g_iret rfl rfl rfl dX10_bribe_153 q)
theorem e_X10_bribe (a1 : Int32) (a2 : Int32) (σ : Sg) (τ : Sl) (y : (Int32 × Sg)) (hy : f_X10_bribe a1 a2 σ = some y) : EvD M_X10_bribe [.ref 75, .int a1, .int a2] (mk σ τ) (some (.int y.1)) (mk y.2 τ) := EvM.of (by decide +kernel) (Nat.le_of_ble_eq_true rfl) (i_X10_bribe a1 a2 σ τ _ y hy ⟨rfl, rfl⟩)
def M_X10_need : Ms := (yX10_need, cX10_need, 4, some .int, 2, 54, 0, 0)
theorem mv_X10_need : MV M_X10_need 2 := ⟨⟨q1310, q12, by decide, by decide, by decide +kernel⟩, q1308, q1309⟩
def b_X10_need_27 (a1 : Int32) (a2 : Int32) : (Int32 × Sg) → Option ((Int32 × Sg) ⊕ ((Int32 × Sg) ⊕ (Int32 × Sg))) := fun (s4 : (Int32 × Sg)) =>
  if (9 : Int32) < s4.1 then
    some (.inr (.inl (s4.1, s4.2)))
  else
    if inR ((186 : Int32) + a1) 205 then
    app (up2 s4.2 76 ((186 : Int32) + a1).toNatClampNeg s4.1) fun (σ7 : Sg) =>
    (f_X10_runsOn (164 : Int32) a1 a2 (0 : Int32) σ7).bind fun (y8 : Sg) =>
    if (y8 75 17) = (10 : Int32) then
      some (.inr (.inr (s4.1, y8)))
    else
      some (.inl ((s4.1 + 1), y8))
    else none
def f_X10_need (a1 : Int32) (a2 : Int32) (σ : Sg) : Option (Int32 × Sg) :=
  if (f_X10_isHog a1 σ) = 0 then
    some ((-1 : Int32), σ)
  else
    if (f_X10_isColumn a2) = 0 then
      some ((-1 : Int32), σ)
    else
      (f_X10_copies (0 : Int32) (164 : Int32) σ).bind fun (y3 : Sg) =>
      (wh (b_X10_need_27 a1 a2) 4096 ((1 : Int32), y3)).bind fun (r12 : ((Int32 × Sg) ⊕ (Int32 × Sg))) =>
      Sum.elim (fun (e10 : (Int32 × Sg)) =>
        some ((-4 : Int32), e10.2)) (fun (y11 : (Int32 × Sg)) => some y11) r12
set_option maxHeartbeats 4000000 in
set_option maxRecDepth 20000 in
theorem i_X10_need (a1 : Int32) (a2 : Int32) (σ : Sg) (τ : Sl) (Q : Option Value → Hp → Prop) : Imp (f_X10_need a1 a2 σ) (fun (y : (Int32 × Sg)) => Q (some (.int y.1)) (mk y.2 τ)) (Go M_X10_need Q 0 0 0 [some (.ref 75), some (.int a1), some (.int a2), none] [] (mk σ τ)) := by
  unfold f_X10_need
  refine im_st (r_aload_n (i := 0) dX10_need_0 rfl rfl rfl) ?_
  refine im_st (r_iload_n (i := 1) dX10_need_1 rfl rfl rfl) ?_
  refine im_st (r_callV (as := [.int a1]) (r := some (.int (f_X10_isHog a1 σ))) (kc1 := 0) (ks1 := 0) (st := []) (st1 := [.int (f_X10_isHog a1 σ)]) (e_X10_isHog a1 σ τ) mv_X10_isHog lk_X10_180 ⟨by decide, by decide⟩ rfl (Nat.le_of_ble_eq_true rfl) (by decide) ⟨_, rfl, rfl⟩ ⟨by decide, by decide⟩ (Nat.le_of_ble_eq_true rfl) dX10_need_2 rfl rfl rfl rfl rfl) ?_
  refine im_br (r_if_eq (tgt := 15) dX10_need_5 rfl (by decide)) (fun c1 => ?_) (fun c1 => ?_)
  · refine im_st (r_iconst (v := -1) dX10_need_15 rfl kI_m1) ?_
    exact im_ret (fun q => g_iret rfl rfl rfl dX10_need_16 q)
  · refine im_st (r_iload_n (i := 2) dX10_need_8 rfl rfl rfl) ?_
    refine im_st (r_callS (as := [.int a2]) (r := some (.int (f_X10_isColumn a2))) (kc1 := 0) (ks1 := 0) (st := []) (st1 := [.int (f_X10_isColumn a2)]) (e_X10_isColumn a2 σ τ) ms_X10_isColumn lk_X10_213 ⟨by decide, by decide⟩ ⟨by decide, by decide⟩ (Nat.le_of_ble_eq_true rfl) dX10_need_9 rfl rfl rfl rfl rfl) ?_
    refine im_br (r_if_ne (tgt := 17) dX10_need_12 rfl (by decide)) (fun c2 => ?_) (fun c2 => ?_)
    · refine im_st (r_iconst (v := -1) dX10_need_15 rfl kI_m1) ?_
      exact im_ret (fun q => g_iret rfl rfl rfl dX10_need_16 q)
    · refine im_st (r_aload_n (i := 0) dX10_need_17 rfl rfl rfl) ?_
      refine im_st (r_iconst (v := 0) dX10_need_18 rfl kI_0) ?_
      refine im_st (r_sipush (v := 164) dX10_need_19 rfl kS_164) ?_
      refine im_bind (fun y3 hy3 => ?_)
      refine im_st (r_callV (as := [.int (0 : Int32), .int (164 : Int32)]) (r := none) (kc1 := 0) (ks1 := 0) (st := []) (st1 := []) (e_X10_copies (0 : Int32) (164 : Int32) σ τ y3 hy3) mv_X10_copies lk_X10_218 ⟨by decide, by decide⟩ rfl (Nat.le_of_ble_eq_true rfl) (by decide) ⟨_, rfl, rfl⟩ ⟨by decide, by decide⟩ (Nat.le_of_ble_eq_true rfl) dX10_need_22 rfl rfl rfl rfl rfl) ?_
      refine im_st (r_iconst (v := 1) dX10_need_25 rfl kI_1) ?_
      refine im_st (r_istore_n (i := 3) (L1 := [some (.ref 75), some (.int a1), some (.int a2), some (.int (1 : Int32))]) dX10_need_26 rfl rfl (by decide) rfl) ?_
      refine im_seq (Gm := Sum.elim (fun (e10 : (Int32 × Sg)) => Go M_X10_need Q 0 0 71 [none, none, none, none] [] (mk e10.2 τ)) (fun (y : (Int32 × Sg)) => Q (some (.int y.1)) (mk y.2 τ))) ?_ (fun r12 => ?_)
      · refine im_wh (G := fun (s4 : (Int32 × Sg)) => Go M_X10_need Q 0 0 27 [some (.ref 75), some (.int a1), some (.int a2), some (.int s4.1)] [] (mk s4.2 τ)) (fun s4 => ?_) _ _
        unfold b_X10_need_27
        refine im_st (r_iload_n (i := 3) dX10_need_27 rfl rfl rfl) ?_
        refine im_st (r_bipush (v := 9) dX10_need_28 rfl kB_9) ?_
        refine im_br (r_icmp_gt (tgt := 71) dX10_need_30 rfl (by decide)) (fun c5 => ?_) (fun c5 => ?_)
        · refine im_st (r_fgt (L1 := [none, none, none, none]) [0, 1, 2, 3] rfl) ?_
          exact im_ret id
        · refine im_st (r_aload_n (i := 0) dX10_need_33 rfl rfl rfl) ?_
          refine im_st (s_getR (b := 76) (tag := 10) (j := 0) dX10_need_34 rfl fl_X10_7 rfl (Nat.le_of_ble_eq_true rfl) rfl rfl) ?_
          refine im_st (r_sipush (v := 186) dX10_need_37 rfl kS_186) ?_
          refine im_st (r_iload_n (i := 1) dX10_need_40 rfl rfl rfl) ?_
          refine im_st (r_iadd dX10_need_41 rfl) ?_
          refine im_st (r_iload_n (i := 3) dX10_need_42 rfl rfl rfl) ?_
          refine im_grd (fun g6 => ?_)
          refine im_st (s_iastore dX10_need_43 rfl rfl (Nat.le_of_ble_eq_true rfl) (inR_in g6)) ?_
          refine im_st (r_aload_n (i := 0) dX10_need_44 rfl rfl rfl) ?_
          refine im_st (r_sipush (v := 164) dX10_need_45 rfl kS_164) ?_
          refine im_st (r_iload_n (i := 1) dX10_need_48 rfl rfl rfl) ?_
          refine im_st (r_iload_n (i := 2) dX10_need_49 rfl rfl rfl) ?_
          refine im_st (r_iconst (v := 0) dX10_need_50 rfl kI_0) ?_
          refine im_app (Gm := fun (σ7 : Sg) => Go M_X10_need Q 0 0 51 [some (.ref 75), some (.int a1), some (.int a2), some (.int s4.1)] [.int (0 : Int32), .int a2, .int a1, .int (164 : Int32), .ref 75] (mk σ7 τ)) (fun σ7 => ?_)
          refine im_bind (fun y8 hy8 => ?_)
          refine im_st (r_callV (as := [.int (164 : Int32), .int a1, .int a2, .int (0 : Int32)]) (r := none) (kc1 := 0) (ks1 := 0) (st := []) (st1 := []) (e_X10_runsOn (164 : Int32) a1 a2 (0 : Int32) σ7 τ y8 hy8) mv_X10_runsOn lk_X10_164 ⟨by decide, by decide⟩ rfl (Nat.le_of_ble_eq_true rfl) (by decide) ⟨_, rfl, rfl⟩ ⟨by decide, by decide⟩ (Nat.le_of_ble_eq_true rfl) dX10_need_51 rfl rfl rfl rfl rfl) ?_
          refine im_st (r_aload_n (i := 0) dX10_need_54 rfl rfl rfl) ?_
          refine im_st (s_getI (tag := 10) (j := 17) dX10_need_55 rfl fl_X10_148 rfl (Nat.le_of_ble_eq_true rfl) rfl) ?_
          refine im_st (r_bipush (v := 10) dX10_need_58 rfl kB_10) ?_
          refine im_br (r_icmp_ne (tgt := 65) dX10_need_60 rfl (by decide)) (fun c9 => ?_) (fun c9 => ?_)
          · refine im_st (r_iload_n (i := 3) dX10_need_63 rfl rfl rfl) ?_
            exact im_ret (fun q => g_iret rfl rfl rfl dX10_need_64 q)
          · refine im_st (r_iinc (i := 3) (x := s4.1) (v := (s4.1 + 1)) (L1 := [some (.ref 75), some (.int a1), some (.int a2), some (.int (s4.1 + 1))]) dX10_need_65 rfl rfl rfl (by decide) rfl) ?_
            refine im_st (r_goto (pc1 := 27) dX10_need_68 (by decide)) ?_
            exact im_ret id
      refine im_sum (fun e10 => ?_) (fun y11 => im_ret id) r12
      refine im_st (r_bipush (v := -4) dX10_need_71 rfl kB_m4) ?_
      exact im_ret (fun q => g_iret rfl rfl rfl dX10_need_73 q)
theorem e_X10_need (a1 : Int32) (a2 : Int32) (σ : Sg) (τ : Sl) (y : (Int32 × Sg)) (hy : f_X10_need a1 a2 σ = some y) : EvD M_X10_need [.ref 75, .int a1, .int a2] (mk σ τ) (some (.int y.1)) (mk y.2 τ) := EvM.of (by decide +kernel) (Nat.le_of_ble_eq_true rfl) (i_X10_need a1 a2 σ τ _ y hy ⟨rfl, rfl⟩)
def M_X10_swap : Ms := (yX10_swap, cX10_swap, 9, some .int, 4, 102, 0, 0)
theorem mv_X10_swap : MV M_X10_swap 2 := ⟨⟨q1314, q12, by decide, by decide, by decide +kernel⟩, q1312, q1313⟩
def b_X10_swap_71 (s5 : (Int32 × Int32 × Int32 × Sg)) (s7 : (Int32 × Int32 × Int32 × Sg)) : (Int32 × Sg) → Option ((Int32 × Sg) ⊕ (Int32 × Sg)) := fun (s10 : (Int32 × Sg)) =>
  if (s10.2 76 (40 : Int32).toNatClampNeg) ≤ s10.1 then
    some (.inr (s10.1, s10.2))
  else
    if inR ((26 : Int32) + s10.1) 205 then
    app (s10.2 76 ((26 : Int32) + s10.1).toNatClampNeg) fun (v13 : Int32) =>
    app (if v13 = s5.2.2.1 then
      s7.2.2.1
    else
      if v13 = s7.2.2.1 then
        s5.2.2.1
      else
        v13) fun (j14 : Int32) =>
    if inR ((190 : Int32) + s10.1) 205 then
    some (.inl ((s10.1 + 1), (up2 s10.2 76 ((190 : Int32) + s10.1).toNatClampNeg j14)))
    else none
    else none
def b_X10_swap_51 (a1 : Int32) (s5 : (Int32 × Int32 × Int32 × Sg)) : (Int32 × Int32 × Int32 × Sg) → Option ((Int32 × Int32 × Int32 × Sg) ⊕ (Int32 × Int32 × Int32 × Sg)) := fun (s7 : (Int32 × Int32 × Int32 × Sg)) =>
  if (s7.2.2.2 75 1) ≤ s7.2.2.1 then
    some (.inr (s7.1, s7.2.1, s7.2.2.1, s7.2.2.2))
  else
    (f_X10_copies (0 : Int32) (164 : Int32) s7.2.2.2).bind fun (y9 : Sg) =>
    (wh (b_X10_swap_71 s5 s7) 4096 ((0 : Int32), y9)).bind fun (e18 : (Int32 × Sg)) =>
    (f_X10_winsOn (164 : Int32) a1 e18.2).bind fun (y19 : (Int32 × Sg)) =>
    (f_X10_bitsOf y19.1).bind fun (y20 : Int32) =>
    app (if y20 ≤ s7.1 then
      s7.2.1
    else
      (((10 : Int32) * s5.2.2.1) + s7.2.2.1)) fun (j21 : Int32) =>
    app (if y20 ≤ s7.1 then
      s7.1
    else
      y20) fun (j23 : Int32) =>
    some (.inl (j23, j21, (s7.2.2.1 + 1), y19.2))
def b_X10_swap_36 (a1 : Int32) : (Int32 × Int32 × Int32 × Sg) → Option ((Int32 × Int32 × Int32 × Sg) ⊕ (Int32 × Int32 × Int32 × Sg)) := fun (s5 : (Int32 × Int32 × Int32 × Sg)) =>
  if (s5.2.2.2 75 1) ≤ s5.2.2.1 then
    some (.inr (s5.1, s5.2.1, s5.2.2.1, s5.2.2.2))
  else
    (wh (b_X10_swap_51 a1 s5) 4096 (s5.1, s5.2.1, (s5.2.2.1 + (1 : Int32)), s5.2.2.2)).bind fun (e25 : (Int32 × Int32 × Int32 × Sg)) =>
    some (.inl (e25.1, e25.2.1, (s5.2.2.1 + 1), e25.2.2.2))
def f_X10_swap (a1 : Int32) (a2 : Int32) (σ : Sg) : Option (Int32 × Sg) :=
  if (f_X10_isRag a1) = 0 then
    some ((-1 : Int32), σ)
  else
    if (f_X10_in (a2.toInt64) (0 : Int64) (1 : Int64)) = 0 then
      some ((-1 : Int32), σ)
    else
      (f_X10_winsOn (0 : Int32) a1 σ).bind fun (y3 : (Int32 × Sg)) =>
      (f_X10_bitsOf y3.1).bind fun (y4 : Int32) =>
      (wh (b_X10_swap_36 a1) 4096 (y4, (-4 : Int32), (0 : Int32), y3.2)).bind fun (e26 : (Int32 × Int32 × Int32 × Sg)) =>
      if e26.2.1 = (-4 : Int32) then
        some (e26.2.1, e26.2.2.2)
      else
        if a2 = 0 then
          some (e26.2.1, e26.2.2.2)
        else
          some (e26.1, e26.2.2.2)
set_option maxHeartbeats 4000000 in
set_option maxRecDepth 20000 in
theorem i_X10_swap (a1 : Int32) (a2 : Int32) (σ : Sg) (τ : Sl) (Q : Option Value → Hp → Prop) : Imp (f_X10_swap a1 a2 σ) (fun (y : (Int32 × Sg)) => Q (some (.int y.1)) (mk y.2 τ)) (Go M_X10_swap Q 0 0 0 [some (.ref 75), some (.int a1), some (.int a2), none, none, none, none, none, none] [] (mk σ τ)) := by
  unfold f_X10_swap
  refine im_st (r_iload_n (i := 1) dX10_swap_0 rfl rfl rfl) ?_
  refine im_st (r_callS (as := [.int a1]) (r := some (.int (f_X10_isRag a1))) (kc1 := 0) (ks1 := 0) (st := []) (st1 := [.int (f_X10_isRag a1)]) (e_X10_isRag a1 σ τ) ms_X10_isRag lk_X10_197 ⟨by decide, by decide⟩ ⟨by decide, by decide⟩ (Nat.le_of_ble_eq_true rfl) dX10_swap_1 rfl rfl rfl rfl rfl) ?_
  refine im_br (r_if_eq (tgt := 17) dX10_swap_4 rfl (by decide)) (fun c1 => ?_) (fun c1 => ?_)
  · refine im_st (r_iconst (v := -1) dX10_swap_17 rfl kI_m1) ?_
    exact im_ret (fun q => g_iret rfl rfl rfl dX10_swap_18 q)
  · refine im_st (r_iload_n (i := 2) dX10_swap_7 rfl rfl rfl) ?_
    refine im_st (r_i2l (v := a2.toInt64) dX10_swap_8 rfl rfl) ?_
    refine im_st (r_lconst (v := 0) dX10_swap_9 rfl rfl) ?_
    refine im_st (r_lconst (v := 1) dX10_swap_10 rfl rfl) ?_
    refine im_st (r_callS (as := [.long (a2.toInt64), .long (0 : Int64), .long (1 : Int64)]) (r := some (.int (f_X10_in (a2.toInt64) (0 : Int64) (1 : Int64)))) (kc1 := 0) (ks1 := 0) (st := []) (st1 := [.int (f_X10_in (a2.toInt64) (0 : Int64) (1 : Int64))]) (e_X10_in (a2.toInt64) (0 : Int64) (1 : Int64) σ τ) ms_X10_in lk_X10_49 ⟨by decide, by decide⟩ ⟨by decide, by decide⟩ (Nat.le_of_ble_eq_true rfl) dX10_swap_11 rfl rfl rfl rfl rfl) ?_
    refine im_br (r_if_ne (tgt := 19) dX10_swap_14 rfl (by decide)) (fun c2 => ?_) (fun c2 => ?_)
    · refine im_st (r_iconst (v := -1) dX10_swap_17 rfl kI_m1) ?_
      exact im_ret (fun q => g_iret rfl rfl rfl dX10_swap_18 q)
    · refine im_st (r_aload_n (i := 0) dX10_swap_19 rfl rfl rfl) ?_
      refine im_st (r_iconst (v := 0) dX10_swap_20 rfl kI_0) ?_
      refine im_st (r_iload_n (i := 1) dX10_swap_21 rfl rfl rfl) ?_
      refine im_bind (fun y3 hy3 => ?_)
      refine im_st (r_callV (as := [.int (0 : Int32), .int a1]) (r := some (.int y3.1)) (kc1 := 0) (ks1 := 0) (st := []) (st1 := [.int y3.1]) (e_X10_winsOn (0 : Int32) a1 σ τ y3 hy3) mv_X10_winsOn lk_X10_172 ⟨by decide, by decide⟩ rfl (Nat.le_of_ble_eq_true rfl) (by decide) ⟨_, rfl, rfl⟩ ⟨by decide, by decide⟩ (Nat.le_of_ble_eq_true rfl) dX10_swap_22 rfl rfl rfl rfl rfl) ?_
      refine im_bind (fun y4 hy4 => ?_)
      refine im_st (r_callS (as := [.int y3.1]) (r := some (.int y4)) (kc1 := 0) (ks1 := 0) (st := []) (st1 := [.int y4]) (e_X10_bitsOf y3.1 y3.2 τ y4 hy4) ms_X10_bitsOf lk_X10_221 ⟨by decide, by decide⟩ ⟨by decide, by decide⟩ (Nat.le_of_ble_eq_true rfl) dX10_swap_25 rfl rfl rfl rfl rfl) ?_
      refine im_st (r_istore_n (i := 3) (L1 := [some (.ref 75), some (.int a1), some (.int a2), some (.int y4), none, none, none, none, none]) dX10_swap_28 rfl rfl (by decide) rfl) ?_
      refine im_st (r_bipush (v := -4) dX10_swap_29 rfl kB_m4) ?_
      refine im_st (r_istore (i := 4) (L1 := [some (.ref 75), some (.int a1), some (.int a2), some (.int y4), some (.int (-4 : Int32)), none, none, none, none]) dX10_swap_31 rfl (by decide) rfl) ?_
      refine im_st (r_iconst (v := 0) dX10_swap_33 rfl kI_0) ?_
      refine im_st (r_istore (i := 5) (L1 := [some (.ref 75), some (.int a1), some (.int a2), some (.int y4), some (.int (-4 : Int32)), some (.int (0 : Int32)), none, none, none]) dX10_swap_34 rfl (by decide) rfl) ?_
      refine im_seq (Gm := fun (e26 : (Int32 × Int32 × Int32 × Sg)) => Go M_X10_swap Q 0 0 197 [none, none, some (.int a2), some (.int e26.1), some (.int e26.2.1), none, none, none, none] [] (mk e26.2.2.2 τ)) ?_ (fun e26 => ?_)
      · refine im_wh (G := fun (s5 : (Int32 × Int32 × Int32 × Sg)) => Go M_X10_swap Q 0 0 36 [some (.ref 75), some (.int a1), some (.int a2), some (.int s5.1), some (.int s5.2.1), some (.int s5.2.2.1), none, none, none] [] (mk s5.2.2.2 τ)) (fun s5 => ?_) _ _
        unfold b_X10_swap_36
        refine im_st (r_iload (i := 5) dX10_swap_36 rfl rfl) ?_
        refine im_st (r_aload_n (i := 0) dX10_swap_38 rfl rfl rfl) ?_
        refine im_st (s_getI (tag := 10) (j := 1) dX10_swap_39 rfl fl_X10_129 rfl (Nat.le_of_ble_eq_true rfl) rfl) ?_
        refine im_br (r_icmp_ge (tgt := 197) dX10_swap_42 rfl (by decide)) (fun c6 => ?_) (fun c6 => ?_)
        · refine im_st (r_fgt (L1 := [none, none, some (.int a2), some (.int s5.1), some (.int s5.2.1), none, none, none, none]) [0, 1, 5] rfl) ?_
          exact im_ret id
        · refine im_st (r_iload (i := 5) dX10_swap_45 rfl rfl) ?_
          refine im_st (r_iconst (v := 1) dX10_swap_47 rfl kI_1) ?_
          refine im_st (r_iadd dX10_swap_48 rfl) ?_
          refine im_st (r_istore (i := 6) (L1 := [some (.ref 75), some (.int a1), some (.int a2), some (.int s5.1), some (.int s5.2.1), some (.int s5.2.2.1), some (.int (s5.2.2.1 + (1 : Int32))), none, none]) dX10_swap_49 rfl (by decide) rfl) ?_
          refine im_seq (Gm := fun (e25 : (Int32 × Int32 × Int32 × Sg)) => Go M_X10_swap Q 0 0 191 [some (.ref 75), some (.int a1), some (.int a2), some (.int e25.1), some (.int e25.2.1), some (.int s5.2.2.1), none, none, none] [] (mk e25.2.2.2 τ)) ?_ (fun e25 => ?_)
          · refine im_wh (G := fun (s7 : (Int32 × Int32 × Int32 × Sg)) => Go M_X10_swap Q 0 0 51 [some (.ref 75), some (.int a1), some (.int a2), some (.int s7.1), some (.int s7.2.1), some (.int s5.2.2.1), some (.int s7.2.2.1), none, none] [] (mk s7.2.2.2 τ)) (fun s7 => ?_) _ _
            unfold b_X10_swap_51
            refine im_st (r_iload (i := 6) dX10_swap_51 rfl rfl) ?_
            refine im_st (r_aload_n (i := 0) dX10_swap_53 rfl rfl rfl) ?_
            refine im_st (s_getI (tag := 10) (j := 1) dX10_swap_54 rfl fl_X10_129 rfl (Nat.le_of_ble_eq_true rfl) rfl) ?_
            refine im_br (r_icmp_ge (tgt := 191) dX10_swap_57 rfl (by decide)) (fun c8 => ?_) (fun c8 => ?_)
            · refine im_st (r_fgt (L1 := [some (.ref 75), some (.int a1), some (.int a2), some (.int s7.1), some (.int s7.2.1), some (.int s5.2.2.1), none, none, none]) [6] rfl) ?_
              exact im_ret id
            · refine im_st (r_aload_n (i := 0) dX10_swap_60 rfl rfl rfl) ?_
              refine im_st (r_iconst (v := 0) dX10_swap_61 rfl kI_0) ?_
              refine im_st (r_sipush (v := 164) dX10_swap_62 rfl kS_164) ?_
              refine im_bind (fun y9 hy9 => ?_)
              refine im_st (r_callV (as := [.int (0 : Int32), .int (164 : Int32)]) (r := none) (kc1 := 0) (ks1 := 0) (st := []) (st1 := []) (e_X10_copies (0 : Int32) (164 : Int32) s7.2.2.2 τ y9 hy9) mv_X10_copies lk_X10_218 ⟨by decide, by decide⟩ rfl (Nat.le_of_ble_eq_true rfl) (by decide) ⟨_, rfl, rfl⟩ ⟨by decide, by decide⟩ (Nat.le_of_ble_eq_true rfl) dX10_swap_65 rfl rfl rfl rfl rfl) ?_
              refine im_st (r_iconst (v := 0) dX10_swap_68 rfl kI_0) ?_
              refine im_st (r_istore (i := 7) (L1 := [some (.ref 75), some (.int a1), some (.int a2), some (.int s7.1), some (.int s7.2.1), some (.int s5.2.2.1), some (.int s7.2.2.1), some (.int (0 : Int32)), none]) dX10_swap_69 rfl (by decide) rfl) ?_
              refine im_seq (Gm := fun (e18 : (Int32 × Sg)) => Go M_X10_swap Q 0 0 138 [some (.ref 75), some (.int a1), some (.int a2), some (.int s7.1), some (.int s7.2.1), some (.int s5.2.2.1), some (.int s7.2.2.1), none, none] [] (mk e18.2 τ)) ?_ (fun e18 => ?_)
              · refine im_wh (G := fun (s10 : (Int32 × Sg)) => Go M_X10_swap Q 0 0 71 [some (.ref 75), some (.int a1), some (.int a2), some (.int s7.1), some (.int s7.2.1), some (.int s5.2.2.1), some (.int s7.2.2.1), some (.int s10.1), none] [] (mk s10.2 τ)) (fun s10 => ?_) _ _
                unfold b_X10_swap_71
                refine im_st (r_iload (i := 7) dX10_swap_71 rfl rfl) ?_
                refine im_st (r_aload_n (i := 0) dX10_swap_73 rfl rfl rfl) ?_
                refine im_st (s_getR (b := 76) (tag := 10) (j := 0) dX10_swap_74 rfl fl_X10_7 rfl (Nat.le_of_ble_eq_true rfl) rfl rfl) ?_
                refine im_st (r_bipush (v := 40) dX10_swap_77 rfl kB_40) ?_
                refine im_st (s_iaload dX10_swap_79 rfl rfl (Nat.le_of_ble_eq_true rfl) (inR_in rfl)) ?_
                refine im_br (r_icmp_ge (tgt := 138) dX10_swap_80 rfl (by decide)) (fun c11 => ?_) (fun c11 => ?_)
                · refine im_st (r_fgt (L1 := [some (.ref 75), some (.int a1), some (.int a2), some (.int s7.1), some (.int s7.2.1), some (.int s5.2.2.1), some (.int s7.2.2.1), none, none]) [7] rfl) ?_
                  exact im_ret id
                · refine im_st (r_aload_n (i := 0) dX10_swap_83 rfl rfl rfl) ?_
                  refine im_st (s_getR (b := 76) (tag := 10) (j := 0) dX10_swap_84 rfl fl_X10_7 rfl (Nat.le_of_ble_eq_true rfl) rfl rfl) ?_
                  refine im_st (r_bipush (v := 26) dX10_swap_87 rfl kB_26) ?_
                  refine im_st (r_iload (i := 7) dX10_swap_89 rfl rfl) ?_
                  refine im_st (r_iadd dX10_swap_91 rfl) ?_
                  refine im_grd (fun g12 => ?_)
                  refine im_st (s_iaload dX10_swap_92 rfl rfl (Nat.le_of_ble_eq_true rfl) (inR_in g12)) ?_
                  refine im_app (Gm := fun (v13 : Int32) => Go M_X10_swap Q 0 0 93 [some (.ref 75), some (.int a1), some (.int a2), some (.int s7.1), some (.int s7.2.1), some (.int s5.2.2.1), some (.int s7.2.2.1), some (.int s10.1), none] [.int v13] (mk s10.2 τ)) (fun v13 => ?_)
                  refine im_st (r_istore (i := 8) (L1 := [some (.ref 75), some (.int a1), some (.int a2), some (.int s7.1), some (.int s7.2.1), some (.int s5.2.2.1), some (.int s7.2.2.1), some (.int s10.1), some (.int v13)]) dX10_swap_93 rfl (by decide) rfl) ?_
                  refine im_st (r_aload_n (i := 0) dX10_swap_95 rfl rfl rfl) ?_
                  refine im_st (s_getR (b := 76) (tag := 10) (j := 0) dX10_swap_96 rfl fl_X10_7 rfl (Nat.le_of_ble_eq_true rfl) rfl rfl) ?_
                  refine im_st (r_sipush (v := 190) dX10_swap_99 rfl kS_190) ?_
                  refine im_st (r_iload (i := 7) dX10_swap_102 rfl rfl) ?_
                  refine im_st (r_iadd dX10_swap_104 rfl) ?_
                  refine im_st (r_iload (i := 8) dX10_swap_105 rfl rfl) ?_
                  refine im_st (r_iload (i := 5) dX10_swap_107 rfl rfl) ?_
                  refine im_seqT (Gm := fun (j14 : Int32) => Go M_X10_swap Q 0 0 131 [some (.ref 75), some (.int a1), some (.int a2), some (.int s7.1), some (.int s7.2.1), some (.int s5.2.2.1), some (.int s7.2.2.1), some (.int s10.1), none] [.int j14, .int ((190 : Int32) + s10.1), .ref 76] (mk s10.2 τ)) ?_ (fun j14 => ?_)
                  · refine im_brS (r_icmp_ne (tgt := 117) dX10_swap_109 rfl (by decide)) (fun c15 => ?_) (fun c15 => ?_)
                    · refine im_st (r_iload (i := 6) dX10_swap_112 rfl rfl) ?_
                      refine im_st (r_goto (pc1 := 131) dX10_swap_114 (by decide)) ?_
                      refine im_st (r_fgt (L1 := [some (.ref 75), some (.int a1), some (.int a2), some (.int s7.1), some (.int s7.2.1), some (.int s5.2.2.1), some (.int s7.2.2.1), some (.int s10.1), none]) [8] rfl) ?_
                      exact im_ret id
                    · refine im_st (r_iload (i := 8) dX10_swap_117 rfl rfl) ?_
                      refine im_st (r_iload (i := 6) dX10_swap_119 rfl rfl) ?_
                      refine im_brS (r_icmp_ne (tgt := 129) dX10_swap_121 rfl (by decide)) (fun c16 => ?_) (fun c16 => ?_)
                      · refine im_st (r_iload (i := 5) dX10_swap_124 rfl rfl) ?_
                        refine im_st (r_goto (pc1 := 131) dX10_swap_126 (by decide)) ?_
                        refine im_st (r_fgt (L1 := [some (.ref 75), some (.int a1), some (.int a2), some (.int s7.1), some (.int s7.2.1), some (.int s5.2.2.1), some (.int s7.2.2.1), some (.int s10.1), none]) [8] rfl) ?_
                        exact im_ret id
                      · refine im_st (r_iload (i := 8) dX10_swap_129 rfl rfl) ?_
                        refine im_st (r_fgt (L1 := [some (.ref 75), some (.int a1), some (.int a2), some (.int s7.1), some (.int s7.2.1), some (.int s5.2.2.1), some (.int s7.2.2.1), some (.int s10.1), none]) [8] rfl) ?_
                        exact im_ret id
                  refine im_grd (fun g17 => ?_)
                  refine im_st (s_iastore dX10_swap_131 rfl rfl (Nat.le_of_ble_eq_true rfl) (inR_in g17)) ?_
                  refine im_st (r_iinc (i := 7) (x := s10.1) (v := (s10.1 + 1)) (L1 := [some (.ref 75), some (.int a1), some (.int a2), some (.int s7.1), some (.int s7.2.1), some (.int s5.2.2.1), some (.int s7.2.2.1), some (.int (s10.1 + 1)), none]) dX10_swap_132 rfl rfl rfl (by decide) rfl) ?_
                  refine im_st (r_goto (pc1 := 71) dX10_swap_135 (by decide)) ?_
                  exact im_ret id
              refine im_st (r_aload_n (i := 0) dX10_swap_138 rfl rfl rfl) ?_
              refine im_st (r_sipush (v := 164) dX10_swap_139 rfl kS_164) ?_
              refine im_st (r_iload_n (i := 1) dX10_swap_142 rfl rfl rfl) ?_
              refine im_bind (fun y19 hy19 => ?_)
              refine im_st (r_callV (as := [.int (164 : Int32), .int a1]) (r := some (.int y19.1)) (kc1 := 0) (ks1 := 0) (st := []) (st1 := [.int y19.1]) (e_X10_winsOn (164 : Int32) a1 e18.2 τ y19 hy19) mv_X10_winsOn lk_X10_172 ⟨by decide, by decide⟩ rfl (Nat.le_of_ble_eq_true rfl) (by decide) ⟨_, rfl, rfl⟩ ⟨by decide, by decide⟩ (Nat.le_of_ble_eq_true rfl) dX10_swap_143 rfl rfl rfl rfl rfl) ?_
              refine im_bind (fun y20 hy20 => ?_)
              refine im_st (r_callS (as := [.int y19.1]) (r := some (.int y20)) (kc1 := 0) (ks1 := 0) (st := []) (st1 := [.int y20]) (e_X10_bitsOf y19.1 y19.2 τ y20 hy20) ms_X10_bitsOf lk_X10_221 ⟨by decide, by decide⟩ ⟨by decide, by decide⟩ (Nat.le_of_ble_eq_true rfl) dX10_swap_146 rfl rfl rfl rfl rfl) ?_
              refine im_st (r_istore (i := 7) (L1 := [some (.ref 75), some (.int a1), some (.int a2), some (.int s7.1), some (.int s7.2.1), some (.int s5.2.2.1), some (.int s7.2.2.1), some (.int y20), none]) dX10_swap_149 rfl (by decide) rfl) ?_
              refine im_st (r_iload (i := 7) dX10_swap_151 rfl rfl) ?_
              refine im_st (r_iload_n (i := 3) dX10_swap_153 rfl rfl rfl) ?_
              refine im_seqT (Gm := fun (j21 : Int32) => Go M_X10_swap Q 0 0 170 [some (.ref 75), some (.int a1), some (.int a2), some (.int s7.1), none, some (.int s5.2.2.1), some (.int s7.2.2.1), some (.int y20), none] [.int j21] (mk y19.2 τ)) ?_ (fun j21 => ?_)
              · refine im_brS (r_icmp_le (tgt := 168) dX10_swap_154 rfl (by decide)) (fun c22 => ?_) (fun c22 => ?_)
                · refine im_st (r_iload (i := 4) dX10_swap_168 rfl rfl) ?_
                  refine im_st (r_fgt (L1 := [some (.ref 75), some (.int a1), some (.int a2), some (.int s7.1), none, some (.int s5.2.2.1), some (.int s7.2.2.1), some (.int y20), none]) [4] rfl) ?_
                  exact im_ret id
                · refine im_st (r_bipush (v := 10) dX10_swap_157 rfl kB_10) ?_
                  refine im_st (r_iload (i := 5) dX10_swap_159 rfl rfl) ?_
                  refine im_st (r_imul dX10_swap_161 rfl) ?_
                  refine im_st (r_iload (i := 6) dX10_swap_162 rfl rfl) ?_
                  refine im_st (r_iadd dX10_swap_164 rfl) ?_
                  refine im_st (r_goto (pc1 := 170) dX10_swap_165 (by decide)) ?_
                  refine im_st (r_fgt (L1 := [some (.ref 75), some (.int a1), some (.int a2), some (.int s7.1), none, some (.int s5.2.2.1), some (.int s7.2.2.1), some (.int y20), none]) [4] rfl) ?_
                  exact im_ret id
              refine im_st (r_istore (i := 4) (L1 := [some (.ref 75), some (.int a1), some (.int a2), some (.int s7.1), some (.int j21), some (.int s5.2.2.1), some (.int s7.2.2.1), some (.int y20), none]) dX10_swap_170 rfl (by decide) rfl) ?_
              refine im_st (r_iload (i := 7) dX10_swap_172 rfl rfl) ?_
              refine im_st (r_iload_n (i := 3) dX10_swap_174 rfl rfl rfl) ?_
              refine im_seqT (Gm := fun (j23 : Int32) => Go M_X10_swap Q 0 0 184 [some (.ref 75), some (.int a1), some (.int a2), none, some (.int j21), some (.int s5.2.2.1), some (.int s7.2.2.1), none, none] [.int j23] (mk y19.2 τ)) ?_ (fun j23 => ?_)
              · refine im_brS (r_icmp_le (tgt := 183) dX10_swap_175 rfl (by decide)) (fun c24 => ?_) (fun c24 => ?_)
                · refine im_st (r_iload_n (i := 3) dX10_swap_183 rfl rfl rfl) ?_
                  refine im_st (r_fgt (L1 := [some (.ref 75), some (.int a1), some (.int a2), none, some (.int j21), some (.int s5.2.2.1), some (.int s7.2.2.1), none, none]) [3, 7] rfl) ?_
                  exact im_ret id
                · refine im_st (r_iload (i := 7) dX10_swap_178 rfl rfl) ?_
                  refine im_st (r_goto (pc1 := 184) dX10_swap_180 (by decide)) ?_
                  refine im_st (r_fgt (L1 := [some (.ref 75), some (.int a1), some (.int a2), none, some (.int j21), some (.int s5.2.2.1), some (.int s7.2.2.1), none, none]) [3, 7] rfl) ?_
                  exact im_ret id
              refine im_st (r_istore_n (i := 3) (L1 := [some (.ref 75), some (.int a1), some (.int a2), some (.int j23), some (.int j21), some (.int s5.2.2.1), some (.int s7.2.2.1), none, none]) dX10_swap_184 rfl rfl (by decide) rfl) ?_
              refine im_st (r_iinc (i := 6) (x := s7.2.2.1) (v := (s7.2.2.1 + 1)) (L1 := [some (.ref 75), some (.int a1), some (.int a2), some (.int j23), some (.int j21), some (.int s5.2.2.1), some (.int (s7.2.2.1 + 1)), none, none]) dX10_swap_185 rfl rfl rfl (by decide) rfl) ?_
              refine im_st (r_goto (pc1 := 51) dX10_swap_188 (by decide)) ?_
              exact im_ret id
          refine im_st (r_iinc (i := 5) (x := s5.2.2.1) (v := (s5.2.2.1 + 1)) (L1 := [some (.ref 75), some (.int a1), some (.int a2), some (.int e25.1), some (.int e25.2.1), some (.int (s5.2.2.1 + 1)), none, none, none]) dX10_swap_191 rfl rfl rfl (by decide) rfl) ?_
          refine im_st (r_goto (pc1 := 36) dX10_swap_194 (by decide)) ?_
          exact im_ret id
      refine im_st (r_iload (i := 4) dX10_swap_197 rfl rfl) ?_
      refine im_st (r_bipush (v := -4) dX10_swap_199 rfl kB_m4) ?_
      refine im_br (r_icmp_eq (tgt := 208) dX10_swap_201 rfl (by decide)) (fun c27 => ?_) (fun c27 => ?_)
      · refine im_st (r_iload (i := 4) dX10_swap_208 rfl rfl) ?_
        refine im_st (r_goto (pc1 := 214) dX10_swap_210 (by decide)) ?_
        exact im_ret (fun q => g_iret rfl rfl rfl dX10_swap_214 q)
      · refine im_st (r_iload_n (i := 2) dX10_swap_204 rfl rfl rfl) ?_
        refine im_br (r_if_ne (tgt := 213) dX10_swap_205 rfl (by decide)) (fun c28 => ?_) (fun c28 => ?_)
        · refine im_st (r_iload (i := 4) dX10_swap_208 rfl rfl) ?_
          refine im_st (r_goto (pc1 := 214) dX10_swap_210 (by decide)) ?_
          exact im_ret (fun q => g_iret rfl rfl rfl dX10_swap_214 q)
        · refine im_st (r_iload_n (i := 3) dX10_swap_213 rfl rfl rfl) ?_
          exact im_ret (fun q => g_iret rfl rfl rfl dX10_swap_214 q)
theorem e_X10_swap (a1 : Int32) (a2 : Int32) (σ : Sg) (τ : Sl) (y : (Int32 × Sg)) (hy : f_X10_swap a1 a2 σ = some y) : EvD M_X10_swap [.ref 75, .int a1, .int a2] (mk σ τ) (some (.int y.1)) (mk y.2 τ) := EvM.of (by decide +kernel) (Nat.le_of_ble_eq_true rfl) (i_X10_swap a1 a2 σ τ _ y hy ⟨rfl, rfl⟩)
def M_X10_pull : Ms := (yX10_pull, cX10_pull, 7, some .int, 4, 102, 0, 0)
theorem mv_X10_pull : MV M_X10_pull 2 := ⟨⟨q1318, q12, by decide, by decide, by decide +kernel⟩, q1316, q1317⟩
def b_X10_pull_62 : (Int32 × Sg) → Option ((Int32 × Sg) ⊕ (Int32 × Sg)) := fun (s8 : (Int32 × Sg)) =>
  if (s8.2 76 (38 : Int32).toNatClampNeg) ≤ s8.1 then
    some (.inr (s8.1, s8.2))
  else
    if inR s8.1 205 then
    if inR (((164 : Int32) + s8.1) - (1 : Int32)) 205 then
    app (up2 s8.2 76 (((164 : Int32) + s8.1) - (1 : Int32)).toNatClampNeg (s8.2 76 s8.1.toNatClampNeg)) fun (σ12 : Sg) =>
    if inR ((7 : Int32) + s8.1) 205 then
    if inR (((171 : Int32) + s8.1) - (1 : Int32)) 205 then
    some (.inl ((s8.1 + 1), (up2 σ12 76 (((171 : Int32) + s8.1) - (1 : Int32)).toNatClampNeg (σ12 76 ((7 : Int32) + s8.1).toNatClampNeg))))
    else none
    else none
    else none
    else none
def b_X10_pull_36 (a1 : Int32) : (Int32 × Int32 × Int32 × Sg) → Option ((Int32 × Int32 × Int32 × Sg) ⊕ (Int32 × Int32 × Int32 × Sg)) := fun (s5 : (Int32 × Int32 × Int32 × Sg)) =>
  if (s5.2.2.2 76 (38 : Int32).toNatClampNeg) ≤ s5.2.2.1 then
    some (.inr (s5.1, s5.2.1, s5.2.2.1, s5.2.2.2))
  else
    (f_X10_copies (0 : Int32) (164 : Int32) s5.2.2.2).bind fun (y7 : Sg) =>
    (wh b_X10_pull_62 4096 ((s5.2.2.1 + (1 : Int32)), y7)).bind fun (e15 : (Int32 × Sg)) =>
    app (up2 e15.2 76 (202 : Int32).toNatClampNeg ((e15.2 76 (202 : Int32).toNatClampNeg) - (1 : Int32))) fun (σ16 : Sg) =>
    (f_X10_winsOn (164 : Int32) a1 σ16).bind fun (y17 : (Int32 × Sg)) =>
    (f_X10_bitsOf y17.1).bind fun (y18 : Int32) =>
    app (if y18 ≤ s5.1 then
      s5.2.1
    else
      s5.2.2.1) fun (j19 : Int32) =>
    app (if y18 ≤ s5.1 then
      s5.1
    else
      y18) fun (j21 : Int32) =>
    some (.inl (j21, j19, (s5.2.2.1 + 1), y17.2))
def f_X10_pull (a1 : Int32) (a2 : Int32) (σ : Sg) : Option (Int32 × Sg) :=
  if (f_X10_isRag a1) = 0 then
    some ((-1 : Int32), σ)
  else
    if (f_X10_in (a2.toInt64) (0 : Int64) (1 : Int64)) = 0 then
      some ((-1 : Int32), σ)
    else
      (f_X10_winsOn (0 : Int32) a1 σ).bind fun (y3 : (Int32 × Sg)) =>
      (f_X10_bitsOf y3.1).bind fun (y4 : Int32) =>
      (wh (b_X10_pull_36 a1) 4096 (y4, (-4 : Int32), (0 : Int32), y3.2)).bind fun (e23 : (Int32 × Int32 × Int32 × Sg)) =>
      if e23.2.1 = (-4 : Int32) then
        some (e23.2.1, e23.2.2.2)
      else
        if a2 = 0 then
          some (e23.2.1, e23.2.2.2)
        else
          some (e23.1, e23.2.2.2)
set_option maxHeartbeats 4000000 in
set_option maxRecDepth 20000 in
theorem i_X10_pull (a1 : Int32) (a2 : Int32) (σ : Sg) (τ : Sl) (Q : Option Value → Hp → Prop) : Imp (f_X10_pull a1 a2 σ) (fun (y : (Int32 × Sg)) => Q (some (.int y.1)) (mk y.2 τ)) (Go M_X10_pull Q 0 0 0 [some (.ref 75), some (.int a1), some (.int a2), none, none, none, none] [] (mk σ τ)) := by
  unfold f_X10_pull
  refine im_st (r_iload_n (i := 1) dX10_pull_0 rfl rfl rfl) ?_
  refine im_st (r_callS (as := [.int a1]) (r := some (.int (f_X10_isRag a1))) (kc1 := 0) (ks1 := 0) (st := []) (st1 := [.int (f_X10_isRag a1)]) (e_X10_isRag a1 σ τ) ms_X10_isRag lk_X10_197 ⟨by decide, by decide⟩ ⟨by decide, by decide⟩ (Nat.le_of_ble_eq_true rfl) dX10_pull_1 rfl rfl rfl rfl rfl) ?_
  refine im_br (r_if_eq (tgt := 17) dX10_pull_4 rfl (by decide)) (fun c1 => ?_) (fun c1 => ?_)
  · refine im_st (r_iconst (v := -1) dX10_pull_17 rfl kI_m1) ?_
    exact im_ret (fun q => g_iret rfl rfl rfl dX10_pull_18 q)
  · refine im_st (r_iload_n (i := 2) dX10_pull_7 rfl rfl rfl) ?_
    refine im_st (r_i2l (v := a2.toInt64) dX10_pull_8 rfl rfl) ?_
    refine im_st (r_lconst (v := 0) dX10_pull_9 rfl rfl) ?_
    refine im_st (r_lconst (v := 1) dX10_pull_10 rfl rfl) ?_
    refine im_st (r_callS (as := [.long (a2.toInt64), .long (0 : Int64), .long (1 : Int64)]) (r := some (.int (f_X10_in (a2.toInt64) (0 : Int64) (1 : Int64)))) (kc1 := 0) (ks1 := 0) (st := []) (st1 := [.int (f_X10_in (a2.toInt64) (0 : Int64) (1 : Int64))]) (e_X10_in (a2.toInt64) (0 : Int64) (1 : Int64) σ τ) ms_X10_in lk_X10_49 ⟨by decide, by decide⟩ ⟨by decide, by decide⟩ (Nat.le_of_ble_eq_true rfl) dX10_pull_11 rfl rfl rfl rfl rfl) ?_
    refine im_br (r_if_ne (tgt := 19) dX10_pull_14 rfl (by decide)) (fun c2 => ?_) (fun c2 => ?_)
    · refine im_st (r_iconst (v := -1) dX10_pull_17 rfl kI_m1) ?_
      exact im_ret (fun q => g_iret rfl rfl rfl dX10_pull_18 q)
    · refine im_st (r_aload_n (i := 0) dX10_pull_19 rfl rfl rfl) ?_
      refine im_st (r_iconst (v := 0) dX10_pull_20 rfl kI_0) ?_
      refine im_st (r_iload_n (i := 1) dX10_pull_21 rfl rfl rfl) ?_
      refine im_bind (fun y3 hy3 => ?_)
      refine im_st (r_callV (as := [.int (0 : Int32), .int a1]) (r := some (.int y3.1)) (kc1 := 0) (ks1 := 0) (st := []) (st1 := [.int y3.1]) (e_X10_winsOn (0 : Int32) a1 σ τ y3 hy3) mv_X10_winsOn lk_X10_172 ⟨by decide, by decide⟩ rfl (Nat.le_of_ble_eq_true rfl) (by decide) ⟨_, rfl, rfl⟩ ⟨by decide, by decide⟩ (Nat.le_of_ble_eq_true rfl) dX10_pull_22 rfl rfl rfl rfl rfl) ?_
      refine im_bind (fun y4 hy4 => ?_)
      refine im_st (r_callS (as := [.int y3.1]) (r := some (.int y4)) (kc1 := 0) (ks1 := 0) (st := []) (st1 := [.int y4]) (e_X10_bitsOf y3.1 y3.2 τ y4 hy4) ms_X10_bitsOf lk_X10_221 ⟨by decide, by decide⟩ ⟨by decide, by decide⟩ (Nat.le_of_ble_eq_true rfl) dX10_pull_25 rfl rfl rfl rfl rfl) ?_
      refine im_st (r_istore_n (i := 3) (L1 := [some (.ref 75), some (.int a1), some (.int a2), some (.int y4), none, none, none]) dX10_pull_28 rfl rfl (by decide) rfl) ?_
      refine im_st (r_bipush (v := -4) dX10_pull_29 rfl kB_m4) ?_
      refine im_st (r_istore (i := 4) (L1 := [some (.ref 75), some (.int a1), some (.int a2), some (.int y4), some (.int (-4 : Int32)), none, none]) dX10_pull_31 rfl (by decide) rfl) ?_
      refine im_st (r_iconst (v := 0) dX10_pull_33 rfl kI_0) ?_
      refine im_st (r_istore (i := 5) (L1 := [some (.ref 75), some (.int a1), some (.int a2), some (.int y4), some (.int (-4 : Int32)), some (.int (0 : Int32)), none]) dX10_pull_34 rfl (by decide) rfl) ?_
      refine im_seq (Gm := fun (e23 : (Int32 × Int32 × Int32 × Sg)) => Go M_X10_pull Q 0 0 182 [none, none, some (.int a2), some (.int e23.1), some (.int e23.2.1), none, none] [] (mk e23.2.2.2 τ)) ?_ (fun e23 => ?_)
      · refine im_wh (G := fun (s5 : (Int32 × Int32 × Int32 × Sg)) => Go M_X10_pull Q 0 0 36 [some (.ref 75), some (.int a1), some (.int a2), some (.int s5.1), some (.int s5.2.1), some (.int s5.2.2.1), none] [] (mk s5.2.2.2 τ)) (fun s5 => ?_) _ _
        unfold b_X10_pull_36
        refine im_st (r_iload (i := 5) dX10_pull_36 rfl rfl) ?_
        refine im_st (r_aload_n (i := 0) dX10_pull_38 rfl rfl rfl) ?_
        refine im_st (s_getR (b := 76) (tag := 10) (j := 0) dX10_pull_39 rfl fl_X10_7 rfl (Nat.le_of_ble_eq_true rfl) rfl rfl) ?_
        refine im_st (r_bipush (v := 38) dX10_pull_42 rfl kB_38) ?_
        refine im_st (s_iaload dX10_pull_44 rfl rfl (Nat.le_of_ble_eq_true rfl) (inR_in rfl)) ?_
        refine im_br (r_icmp_ge (tgt := 182) dX10_pull_45 rfl (by decide)) (fun c6 => ?_) (fun c6 => ?_)
        · refine im_st (r_fgt (L1 := [none, none, some (.int a2), some (.int s5.1), some (.int s5.2.1), none, none]) [0, 1, 5] rfl) ?_
          exact im_ret id
        · refine im_st (r_aload_n (i := 0) dX10_pull_48 rfl rfl rfl) ?_
          refine im_st (r_iconst (v := 0) dX10_pull_49 rfl kI_0) ?_
          refine im_st (r_sipush (v := 164) dX10_pull_50 rfl kS_164) ?_
          refine im_bind (fun y7 hy7 => ?_)
          refine im_st (r_callV (as := [.int (0 : Int32), .int (164 : Int32)]) (r := none) (kc1 := 0) (ks1 := 0) (st := []) (st1 := []) (e_X10_copies (0 : Int32) (164 : Int32) s5.2.2.2 τ y7 hy7) mv_X10_copies lk_X10_218 ⟨by decide, by decide⟩ rfl (Nat.le_of_ble_eq_true rfl) (by decide) ⟨_, rfl, rfl⟩ ⟨by decide, by decide⟩ (Nat.le_of_ble_eq_true rfl) dX10_pull_53 rfl rfl rfl rfl rfl) ?_
          refine im_st (r_iload (i := 5) dX10_pull_56 rfl rfl) ?_
          refine im_st (r_iconst (v := 1) dX10_pull_58 rfl kI_1) ?_
          refine im_st (r_iadd dX10_pull_59 rfl) ?_
          refine im_st (r_istore (i := 6) (L1 := [some (.ref 75), some (.int a1), some (.int a2), some (.int s5.1), some (.int s5.2.1), some (.int s5.2.2.1), some (.int (s5.2.2.1 + (1 : Int32)))]) dX10_pull_60 rfl (by decide) rfl) ?_
          refine im_seq (Gm := fun (e15 : (Int32 × Sg)) => Go M_X10_pull Q 0 0 123 [some (.ref 75), some (.int a1), some (.int a2), some (.int s5.1), some (.int s5.2.1), some (.int s5.2.2.1), none] [] (mk e15.2 τ)) ?_ (fun e15 => ?_)
          · refine im_wh (G := fun (s8 : (Int32 × Sg)) => Go M_X10_pull Q 0 0 62 [some (.ref 75), some (.int a1), some (.int a2), some (.int s5.1), some (.int s5.2.1), some (.int s5.2.2.1), some (.int s8.1)] [] (mk s8.2 τ)) (fun s8 => ?_) _ _
            unfold b_X10_pull_62
            refine im_st (r_iload (i := 6) dX10_pull_62 rfl rfl) ?_
            refine im_st (r_aload_n (i := 0) dX10_pull_64 rfl rfl rfl) ?_
            refine im_st (s_getR (b := 76) (tag := 10) (j := 0) dX10_pull_65 rfl fl_X10_7 rfl (Nat.le_of_ble_eq_true rfl) rfl rfl) ?_
            refine im_st (r_bipush (v := 38) dX10_pull_68 rfl kB_38) ?_
            refine im_st (s_iaload dX10_pull_70 rfl rfl (Nat.le_of_ble_eq_true rfl) (inR_in rfl)) ?_
            refine im_br (r_icmp_ge (tgt := 123) dX10_pull_71 rfl (by decide)) (fun c9 => ?_) (fun c9 => ?_)
            · refine im_st (r_fgt (L1 := [some (.ref 75), some (.int a1), some (.int a2), some (.int s5.1), some (.int s5.2.1), some (.int s5.2.2.1), none]) [6] rfl) ?_
              exact im_ret id
            · refine im_st (r_aload_n (i := 0) dX10_pull_74 rfl rfl rfl) ?_
              refine im_st (s_getR (b := 76) (tag := 10) (j := 0) dX10_pull_75 rfl fl_X10_7 rfl (Nat.le_of_ble_eq_true rfl) rfl rfl) ?_
              refine im_st (r_sipush (v := 164) dX10_pull_78 rfl kS_164) ?_
              refine im_st (r_iload (i := 6) dX10_pull_81 rfl rfl) ?_
              refine im_st (r_iadd dX10_pull_83 rfl) ?_
              refine im_st (r_iconst (v := 1) dX10_pull_84 rfl kI_1) ?_
              refine im_st (r_isub dX10_pull_85 rfl) ?_
              refine im_st (r_aload_n (i := 0) dX10_pull_86 rfl rfl rfl) ?_
              refine im_st (s_getR (b := 76) (tag := 10) (j := 0) dX10_pull_87 rfl fl_X10_7 rfl (Nat.le_of_ble_eq_true rfl) rfl rfl) ?_
              refine im_st (r_iload (i := 6) dX10_pull_90 rfl rfl) ?_
              refine im_grd (fun g10 => ?_)
              refine im_st (s_iaload dX10_pull_92 rfl rfl (Nat.le_of_ble_eq_true rfl) (inR_in g10)) ?_
              refine im_grd (fun g11 => ?_)
              refine im_st (s_iastore dX10_pull_93 rfl rfl (Nat.le_of_ble_eq_true rfl) (inR_in g11)) ?_
              refine im_st (r_aload_n (i := 0) dX10_pull_94 rfl rfl rfl) ?_
              refine im_st (s_getR (b := 76) (tag := 10) (j := 0) dX10_pull_95 rfl fl_X10_7 rfl (Nat.le_of_ble_eq_true rfl) rfl rfl) ?_
              refine im_st (r_sipush (v := 171) dX10_pull_98 rfl kS_171) ?_
              refine im_st (r_iload (i := 6) dX10_pull_101 rfl rfl) ?_
              refine im_st (r_iadd dX10_pull_103 rfl) ?_
              refine im_st (r_iconst (v := 1) dX10_pull_104 rfl kI_1) ?_
              refine im_st (r_isub dX10_pull_105 rfl) ?_
              refine im_st (r_aload_n (i := 0) dX10_pull_106 rfl rfl rfl) ?_
              refine im_st (s_getR (b := 76) (tag := 10) (j := 0) dX10_pull_107 rfl fl_X10_7 rfl (Nat.le_of_ble_eq_true rfl) rfl rfl) ?_
              refine im_st (r_bipush (v := 7) dX10_pull_110 rfl kB_7) ?_
              refine im_st (r_iload (i := 6) dX10_pull_112 rfl rfl) ?_
              refine im_st (r_iadd dX10_pull_114 rfl) ?_
              refine im_app (Gm := fun (σ12 : Sg) => Go M_X10_pull Q 0 0 115 [some (.ref 75), some (.int a1), some (.int a2), some (.int s5.1), some (.int s5.2.1), some (.int s5.2.2.1), some (.int s8.1)] [.int ((7 : Int32) + s8.1), .ref 76, .int (((171 : Int32) + s8.1) - (1 : Int32)), .ref 76] (mk σ12 τ)) (fun σ12 => ?_)
              refine im_grd (fun g13 => ?_)
              refine im_st (s_iaload dX10_pull_115 rfl rfl (Nat.le_of_ble_eq_true rfl) (inR_in g13)) ?_
              refine im_grd (fun g14 => ?_)
              refine im_st (s_iastore dX10_pull_116 rfl rfl (Nat.le_of_ble_eq_true rfl) (inR_in g14)) ?_
              refine im_st (r_iinc (i := 6) (x := s8.1) (v := (s8.1 + 1)) (L1 := [some (.ref 75), some (.int a1), some (.int a2), some (.int s5.1), some (.int s5.2.1), some (.int s5.2.2.1), some (.int (s8.1 + 1))]) dX10_pull_117 rfl rfl rfl (by decide) rfl) ?_
              refine im_st (r_goto (pc1 := 62) dX10_pull_120 (by decide)) ?_
              exact im_ret id
          refine im_st (r_aload_n (i := 0) dX10_pull_123 rfl rfl rfl) ?_
          refine im_st (s_getR (b := 76) (tag := 10) (j := 0) dX10_pull_124 rfl fl_X10_7 rfl (Nat.le_of_ble_eq_true rfl) rfl rfl) ?_
          refine im_st (r_sipush (v := 202) dX10_pull_127 rfl kS_202) ?_
          refine im_st (r_dup2 dX10_pull_130 rfl rfl rfl) ?_
          refine im_st (s_iaload dX10_pull_131 rfl rfl (Nat.le_of_ble_eq_true rfl) (inR_in rfl)) ?_
          refine im_st (r_iconst (v := 1) dX10_pull_132 rfl kI_1) ?_
          refine im_st (r_isub dX10_pull_133 rfl) ?_
          refine im_st (s_iastore dX10_pull_134 rfl rfl (Nat.le_of_ble_eq_true rfl) (inR_in rfl)) ?_
          refine im_st (r_aload_n (i := 0) dX10_pull_135 rfl rfl rfl) ?_
          refine im_st (r_sipush (v := 164) dX10_pull_136 rfl kS_164) ?_
          refine im_st (r_iload_n (i := 1) dX10_pull_139 rfl rfl rfl) ?_
          refine im_app (Gm := fun (σ16 : Sg) => Go M_X10_pull Q 0 0 140 [some (.ref 75), some (.int a1), some (.int a2), some (.int s5.1), some (.int s5.2.1), some (.int s5.2.2.1), none] [.int a1, .int (164 : Int32), .ref 75] (mk σ16 τ)) (fun σ16 => ?_)
          refine im_bind (fun y17 hy17 => ?_)
          refine im_st (r_callV (as := [.int (164 : Int32), .int a1]) (r := some (.int y17.1)) (kc1 := 0) (ks1 := 0) (st := []) (st1 := [.int y17.1]) (e_X10_winsOn (164 : Int32) a1 σ16 τ y17 hy17) mv_X10_winsOn lk_X10_172 ⟨by decide, by decide⟩ rfl (Nat.le_of_ble_eq_true rfl) (by decide) ⟨_, rfl, rfl⟩ ⟨by decide, by decide⟩ (Nat.le_of_ble_eq_true rfl) dX10_pull_140 rfl rfl rfl rfl rfl) ?_
          refine im_bind (fun y18 hy18 => ?_)
          refine im_st (r_callS (as := [.int y17.1]) (r := some (.int y18)) (kc1 := 0) (ks1 := 0) (st := []) (st1 := [.int y18]) (e_X10_bitsOf y17.1 y17.2 τ y18 hy18) ms_X10_bitsOf lk_X10_221 ⟨by decide, by decide⟩ ⟨by decide, by decide⟩ (Nat.le_of_ble_eq_true rfl) dX10_pull_143 rfl rfl rfl rfl rfl) ?_
          refine im_st (r_istore (i := 6) (L1 := [some (.ref 75), some (.int a1), some (.int a2), some (.int s5.1), some (.int s5.2.1), some (.int s5.2.2.1), some (.int y18)]) dX10_pull_146 rfl (by decide) rfl) ?_
          refine im_st (r_iload (i := 6) dX10_pull_148 rfl rfl) ?_
          refine im_st (r_iload_n (i := 3) dX10_pull_150 rfl rfl rfl) ?_
          refine im_seqT (Gm := fun (j19 : Int32) => Go M_X10_pull Q 0 0 161 [some (.ref 75), some (.int a1), some (.int a2), some (.int s5.1), none, some (.int s5.2.2.1), some (.int y18)] [.int j19] (mk y17.2 τ)) ?_ (fun j19 => ?_)
          · refine im_brS (r_icmp_le (tgt := 159) dX10_pull_151 rfl (by decide)) (fun c20 => ?_) (fun c20 => ?_)
            · refine im_st (r_iload (i := 4) dX10_pull_159 rfl rfl) ?_
              refine im_st (r_fgt (L1 := [some (.ref 75), some (.int a1), some (.int a2), some (.int s5.1), none, some (.int s5.2.2.1), some (.int y18)]) [4] rfl) ?_
              exact im_ret id
            · refine im_st (r_iload (i := 5) dX10_pull_154 rfl rfl) ?_
              refine im_st (r_goto (pc1 := 161) dX10_pull_156 (by decide)) ?_
              refine im_st (r_fgt (L1 := [some (.ref 75), some (.int a1), some (.int a2), some (.int s5.1), none, some (.int s5.2.2.1), some (.int y18)]) [4] rfl) ?_
              exact im_ret id
          refine im_st (r_istore (i := 4) (L1 := [some (.ref 75), some (.int a1), some (.int a2), some (.int s5.1), some (.int j19), some (.int s5.2.2.1), some (.int y18)]) dX10_pull_161 rfl (by decide) rfl) ?_
          refine im_st (r_iload (i := 6) dX10_pull_163 rfl rfl) ?_
          refine im_st (r_iload_n (i := 3) dX10_pull_165 rfl rfl rfl) ?_
          refine im_seqT (Gm := fun (j21 : Int32) => Go M_X10_pull Q 0 0 175 [some (.ref 75), some (.int a1), some (.int a2), none, some (.int j19), some (.int s5.2.2.1), none] [.int j21] (mk y17.2 τ)) ?_ (fun j21 => ?_)
          · refine im_brS (r_icmp_le (tgt := 174) dX10_pull_166 rfl (by decide)) (fun c22 => ?_) (fun c22 => ?_)
            · refine im_st (r_iload_n (i := 3) dX10_pull_174 rfl rfl rfl) ?_
              refine im_st (r_fgt (L1 := [some (.ref 75), some (.int a1), some (.int a2), none, some (.int j19), some (.int s5.2.2.1), none]) [3, 6] rfl) ?_
              exact im_ret id
            · refine im_st (r_iload (i := 6) dX10_pull_169 rfl rfl) ?_
              refine im_st (r_goto (pc1 := 175) dX10_pull_171 (by decide)) ?_
              refine im_st (r_fgt (L1 := [some (.ref 75), some (.int a1), some (.int a2), none, some (.int j19), some (.int s5.2.2.1), none]) [3, 6] rfl) ?_
              exact im_ret id
          refine im_st (r_istore_n (i := 3) (L1 := [some (.ref 75), some (.int a1), some (.int a2), some (.int j21), some (.int j19), some (.int s5.2.2.1), none]) dX10_pull_175 rfl rfl (by decide) rfl) ?_
          refine im_st (r_iinc (i := 5) (x := s5.2.2.1) (v := (s5.2.2.1 + 1)) (L1 := [some (.ref 75), some (.int a1), some (.int a2), some (.int j21), some (.int j19), some (.int (s5.2.2.1 + 1)), none]) dX10_pull_176 rfl rfl rfl (by decide) rfl) ?_
          refine im_st (r_goto (pc1 := 36) dX10_pull_179 (by decide)) ?_
          exact im_ret id
      refine im_st (r_iload (i := 4) dX10_pull_182 rfl rfl) ?_
      refine im_st (r_bipush (v := -4) dX10_pull_184 rfl kB_m4) ?_
      refine im_br (r_icmp_eq (tgt := 193) dX10_pull_186 rfl (by decide)) (fun c24 => ?_) (fun c24 => ?_)
      · refine im_st (r_iload (i := 4) dX10_pull_193 rfl rfl) ?_
        refine im_st (r_goto (pc1 := 199) dX10_pull_195 (by decide)) ?_
        exact im_ret (fun q => g_iret rfl rfl rfl dX10_pull_199 q)
      · refine im_st (r_iload_n (i := 2) dX10_pull_189 rfl rfl rfl) ?_
        refine im_br (r_if_ne (tgt := 198) dX10_pull_190 rfl (by decide)) (fun c25 => ?_) (fun c25 => ?_)
        · refine im_st (r_iload (i := 4) dX10_pull_193 rfl rfl) ?_
          refine im_st (r_goto (pc1 := 199) dX10_pull_195 (by decide)) ?_
          exact im_ret (fun q => g_iret rfl rfl rfl dX10_pull_199 q)
        · refine im_st (r_iload_n (i := 3) dX10_pull_198 rfl rfl rfl) ?_
          exact im_ret (fun q => g_iret rfl rfl rfl dX10_pull_199 q)
theorem e_X10_pull (a1 : Int32) (a2 : Int32) (σ : Sg) (τ : Sl) (y : (Int32 × Sg)) (hy : f_X10_pull a1 a2 σ = some y) : EvD M_X10_pull [.ref 75, .int a1, .int a2] (mk σ τ) (some (.int y.1)) (mk y.2 τ) := EvM.of (by decide +kernel) (Nat.le_of_ble_eq_true rfl) (i_X10_pull a1 a2 σ τ _ y hy ⟨rfl, rfl⟩)
def M_X10_lowest : Ms := (yX10_lowest, cX10_lowest, 11, some .long, 0, 0, 0, 0)
theorem ms_X10_lowest : MS M_X10_lowest 3 := ⟨⟨q1331, q12, by decide, by decide, by decide +kernel⟩, q1330⟩
def b_X10_lowest_6 : (Int64 × Int64) → Option ((Int64 × Int64) ⊕ (Int64 × Int64)) := fun (s1 : (Int64 × Int64)) =>
  if (lg_cmp s1.2 (0 : Int64)) = 0 then
    some (.inr (s1.1, s1.2))
  else
    if nzL s1.2 then
    app (s1.1 - s1.1 / s1.2 * s1.2) fun (v4 : Int64) =>
    some (.inl (s1.2, v4))
    else none
def f_X10_lowest (a0 : Int64) (a2 : Int64) (a4 : Int32) : Option Int64 :=
  (wh b_X10_lowest_6 4096 (a0, a2)).bind fun (e5 : (Int64 × Int64)) =>
  app (if a4 = 0 then
    a0
  else
    a2) fun (j6 : Int64) =>
  if nzL e5.1 then
  some (j6 / e5.1)
  else none
set_option maxHeartbeats 4000000 in
set_option maxRecDepth 20000 in
theorem i_X10_lowest (a0 : Int64) (a2 : Int64) (a4 : Int32) (σ : Sg) (τ : Sl) (Q : Option Value → Hp → Prop) : Imp (f_X10_lowest a0 a2 a4) (fun (y : Int64) => Q (some (.long y)) (mk σ τ)) (Go M_X10_lowest Q 0 0 0 [some (.long a0), none, some (.long a2), none, some (.int a4), none, none, none, none, none, none] [] (mk σ τ)) := by
  unfold f_X10_lowest
  refine im_st (r_lload_n (i := 0) dX10_lowest_0 rfl rfl rfl) ?_
  refine im_st (r_lstore (i := 5) (L1 := [some (.long a0), none, some (.long a2), none, some (.int a4), some (.long a0), none, none, none, none, none]) dX10_lowest_1 rfl (by decide) rfl) ?_
  refine im_st (r_lload_n (i := 2) dX10_lowest_3 rfl rfl rfl) ?_
  refine im_st (r_lstore (i := 7) (L1 := [some (.long a0), none, some (.long a2), none, some (.int a4), some (.long a0), none, some (.long a2), none, none, none]) dX10_lowest_4 rfl (by decide) rfl) ?_
  refine im_seq (Gm := fun (e5 : (Int64 × Int64)) => Go M_X10_lowest Q 0 0 31 [some (.long a0), none, some (.long a2), none, some (.int a4), some (.long e5.1), none, none, none, none, none] [] (mk σ τ)) ?_ (fun e5 => ?_)
  · refine im_wh (G := fun (s1 : (Int64 × Int64)) => Go M_X10_lowest Q 0 0 6 [some (.long a0), none, some (.long a2), none, some (.int a4), some (.long s1.1), none, some (.long s1.2), none, none, none] [] (mk σ τ)) (fun s1 => ?_) _ _
    unfold b_X10_lowest_6
    refine im_st (r_lload (i := 7) dX10_lowest_6 rfl rfl) ?_
    refine im_st (r_lconst (v := 0) dX10_lowest_8 rfl rfl) ?_
    refine im_st (r_lcmp dX10_lowest_9 rfl) ?_
    refine im_br (r_if_eq (tgt := 31) dX10_lowest_10 rfl (by decide)) (fun c2 => ?_) (fun c2 => ?_)
    · refine im_st (r_fgt (L1 := [some (.long a0), none, some (.long a2), none, some (.int a4), some (.long s1.1), none, none, none, none, none]) [7] rfl) ?_
      exact im_ret id
    · refine im_st (r_lload (i := 5) dX10_lowest_13 rfl rfl) ?_
      refine im_st (r_lload (i := 7) dX10_lowest_15 rfl rfl) ?_
      refine im_grd (fun g3 => ?_)
      refine im_st (r_lrem dX10_lowest_17 rfl (nzL_ne g3)) ?_
      refine im_app (Gm := fun (v4 : Int64) => Go M_X10_lowest Q 0 0 18 [some (.long a0), none, some (.long a2), none, some (.int a4), some (.long s1.1), none, some (.long s1.2), none, none, none] [.long v4] (mk σ τ)) (fun v4 => ?_)
      refine im_st (r_lstore (i := 9) (L1 := [some (.long a0), none, some (.long a2), none, some (.int a4), some (.long s1.1), none, some (.long s1.2), none, some (.long v4), none]) dX10_lowest_18 rfl (by decide) rfl) ?_
      refine im_st (r_lload (i := 7) dX10_lowest_20 rfl rfl) ?_
      refine im_st (r_lstore (i := 5) (L1 := [some (.long a0), none, some (.long a2), none, some (.int a4), some (.long s1.2), none, some (.long s1.2), none, some (.long v4), none]) dX10_lowest_22 rfl (by decide) rfl) ?_
      refine im_st (r_lload (i := 9) dX10_lowest_24 rfl rfl) ?_
      refine im_st (r_lstore (i := 7) (L1 := [some (.long a0), none, some (.long a2), none, some (.int a4), some (.long s1.2), none, some (.long v4), none, some (.long v4), none]) dX10_lowest_26 rfl (by decide) rfl) ?_
      refine im_st (r_goto (pc1 := 6) dX10_lowest_28 (by decide)) ?_
      refine im_st (r_fgt (L1 := [some (.long a0), none, some (.long a2), none, some (.int a4), some (.long s1.2), none, some (.long v4), none, none, none]) [9] rfl) ?_
      exact im_ret id
  refine im_st (r_iload (i := 4) dX10_lowest_31 rfl rfl) ?_
  refine im_seqT (Gm := fun (j6 : Int64) => Go M_X10_lowest Q 0 0 41 [none, none, none, none, none, some (.long e5.1), none, none, none, none, none] [.long j6] (mk σ τ)) ?_ (fun j6 => ?_)
  · refine im_brS (r_if_ne (tgt := 40) dX10_lowest_33 rfl (by decide)) (fun c7 => ?_) (fun c7 => ?_)
    · refine im_st (r_lload_n (i := 0) dX10_lowest_36 rfl rfl rfl) ?_
      refine im_st (r_goto (pc1 := 41) dX10_lowest_37 (by decide)) ?_
      refine im_st (r_fgt (L1 := [none, none, none, none, none, some (.long e5.1), none, none, none, none, none]) [0, 2, 4] rfl) ?_
      exact im_ret id
    · refine im_st (r_lload_n (i := 2) dX10_lowest_40 rfl rfl rfl) ?_
      refine im_st (r_fgt (L1 := [none, none, none, none, none, some (.long e5.1), none, none, none, none, none]) [0, 2, 4] rfl) ?_
      exact im_ret id
  refine im_st (r_lload (i := 5) dX10_lowest_41 rfl rfl) ?_
  refine im_grd (fun g8 => ?_)
  refine im_st (r_ldiv dX10_lowest_43 rfl (nzL_ne g8)) ?_
  exact im_ret (fun q => g_lret rfl rfl rfl dX10_lowest_44 q)
theorem e_X10_lowest (a0 : Int64) (a2 : Int64) (a4 : Int32) (σ : Sg) (τ : Sl) (y : Int64) (hy : f_X10_lowest a0 a2 a4 = some y) : EvD M_X10_lowest [.long a0, .long a2, .int a4] (mk σ τ) (some (.long y)) (mk σ τ) := EvM.of (by decide +kernel) (Nat.le_of_ble_eq_true rfl) (i_X10_lowest a0 a2 a4 σ τ _ y hy ⟨rfl, rfl⟩)
def M_X10_byTurns : Ms := (yX10_byTurns, cX10_byTurns, 14, some .long, 2, 54, 0, 0)
theorem mv_X10_byTurns : MV M_X10_byTurns 5 := ⟨⟨q1327, q12, by decide, by decide, by decide +kernel⟩, q1326, p47⟩
def b_X10_byTurns_25 (a1 : Int32) (s1 : (Int64 × Int32 × Sg)) : (Int64 × Int32) → Option ((Int64 × Int32) ⊕ (Int64 × Int32)) := fun (s3 : (Int64 × Int32)) =>
  if (10 : Int32) ≤ s3.2 then
    some (.inr (s3.1, s3.2))
  else
    app (if ((s1.2.1 >>> (s3.2 &&& 31)) &&& (1 : Int32)) = (1 : Int32) then
      (a1.toInt64)
    else
      (((10 : Int32) - a1).toInt64)) fun (j5 : Int64) =>
    some (.inl ((s3.1 * j5), (s3.2 + 1)))
def b_X10_byTurns_11 (a1 : Int32) (a2 : Int32) (a3 : Int32) (a4 : Int32) : (Int64 × Int32 × Sg) → Option ((Int64 × Int32 × Sg) ⊕ (Int64 × Int32 × Sg)) := fun (s1 : (Int64 × Int32 × Sg)) =>
  if (1024 : Int32) ≤ s1.2.1 then
    some (.inr (s1.1, s1.2.1, s1.2.2))
  else
    (wh (b_X10_byTurns_25 a1 s1) 4096 ((1 : Int64), (0 : Int32))).bind fun (e7 : (Int64 × Int32)) =>
    (if (lg_cmp e7.1 (0 : Int64)) ≤ 0 then
      some (s1.1, s1.2.2)
    else
      (f_X10_runsOn (0 : Int32) a2 a3 s1.2.1 s1.2.2).bind fun (y10 : Sg) =>
      (if a4 = (-4 : Int32) then
        some (y10 75 18)
      else
        if (y10 75 16) = (-4 : Int32) then
          some (0 : Int32)
        else
          if inR ((7 : Int32) + (y10 75 16)) 205 then
          if (y10 76 ((7 : Int32) + (y10 75 16)).toNatClampNeg) = a4 then
            some (1 : Int32)
          else
            some (0 : Int32)
          else none).bind fun (j11 : Int32) =>
      app (s1.1 + (e7.1 * (j11.toInt64))) fun (v16 : Int64) =>
      some (v16, y10)).bind fun (j8 : (Int64 × Sg)) =>
    some (.inl (j8.1, (s1.2.1 + 1), j8.2))
def f_X10_byTurns (a1 : Int32) (a2 : Int32) (a3 : Int32) (a4 : Int32) (a5 : Int32) (σ : Sg) : Option (Int64 × Sg) :=
  (wh (b_X10_byTurns_11 a1 a2 a3 a4) 4096 ((0 : Int64), (0 : Int32), σ)).bind fun (e17 : (Int64 × Int32 × Sg)) =>
  (f_X10_lowest e17.1 (10000000000 : Int64) a5).bind fun (y18 : Int64) =>
  some (y18, e17.2.2)
set_option maxHeartbeats 4000000 in
set_option maxRecDepth 20000 in
theorem i_X10_byTurns (a1 : Int32) (a2 : Int32) (a3 : Int32) (a4 : Int32) (a5 : Int32) (σ : Sg) (τ : Sl) (Q : Option Value → Hp → Prop) : Imp (f_X10_byTurns a1 a2 a3 a4 a5 σ) (fun (y : (Int64 × Sg)) => Q (some (.long y.1)) (mk y.2 τ)) (Go M_X10_byTurns Q 0 0 0 [some (.ref 75), some (.int a1), some (.int a2), some (.int a3), some (.int a4), some (.int a5), none, none, none, none, none, none, none, none] [] (mk σ τ)) := by
  unfold f_X10_byTurns
  refine im_st (r_lconst (v := 0) dX10_byTurns_0 rfl rfl) ?_
  refine im_st (r_lstore (i := 6) (L1 := [some (.ref 75), some (.int a1), some (.int a2), some (.int a3), some (.int a4), some (.int a5), some (.long (0 : Int64)), none, none, none, none, none, none, none]) dX10_byTurns_1 rfl (by decide) rfl) ?_
  refine im_st (r_ldc2 (v := 10000000000) dX10_byTurns_3 rfl q1328) ?_
  refine im_st (r_lstore (i := 8) (L1 := [some (.ref 75), some (.int a1), some (.int a2), some (.int a3), some (.int a4), some (.int a5), some (.long (0 : Int64)), none, some (.long (10000000000 : Int64)), none, none, none, none, none]) dX10_byTurns_6 rfl (by decide) rfl) ?_
  refine im_st (r_iconst (v := 0) dX10_byTurns_8 rfl kI_0) ?_
  refine im_st (r_istore (i := 10) (L1 := [some (.ref 75), some (.int a1), some (.int a2), some (.int a3), some (.int a4), some (.int a5), some (.long (0 : Int64)), none, some (.long (10000000000 : Int64)), none, some (.int (0 : Int32)), none, none, none]) dX10_byTurns_9 rfl (by decide) rfl) ?_
  refine im_seq (Gm := fun (e17 : (Int64 × Int32 × Sg)) => Go M_X10_byTurns Q 0 0 140 [none, none, none, none, none, some (.int a5), some (.long e17.1), none, some (.long (10000000000 : Int64)), none, none, none, none, none] [] (mk e17.2.2 τ)) ?_ (fun e17 => ?_)
  · refine im_wh (G := fun (s1 : (Int64 × Int32 × Sg)) => Go M_X10_byTurns Q 0 0 11 [some (.ref 75), some (.int a1), some (.int a2), some (.int a3), some (.int a4), some (.int a5), some (.long s1.1), none, some (.long (10000000000 : Int64)), none, some (.int s1.2.1), none, none, none] [] (mk s1.2.2 τ)) (fun s1 => ?_) _ _
    unfold b_X10_byTurns_11
    refine im_st (r_iload (i := 10) dX10_byTurns_11 rfl rfl) ?_
    refine im_st (r_sipush (v := 1024) dX10_byTurns_13 rfl kS_1024) ?_
    refine im_br (r_icmp_ge (tgt := 140) dX10_byTurns_16 rfl (by decide)) (fun c2 => ?_) (fun c2 => ?_)
    · refine im_st (r_fgt (L1 := [none, none, none, none, none, some (.int a5), some (.long s1.1), none, some (.long (10000000000 : Int64)), none, none, none, none, none]) [0, 1, 2, 3, 4, 10] rfl) ?_
      exact im_ret id
    · refine im_st (r_lconst (v := 1) dX10_byTurns_19 rfl rfl) ?_
      refine im_st (r_lstore (i := 11) (L1 := [some (.ref 75), some (.int a1), some (.int a2), some (.int a3), some (.int a4), some (.int a5), some (.long s1.1), none, some (.long (10000000000 : Int64)), none, some (.int s1.2.1), some (.long (1 : Int64)), none, none]) dX10_byTurns_20 rfl (by decide) rfl) ?_
      refine im_st (r_iconst (v := 0) dX10_byTurns_22 rfl kI_0) ?_
      refine im_st (r_istore (i := 13) (L1 := [some (.ref 75), some (.int a1), some (.int a2), some (.int a3), some (.int a4), some (.int a5), some (.long s1.1), none, some (.long (10000000000 : Int64)), none, some (.int s1.2.1), some (.long (1 : Int64)), none, some (.int (0 : Int32))]) dX10_byTurns_23 rfl (by decide) rfl) ?_
      refine im_seq (Gm := fun (e7 : (Int64 × Int32)) => Go M_X10_byTurns Q 0 0 64 [some (.ref 75), some (.int a1), some (.int a2), some (.int a3), some (.int a4), some (.int a5), some (.long s1.1), none, some (.long (10000000000 : Int64)), none, some (.int s1.2.1), some (.long e7.1), none, none] [] (mk s1.2.2 τ)) ?_ (fun e7 => ?_)
      · refine im_wh (G := fun (s3 : (Int64 × Int32)) => Go M_X10_byTurns Q 0 0 25 [some (.ref 75), some (.int a1), some (.int a2), some (.int a3), some (.int a4), some (.int a5), some (.long s1.1), none, some (.long (10000000000 : Int64)), none, some (.int s1.2.1), some (.long s3.1), none, some (.int s3.2)] [] (mk s1.2.2 τ)) (fun s3 => ?_) _ _
        unfold b_X10_byTurns_25
        refine im_st (r_iload (i := 13) dX10_byTurns_25 rfl rfl) ?_
        refine im_st (r_bipush (v := 10) dX10_byTurns_27 rfl kB_10) ?_
        refine im_br (r_icmp_ge (tgt := 64) dX10_byTurns_29 rfl (by decide)) (fun c4 => ?_) (fun c4 => ?_)
        · refine im_st (r_fgt (L1 := [some (.ref 75), some (.int a1), some (.int a2), some (.int a3), some (.int a4), some (.int a5), some (.long s1.1), none, some (.long (10000000000 : Int64)), none, some (.int s1.2.1), some (.long s3.1), none, none]) [13] rfl) ?_
          exact im_ret id
        · refine im_st (r_lload (i := 11) dX10_byTurns_32 rfl rfl) ?_
          refine im_st (r_iload (i := 10) dX10_byTurns_34 rfl rfl) ?_
          refine im_st (r_iload (i := 13) dX10_byTurns_36 rfl rfl) ?_
          refine im_st (r_ishr dX10_byTurns_38 rfl) ?_
          refine im_st (r_iconst (v := 1) dX10_byTurns_39 rfl kI_1) ?_
          refine im_st (r_iand dX10_byTurns_40 rfl) ?_
          refine im_st (r_iconst (v := 1) dX10_byTurns_41 rfl kI_1) ?_
          refine im_seqT (Gm := fun (j5 : Int64) => Go M_X10_byTurns Q 0 0 55 [some (.ref 75), some (.int a1), some (.int a2), some (.int a3), some (.int a4), some (.int a5), some (.long s1.1), none, some (.long (10000000000 : Int64)), none, some (.int s1.2.1), none, none, some (.int s3.2)] [.long j5, .long s3.1] (mk s1.2.2 τ)) ?_ (fun j5 => ?_)
          · refine im_brS (r_icmp_ne (tgt := 50) dX10_byTurns_42 rfl (by decide)) (fun c6 => ?_) (fun c6 => ?_)
            · refine im_st (r_iload_n (i := 1) dX10_byTurns_45 rfl rfl rfl) ?_
              refine im_st (r_i2l (v := a1.toInt64) dX10_byTurns_46 rfl rfl) ?_
              refine im_st (r_goto (pc1 := 55) dX10_byTurns_47 (by decide)) ?_
              refine im_st (r_fgt (L1 := [some (.ref 75), some (.int a1), some (.int a2), some (.int a3), some (.int a4), some (.int a5), some (.long s1.1), none, some (.long (10000000000 : Int64)), none, some (.int s1.2.1), none, none, some (.int s3.2)]) [11] rfl) ?_
              exact im_ret id
            · refine im_st (r_bipush (v := 10) dX10_byTurns_50 rfl kB_10) ?_
              refine im_st (r_iload_n (i := 1) dX10_byTurns_52 rfl rfl rfl) ?_
              refine im_st (r_isub dX10_byTurns_53 rfl) ?_
              refine im_st (r_i2l (v := ((10 : Int32) - a1).toInt64) dX10_byTurns_54 rfl rfl) ?_
              refine im_st (r_fgt (L1 := [some (.ref 75), some (.int a1), some (.int a2), some (.int a3), some (.int a4), some (.int a5), some (.long s1.1), none, some (.long (10000000000 : Int64)), none, some (.int s1.2.1), none, none, some (.int s3.2)]) [11] rfl) ?_
              exact im_ret id
          refine im_st (r_lmul dX10_byTurns_55 rfl) ?_
          refine im_st (r_lstore (i := 11) (L1 := [some (.ref 75), some (.int a1), some (.int a2), some (.int a3), some (.int a4), some (.int a5), some (.long s1.1), none, some (.long (10000000000 : Int64)), none, some (.int s1.2.1), some (.long (s3.1 * j5)), none, some (.int s3.2)]) dX10_byTurns_56 rfl (by decide) rfl) ?_
          refine im_st (r_iinc (i := 13) (x := s3.2) (v := (s3.2 + 1)) (L1 := [some (.ref 75), some (.int a1), some (.int a2), some (.int a3), some (.int a4), some (.int a5), some (.long s1.1), none, some (.long (10000000000 : Int64)), none, some (.int s1.2.1), some (.long (s3.1 * j5)), none, some (.int (s3.2 + 1))]) dX10_byTurns_58 rfl rfl rfl (by decide) rfl) ?_
          refine im_st (r_goto (pc1 := 25) dX10_byTurns_61 (by decide)) ?_
          exact im_ret id
      refine im_st (r_lload (i := 11) dX10_byTurns_64 rfl rfl) ?_
      refine im_st (r_lconst (v := 0) dX10_byTurns_66 rfl rfl) ?_
      refine im_st (r_lcmp dX10_byTurns_67 rfl) ?_
      refine im_seq (Gm := fun (j8 : (Int64 × Sg)) => Go M_X10_byTurns Q 0 0 134 [some (.ref 75), some (.int a1), some (.int a2), some (.int a3), some (.int a4), some (.int a5), some (.long j8.1), none, some (.long (10000000000 : Int64)), none, some (.int s1.2.1), none, none, none] [] (mk j8.2 τ)) ?_ (fun j8 => ?_)
      · refine im_br (r_if_le (tgt := 134) dX10_byTurns_68 rfl (by decide)) (fun c9 => ?_) (fun c9 => ?_)
        · refine im_st (r_fgt (L1 := [some (.ref 75), some (.int a1), some (.int a2), some (.int a3), some (.int a4), some (.int a5), some (.long s1.1), none, some (.long (10000000000 : Int64)), none, some (.int s1.2.1), none, none, none]) [11] rfl) ?_
          exact im_ret id
        · refine im_st (r_aload_n (i := 0) dX10_byTurns_71 rfl rfl rfl) ?_
          refine im_st (r_iconst (v := 0) dX10_byTurns_72 rfl kI_0) ?_
          refine im_st (r_iload_n (i := 2) dX10_byTurns_73 rfl rfl rfl) ?_
          refine im_st (r_iload_n (i := 3) dX10_byTurns_74 rfl rfl rfl) ?_
          refine im_st (r_iload (i := 10) dX10_byTurns_75 rfl rfl) ?_
          refine im_bind (fun y10 hy10 => ?_)
          refine im_st (r_callV (as := [.int (0 : Int32), .int a2, .int a3, .int s1.2.1]) (r := none) (kc1 := 0) (ks1 := 0) (st := []) (st1 := []) (e_X10_runsOn (0 : Int32) a2 a3 s1.2.1 s1.2.2 τ y10 hy10) mv_X10_runsOn lk_X10_164 ⟨by decide, by decide⟩ rfl (Nat.le_of_ble_eq_true rfl) (by decide) ⟨_, rfl, rfl⟩ ⟨by decide, by decide⟩ (Nat.le_of_ble_eq_true rfl) dX10_byTurns_77 rfl rfl rfl rfl rfl) ?_
          refine im_st (r_lload (i := 6) dX10_byTurns_80 rfl rfl) ?_
          refine im_st (r_lload (i := 11) dX10_byTurns_82 rfl rfl) ?_
          refine im_st (r_iload (i := 4) dX10_byTurns_84 rfl rfl) ?_
          refine im_st (r_bipush (v := -4) dX10_byTurns_86 rfl kB_m4) ?_
          refine im_seq (Gm := fun (j11 : Int32) => Go M_X10_byTurns Q 0 0 129 [some (.ref 75), some (.int a1), some (.int a2), some (.int a3), some (.int a4), some (.int a5), none, none, some (.long (10000000000 : Int64)), none, some (.int s1.2.1), none, none, none] [.int j11, .long e7.1, .long s1.1] (mk y10 τ)) ?_ (fun j11 => ?_)
          · refine im_br (r_icmp_ne (tgt := 98) dX10_byTurns_88 rfl (by decide)) (fun c12 => ?_) (fun c12 => ?_)
            · refine im_st (r_aload_n (i := 0) dX10_byTurns_91 rfl rfl rfl) ?_
              refine im_st (s_getI (tag := 10) (j := 18) dX10_byTurns_92 rfl fl_X10_151 rfl (Nat.le_of_ble_eq_true rfl) rfl) ?_
              refine im_st (r_goto (pc1 := 129) dX10_byTurns_95 (by decide)) ?_
              refine im_st (r_fgt (L1 := [some (.ref 75), some (.int a1), some (.int a2), some (.int a3), some (.int a4), some (.int a5), none, none, some (.long (10000000000 : Int64)), none, some (.int s1.2.1), none, none, none]) [6, 11] rfl) ?_
              exact im_ret id
            · refine im_st (r_aload_n (i := 0) dX10_byTurns_98 rfl rfl rfl) ?_
              refine im_st (s_getI (tag := 10) (j := 16) dX10_byTurns_99 rfl fl_X10_145 rfl (Nat.le_of_ble_eq_true rfl) rfl) ?_
              refine im_st (r_bipush (v := -4) dX10_byTurns_102 rfl kB_m4) ?_
              refine im_br (r_icmp_eq (tgt := 128) dX10_byTurns_104 rfl (by decide)) (fun c13 => ?_) (fun c13 => ?_)
              · refine im_st (r_iconst (v := 0) dX10_byTurns_128 rfl kI_0) ?_
                refine im_st (r_fgt (L1 := [some (.ref 75), some (.int a1), some (.int a2), some (.int a3), some (.int a4), some (.int a5), none, none, some (.long (10000000000 : Int64)), none, some (.int s1.2.1), none, none, none]) [6, 11] rfl) ?_
                exact im_ret id
              · refine im_st (r_aload_n (i := 0) dX10_byTurns_107 rfl rfl rfl) ?_
                refine im_st (s_getR (b := 76) (tag := 10) (j := 0) dX10_byTurns_108 rfl fl_X10_7 rfl (Nat.le_of_ble_eq_true rfl) rfl rfl) ?_
                refine im_st (r_bipush (v := 7) dX10_byTurns_111 rfl kB_7) ?_
                refine im_st (r_aload_n (i := 0) dX10_byTurns_113 rfl rfl rfl) ?_
                refine im_st (s_getI (tag := 10) (j := 16) dX10_byTurns_114 rfl fl_X10_145 rfl (Nat.le_of_ble_eq_true rfl) rfl) ?_
                refine im_st (r_iadd dX10_byTurns_117 rfl) ?_
                refine im_grd (fun g14 => ?_)
                refine im_st (s_iaload dX10_byTurns_118 rfl rfl (Nat.le_of_ble_eq_true rfl) (inR_in g14)) ?_
                refine im_st (r_iload (i := 4) dX10_byTurns_119 rfl rfl) ?_
                refine im_br (r_icmp_ne (tgt := 128) dX10_byTurns_121 rfl (by decide)) (fun c15 => ?_) (fun c15 => ?_)
                · refine im_st (r_iconst (v := 1) dX10_byTurns_124 rfl kI_1) ?_
                  refine im_st (r_goto (pc1 := 129) dX10_byTurns_125 (by decide)) ?_
                  refine im_st (r_fgt (L1 := [some (.ref 75), some (.int a1), some (.int a2), some (.int a3), some (.int a4), some (.int a5), none, none, some (.long (10000000000 : Int64)), none, some (.int s1.2.1), none, none, none]) [6, 11] rfl) ?_
                  exact im_ret id
                · refine im_st (r_iconst (v := 0) dX10_byTurns_128 rfl kI_0) ?_
                  refine im_st (r_fgt (L1 := [some (.ref 75), some (.int a1), some (.int a2), some (.int a3), some (.int a4), some (.int a5), none, none, some (.long (10000000000 : Int64)), none, some (.int s1.2.1), none, none, none]) [6, 11] rfl) ?_
                  exact im_ret id
          refine im_st (r_i2l (v := j11.toInt64) dX10_byTurns_129 rfl rfl) ?_
          refine im_st (r_lmul dX10_byTurns_130 rfl) ?_
          refine im_st (r_ladd dX10_byTurns_131 rfl) ?_
          refine im_app (Gm := fun (v16 : Int64) => Go M_X10_byTurns Q 0 0 132 [some (.ref 75), some (.int a1), some (.int a2), some (.int a3), some (.int a4), some (.int a5), none, none, some (.long (10000000000 : Int64)), none, some (.int s1.2.1), none, none, none] [.long v16] (mk y10 τ)) (fun v16 => ?_)
          refine im_st (r_lstore (i := 6) (L1 := [some (.ref 75), some (.int a1), some (.int a2), some (.int a3), some (.int a4), some (.int a5), some (.long v16), none, some (.long (10000000000 : Int64)), none, some (.int s1.2.1), none, none, none]) dX10_byTurns_132 rfl (by decide) rfl) ?_
          exact im_ret id
      refine im_st (r_iinc (i := 10) (x := s1.2.1) (v := (s1.2.1 + 1)) (L1 := [some (.ref 75), some (.int a1), some (.int a2), some (.int a3), some (.int a4), some (.int a5), some (.long j8.1), none, some (.long (10000000000 : Int64)), none, some (.int (s1.2.1 + 1)), none, none, none]) dX10_byTurns_134 rfl rfl rfl (by decide) rfl) ?_
      refine im_st (r_goto (pc1 := 11) dX10_byTurns_137 (by decide)) ?_
      exact im_ret id
  refine im_st (r_lload (i := 6) dX10_byTurns_140 rfl rfl) ?_
  refine im_st (r_lload (i := 8) dX10_byTurns_142 rfl rfl) ?_
  refine im_st (r_iload (i := 5) dX10_byTurns_144 rfl rfl) ?_
  refine im_bind (fun y18 hy18 => ?_)
  refine im_st (r_callS (as := [.long e17.1, .long (10000000000 : Int64), .int a5]) (r := some (.long y18)) (kc1 := 0) (ks1 := 0) (st := []) (st1 := [.long y18]) (e_X10_lowest e17.1 (10000000000 : Int64) a5 e17.2.2 τ y18 hy18) ms_X10_lowest lk_X10_226 ⟨by decide, by decide⟩ ⟨by decide, by decide⟩ (Nat.le_of_ble_eq_true rfl) dX10_byTurns_146 rfl rfl rfl rfl rfl) ?_
  exact im_ret (fun q => g_lret rfl rfl rfl dX10_byTurns_149 q)
theorem e_X10_byTurns (a1 : Int32) (a2 : Int32) (a3 : Int32) (a4 : Int32) (a5 : Int32) (σ : Sg) (τ : Sl) (y : (Int64 × Sg)) (hy : f_X10_byTurns a1 a2 a3 a4 a5 σ = some y) : EvD M_X10_byTurns [.ref 75, .int a1, .int a2, .int a3, .int a4, .int a5] (mk σ τ) (some (.long y.1)) (mk y.2 τ) := EvM.of (by decide +kernel) (Nat.le_of_ble_eq_true rfl) (i_X10_byTurns a1 a2 a3 a4 a5 σ τ _ y hy ⟨rfl, rfl⟩)
def M_X10_luck : Ms := (yX10_luck, cX10_luck, 6, some .long, 3, 87, 0, 0)
theorem mv_X10_luck : MV M_X10_luck 5 := ⟨⟨q1322, q12, by decide, by decide, by decide +kernel⟩, q1320, q1321⟩
def f_X10_luck (a1 : Int32) (a2 : Int32) (a3 : Int32) (a4 : Int32) (a5 : Int32) (σ : Sg) : Option (Int64 × Sg) :=
  if (f_X10_in (a1.toInt64) (0 : Int64) (10 : Int64)) = 0 then
    some ((-1 : Int64), σ)
  else
    if (f_X10_isHog a2 σ) = 0 then
      some ((-1 : Int64), σ)
    else
      if (f_X10_isColumn a3) = 0 then
        some ((-1 : Int64), σ)
      else
        if (f_X10_isRag a4) = 0 then
          some ((-1 : Int64), σ)
        else
          if (f_X10_in (a5.toInt64) (0 : Int64) (1 : Int64)) = 0 then
            some ((-1 : Int64), σ)
          else
            (f_X10_byTurns a1 a2 a3 a4 a5 σ).bind fun (y6 : (Int64 × Sg)) =>
            some (y6.1, y6.2)
set_option maxHeartbeats 4000000 in
set_option maxRecDepth 20000 in
theorem i_X10_luck (a1 : Int32) (a2 : Int32) (a3 : Int32) (a4 : Int32) (a5 : Int32) (σ : Sg) (τ : Sl) (Q : Option Value → Hp → Prop) : Imp (f_X10_luck a1 a2 a3 a4 a5 σ) (fun (y : (Int64 × Sg)) => Q (some (.long y.1)) (mk y.2 τ)) (Go M_X10_luck Q 0 0 0 [some (.ref 75), some (.int a1), some (.int a2), some (.int a3), some (.int a4), some (.int a5)] [] (mk σ τ)) := by
  unfold f_X10_luck
  refine im_st (r_iload_n (i := 1) dX10_luck_0 rfl rfl rfl) ?_
  refine im_st (r_i2l (v := a1.toInt64) dX10_luck_1 rfl rfl) ?_
  refine im_st (r_lconst (v := 0) dX10_luck_2 rfl rfl) ?_
  refine im_st (r_ldc2 (v := 10) dX10_luck_3 rfl q1323) ?_
  refine im_st (r_callS (as := [.long (a1.toInt64), .long (0 : Int64), .long (10 : Int64)]) (r := some (.int (f_X10_in (a1.toInt64) (0 : Int64) (10 : Int64)))) (kc1 := 0) (ks1 := 0) (st := []) (st1 := [.int (f_X10_in (a1.toInt64) (0 : Int64) (10 : Int64))]) (e_X10_in (a1.toInt64) (0 : Int64) (10 : Int64) σ τ) ms_X10_in lk_X10_49 ⟨by decide, by decide⟩ ⟨by decide, by decide⟩ (Nat.le_of_ble_eq_true rfl) dX10_luck_6 rfl rfl rfl rfl rfl) ?_
  refine im_br (r_if_eq (tgt := 60) dX10_luck_9 rfl (by decide)) (fun c1 => ?_) (fun c1 => ?_)
  · refine im_st (r_ldc2 (v := -1) dX10_luck_60 rfl q1332) ?_
    exact im_ret (fun q => g_lret rfl rfl rfl dX10_luck_63 q)
  · refine im_st (r_aload_n (i := 0) dX10_luck_12 rfl rfl rfl) ?_
    refine im_st (r_iload_n (i := 2) dX10_luck_13 rfl rfl rfl) ?_
    refine im_st (r_callV (as := [.int a2]) (r := some (.int (f_X10_isHog a2 σ))) (kc1 := 0) (ks1 := 0) (st := []) (st1 := [.int (f_X10_isHog a2 σ)]) (e_X10_isHog a2 σ τ) mv_X10_isHog lk_X10_180 ⟨by decide, by decide⟩ rfl (Nat.le_of_ble_eq_true rfl) (by decide) ⟨_, rfl, rfl⟩ ⟨by decide, by decide⟩ (Nat.le_of_ble_eq_true rfl) dX10_luck_14 rfl rfl rfl rfl rfl) ?_
    refine im_br (r_if_eq (tgt := 60) dX10_luck_17 rfl (by decide)) (fun c2 => ?_) (fun c2 => ?_)
    · refine im_st (r_ldc2 (v := -1) dX10_luck_60 rfl q1332) ?_
      exact im_ret (fun q => g_lret rfl rfl rfl dX10_luck_63 q)
    · refine im_st (r_iload_n (i := 3) dX10_luck_20 rfl rfl rfl) ?_
      refine im_st (r_callS (as := [.int a3]) (r := some (.int (f_X10_isColumn a3))) (kc1 := 0) (ks1 := 0) (st := []) (st1 := [.int (f_X10_isColumn a3)]) (e_X10_isColumn a3 σ τ) ms_X10_isColumn lk_X10_213 ⟨by decide, by decide⟩ ⟨by decide, by decide⟩ (Nat.le_of_ble_eq_true rfl) dX10_luck_21 rfl rfl rfl rfl rfl) ?_
      refine im_br (r_if_eq (tgt := 60) dX10_luck_24 rfl (by decide)) (fun c3 => ?_) (fun c3 => ?_)
      · refine im_st (r_ldc2 (v := -1) dX10_luck_60 rfl q1332) ?_
        exact im_ret (fun q => g_lret rfl rfl rfl dX10_luck_63 q)
      · refine im_st (r_iload (i := 4) dX10_luck_27 rfl rfl) ?_
        refine im_st (r_callS (as := [.int a4]) (r := some (.int (f_X10_isRag a4))) (kc1 := 0) (ks1 := 0) (st := []) (st1 := [.int (f_X10_isRag a4)]) (e_X10_isRag a4 σ τ) ms_X10_isRag lk_X10_197 ⟨by decide, by decide⟩ ⟨by decide, by decide⟩ (Nat.le_of_ble_eq_true rfl) dX10_luck_29 rfl rfl rfl rfl rfl) ?_
        refine im_br (r_if_eq (tgt := 60) dX10_luck_32 rfl (by decide)) (fun c4 => ?_) (fun c4 => ?_)
        · refine im_st (r_ldc2 (v := -1) dX10_luck_60 rfl q1332) ?_
          exact im_ret (fun q => g_lret rfl rfl rfl dX10_luck_63 q)
        · refine im_st (r_iload (i := 5) dX10_luck_35 rfl rfl) ?_
          refine im_st (r_i2l (v := a5.toInt64) dX10_luck_37 rfl rfl) ?_
          refine im_st (r_lconst (v := 0) dX10_luck_38 rfl rfl) ?_
          refine im_st (r_lconst (v := 1) dX10_luck_39 rfl rfl) ?_
          refine im_st (r_callS (as := [.long (a5.toInt64), .long (0 : Int64), .long (1 : Int64)]) (r := some (.int (f_X10_in (a5.toInt64) (0 : Int64) (1 : Int64)))) (kc1 := 0) (ks1 := 0) (st := []) (st1 := [.int (f_X10_in (a5.toInt64) (0 : Int64) (1 : Int64))]) (e_X10_in (a5.toInt64) (0 : Int64) (1 : Int64) σ τ) ms_X10_in lk_X10_49 ⟨by decide, by decide⟩ ⟨by decide, by decide⟩ (Nat.le_of_ble_eq_true rfl) dX10_luck_40 rfl rfl rfl rfl rfl) ?_
          refine im_br (r_if_eq (tgt := 60) dX10_luck_43 rfl (by decide)) (fun c5 => ?_) (fun c5 => ?_)
          · refine im_st (r_ldc2 (v := -1) dX10_luck_60 rfl q1332) ?_
            exact im_ret (fun q => g_lret rfl rfl rfl dX10_luck_63 q)
          · refine im_st (r_aload_n (i := 0) dX10_luck_46 rfl rfl rfl) ?_
            refine im_st (r_iload_n (i := 1) dX10_luck_47 rfl rfl rfl) ?_
            refine im_st (r_iload_n (i := 2) dX10_luck_48 rfl rfl rfl) ?_
            refine im_st (r_iload_n (i := 3) dX10_luck_49 rfl rfl rfl) ?_
            refine im_st (r_iload (i := 4) dX10_luck_50 rfl rfl) ?_
            refine im_st (r_iload (i := 5) dX10_luck_52 rfl rfl) ?_
            refine im_bind (fun y6 hy6 => ?_)
            refine im_st (r_callV (as := [.int a1, .int a2, .int a3, .int a4, .int a5]) (r := some (.long y6.1)) (kc1 := 0) (ks1 := 0) (st := []) (st1 := [.long y6.1]) (e_X10_byTurns a1 a2 a3 a4 a5 σ τ y6 hy6) mv_X10_byTurns lk_X10_232 ⟨by decide, by decide⟩ rfl (Nat.le_of_ble_eq_true rfl) (by decide) ⟨_, rfl, rfl⟩ ⟨by decide, by decide⟩ (Nat.le_of_ble_eq_true rfl) dX10_luck_54 rfl rfl rfl rfl rfl) ?_
            refine im_st (r_goto (pc1 := 63) dX10_luck_57 (by decide)) ?_
            exact im_ret (fun q => g_lret rfl rfl rfl dX10_luck_63 q)
theorem e_X10_luck (a1 : Int32) (a2 : Int32) (a3 : Int32) (a4 : Int32) (a5 : Int32) (σ : Sg) (τ : Sl) (y : (Int64 × Sg)) (hy : f_X10_luck a1 a2 a3 a4 a5 σ = some y) : EvD M_X10_luck [.ref 75, .int a1, .int a2, .int a3, .int a4, .int a5] (mk σ τ) (some (.long y.1)) (mk y.2 τ) := EvM.of (by decide +kernel) (Nat.le_of_ble_eq_true rfl) (i_X10_luck a1 a2 a3 a4 a5 σ τ _ y hy ⟨rfl, rfl⟩)
def M_X10_mean : Ms := (yX10_mean, cX10_mean, 5, some .long, 3, 87, 0, 0)
theorem mv_X10_mean : MV M_X10_mean 4 := ⟨⟨q1336, q12, by decide, by decide, by decide +kernel⟩, q1334, q1335⟩
def f_X10_mean (a1 : Int32) (a2 : Int32) (a3 : Int32) (a4 : Int32) (σ : Sg) : Option (Int64 × Sg) :=
  if (f_X10_in (a1.toInt64) (0 : Int64) (10 : Int64)) = 0 then
    some ((-1 : Int64), σ)
  else
    if (f_X10_isHog a2 σ) = 0 then
      some ((-1 : Int64), σ)
    else
      if (f_X10_isColumn a3) = 0 then
        some ((-1 : Int64), σ)
      else
        if (f_X10_in (a4.toInt64) (0 : Int64) (1 : Int64)) = 0 then
          some ((-1 : Int64), σ)
        else
          (f_X10_byTurns a1 a2 a3 (-4 : Int32) a4 σ).bind fun (y5 : (Int64 × Sg)) =>
          some (y5.1, y5.2)
set_option maxHeartbeats 4000000 in
set_option maxRecDepth 20000 in
theorem i_X10_mean (a1 : Int32) (a2 : Int32) (a3 : Int32) (a4 : Int32) (σ : Sg) (τ : Sl) (Q : Option Value → Hp → Prop) : Imp (f_X10_mean a1 a2 a3 a4 σ) (fun (y : (Int64 × Sg)) => Q (some (.long y.1)) (mk y.2 τ)) (Go M_X10_mean Q 0 0 0 [some (.ref 75), some (.int a1), some (.int a2), some (.int a3), some (.int a4)] [] (mk σ τ)) := by
  unfold f_X10_mean
  refine im_st (r_iload_n (i := 1) dX10_mean_0 rfl rfl rfl) ?_
  refine im_st (r_i2l (v := a1.toInt64) dX10_mean_1 rfl rfl) ?_
  refine im_st (r_lconst (v := 0) dX10_mean_2 rfl rfl) ?_
  refine im_st (r_ldc2 (v := 10) dX10_mean_3 rfl q1323) ?_
  refine im_st (r_callS (as := [.long (a1.toInt64), .long (0 : Int64), .long (10 : Int64)]) (r := some (.int (f_X10_in (a1.toInt64) (0 : Int64) (10 : Int64)))) (kc1 := 0) (ks1 := 0) (st := []) (st1 := [.int (f_X10_in (a1.toInt64) (0 : Int64) (10 : Int64))]) (e_X10_in (a1.toInt64) (0 : Int64) (10 : Int64) σ τ) ms_X10_in lk_X10_49 ⟨by decide, by decide⟩ ⟨by decide, by decide⟩ (Nat.le_of_ble_eq_true rfl) dX10_mean_6 rfl rfl rfl rfl rfl) ?_
  refine im_br (r_if_eq (tgt := 52) dX10_mean_9 rfl (by decide)) (fun c1 => ?_) (fun c1 => ?_)
  · refine im_st (r_ldc2 (v := -1) dX10_mean_52 rfl q1332) ?_
    exact im_ret (fun q => g_lret rfl rfl rfl dX10_mean_55 q)
  · refine im_st (r_aload_n (i := 0) dX10_mean_12 rfl rfl rfl) ?_
    refine im_st (r_iload_n (i := 2) dX10_mean_13 rfl rfl rfl) ?_
    refine im_st (r_callV (as := [.int a2]) (r := some (.int (f_X10_isHog a2 σ))) (kc1 := 0) (ks1 := 0) (st := []) (st1 := [.int (f_X10_isHog a2 σ)]) (e_X10_isHog a2 σ τ) mv_X10_isHog lk_X10_180 ⟨by decide, by decide⟩ rfl (Nat.le_of_ble_eq_true rfl) (by decide) ⟨_, rfl, rfl⟩ ⟨by decide, by decide⟩ (Nat.le_of_ble_eq_true rfl) dX10_mean_14 rfl rfl rfl rfl rfl) ?_
    refine im_br (r_if_eq (tgt := 52) dX10_mean_17 rfl (by decide)) (fun c2 => ?_) (fun c2 => ?_)
    · refine im_st (r_ldc2 (v := -1) dX10_mean_52 rfl q1332) ?_
      exact im_ret (fun q => g_lret rfl rfl rfl dX10_mean_55 q)
    · refine im_st (r_iload_n (i := 3) dX10_mean_20 rfl rfl rfl) ?_
      refine im_st (r_callS (as := [.int a3]) (r := some (.int (f_X10_isColumn a3))) (kc1 := 0) (ks1 := 0) (st := []) (st1 := [.int (f_X10_isColumn a3)]) (e_X10_isColumn a3 σ τ) ms_X10_isColumn lk_X10_213 ⟨by decide, by decide⟩ ⟨by decide, by decide⟩ (Nat.le_of_ble_eq_true rfl) dX10_mean_21 rfl rfl rfl rfl rfl) ?_
      refine im_br (r_if_eq (tgt := 52) dX10_mean_24 rfl (by decide)) (fun c3 => ?_) (fun c3 => ?_)
      · refine im_st (r_ldc2 (v := -1) dX10_mean_52 rfl q1332) ?_
        exact im_ret (fun q => g_lret rfl rfl rfl dX10_mean_55 q)
      · refine im_st (r_iload (i := 4) dX10_mean_27 rfl rfl) ?_
        refine im_st (r_i2l (v := a4.toInt64) dX10_mean_29 rfl rfl) ?_
        refine im_st (r_lconst (v := 0) dX10_mean_30 rfl rfl) ?_
        refine im_st (r_lconst (v := 1) dX10_mean_31 rfl rfl) ?_
        refine im_st (r_callS (as := [.long (a4.toInt64), .long (0 : Int64), .long (1 : Int64)]) (r := some (.int (f_X10_in (a4.toInt64) (0 : Int64) (1 : Int64)))) (kc1 := 0) (ks1 := 0) (st := []) (st1 := [.int (f_X10_in (a4.toInt64) (0 : Int64) (1 : Int64))]) (e_X10_in (a4.toInt64) (0 : Int64) (1 : Int64) σ τ) ms_X10_in lk_X10_49 ⟨by decide, by decide⟩ ⟨by decide, by decide⟩ (Nat.le_of_ble_eq_true rfl) dX10_mean_32 rfl rfl rfl rfl rfl) ?_
        refine im_br (r_if_eq (tgt := 52) dX10_mean_35 rfl (by decide)) (fun c4 => ?_) (fun c4 => ?_)
        · refine im_st (r_ldc2 (v := -1) dX10_mean_52 rfl q1332) ?_
          exact im_ret (fun q => g_lret rfl rfl rfl dX10_mean_55 q)
        · refine im_st (r_aload_n (i := 0) dX10_mean_38 rfl rfl rfl) ?_
          refine im_st (r_iload_n (i := 1) dX10_mean_39 rfl rfl rfl) ?_
          refine im_st (r_iload_n (i := 2) dX10_mean_40 rfl rfl rfl) ?_
          refine im_st (r_iload_n (i := 3) dX10_mean_41 rfl rfl rfl) ?_
          refine im_st (r_bipush (v := -4) dX10_mean_42 rfl kB_m4) ?_
          refine im_st (r_iload (i := 4) dX10_mean_44 rfl rfl) ?_
          refine im_bind (fun y5 hy5 => ?_)
          refine im_st (r_callV (as := [.int a1, .int a2, .int a3, .int (-4 : Int32), .int a4]) (r := some (.long y5.1)) (kc1 := 0) (ks1 := 0) (st := []) (st1 := [.long y5.1]) (e_X10_byTurns a1 a2 a3 (-4 : Int32) a4 σ τ y5 hy5) mv_X10_byTurns lk_X10_232 ⟨by decide, by decide⟩ rfl (Nat.le_of_ble_eq_true rfl) (by decide) ⟨_, rfl, rfl⟩ ⟨by decide, by decide⟩ (Nat.le_of_ble_eq_true rfl) dX10_mean_46 rfl rfl rfl rfl rfl) ?_
          refine im_st (r_goto (pc1 := 55) dX10_mean_49 (by decide)) ?_
          exact im_ret (fun q => g_lret rfl rfl rfl dX10_mean_55 q)
theorem e_X10_mean (a1 : Int32) (a2 : Int32) (a3 : Int32) (a4 : Int32) (σ : Sg) (τ : Sl) (y : (Int64 × Sg)) (hy : f_X10_mean a1 a2 a3 a4 σ = some y) : EvD M_X10_mean [.ref 75, .int a1, .int a2, .int a3, .int a4] (mk σ τ) (some (.long y.1)) (mk y.2 τ) := EvM.of (by decide +kernel) (Nat.le_of_ble_eq_true rfl) (i_X10_mean a1 a2 a3 a4 σ τ _ y hy ⟨rfl, rfl⟩)
def M_X10_see : Ms := (yX10_see, cX10_see, 4, some .int, 2, 46, 0, 0)
theorem mv_X10_see : MV M_X10_see 3 := ⟨⟨q1340, q12, by decide, by decide, by decide +kernel⟩, q1338, q1339⟩
def f_X10_see (a1 : Int32) (a2 : Int32) (a3 : Int32) (σ : Sg) : Option (Int32 × Sg) :=
  if (f_X10_isHog a1 σ) = 0 then
    some ((-1 : Int32), σ)
  else
    if (f_X10_isColumn a2) = 0 then
      some ((-1 : Int32), σ)
    else
      if (f_X10_in (a3.toInt64) (0 : Int64) (6 : Int64)) = 0 then
        if a3 = (9 : Int32) then
          if (σ 75 22) = (6 : Int32) then
            some ((-3 : Int32), σ)
          else
            if inR ((3 : Int32) * (σ 75 22)) 18 then
            app (up2 σ 82 ((3 : Int32) * (σ 75 22)).toNatClampNeg a1) fun (σ7 : Sg) =>
            app (((3 : Int32) * (σ7 75 22)) + (1 : Int32)) fun (v8 : Int32) =>
            if inR v8 18 then
            app (up2 σ7 82 v8.toNatClampNeg a2) fun (σ10 : Sg) =>
            app (if a3 = (9 : Int32) then
              (-4 : Int32)
            else
              a3) fun (j11 : Int32) =>
            app (((3 : Int32) * (σ10 75 22)) + (2 : Int32)) fun (v13 : Int32) =>
            if inR v13 18 then
            app (up2 σ10 82 v13.toNatClampNeg j11) fun (σ15 : Sg) =>
            app (up2 σ15 75 22 ((σ15 75 22) + (1 : Int32))) fun (σ16 : Sg) =>
            some ((σ16 75 22), σ16)
            else none
            else none
            else none
        else
          some ((-1 : Int32), σ)
      else
        if (σ 75 22) = (6 : Int32) then
          some ((-3 : Int32), σ)
        else
          if inR ((3 : Int32) * (σ 75 22)) 18 then
          app (up2 σ 82 ((3 : Int32) * (σ 75 22)).toNatClampNeg a1) fun (σ19 : Sg) =>
          app (((3 : Int32) * (σ19 75 22)) + (1 : Int32)) fun (v20 : Int32) =>
          if inR v20 18 then
          app (up2 σ19 82 v20.toNatClampNeg a2) fun (σ22 : Sg) =>
          app (if a3 = (9 : Int32) then
            (-4 : Int32)
          else
            a3) fun (j23 : Int32) =>
          app (((3 : Int32) * (σ22 75 22)) + (2 : Int32)) fun (v25 : Int32) =>
          if inR v25 18 then
          app (up2 σ22 82 v25.toNatClampNeg j23) fun (σ27 : Sg) =>
          app (up2 σ27 75 22 ((σ27 75 22) + (1 : Int32))) fun (σ28 : Sg) =>
          some ((σ28 75 22), σ28)
          else none
          else none
          else none
set_option maxHeartbeats 4000000 in
set_option maxRecDepth 20000 in
theorem i_X10_see (a1 : Int32) (a2 : Int32) (a3 : Int32) (σ : Sg) (τ : Sl) (Q : Option Value → Hp → Prop) : Imp (f_X10_see a1 a2 a3 σ) (fun (y : (Int32 × Sg)) => Q (some (.int y.1)) (mk y.2 τ)) (Go M_X10_see Q 0 0 0 [some (.ref 75), some (.int a1), some (.int a2), some (.int a3)] [] (mk σ τ)) := by
  unfold f_X10_see
  refine im_st (r_aload_n (i := 0) dX10_see_0 rfl rfl rfl) ?_
  refine im_st (r_iload_n (i := 1) dX10_see_1 rfl rfl rfl) ?_
  refine im_st (r_callV (as := [.int a1]) (r := some (.int (f_X10_isHog a1 σ))) (kc1 := 0) (ks1 := 0) (st := []) (st1 := [.int (f_X10_isHog a1 σ)]) (e_X10_isHog a1 σ τ) mv_X10_isHog lk_X10_180 ⟨by decide, by decide⟩ rfl (Nat.le_of_ble_eq_true rfl) (by decide) ⟨_, rfl, rfl⟩ ⟨by decide, by decide⟩ (Nat.le_of_ble_eq_true rfl) dX10_see_2 rfl rfl rfl rfl rfl) ?_
  refine im_br (r_if_eq (tgt := 33) dX10_see_5 rfl (by decide)) (fun c1 => ?_) (fun c1 => ?_)
  · refine im_st (r_iconst (v := -1) dX10_see_33 rfl kI_m1) ?_
    exact im_ret (fun q => g_iret rfl rfl rfl dX10_see_34 q)
  · refine im_st (r_iload_n (i := 2) dX10_see_8 rfl rfl rfl) ?_
    refine im_st (r_callS (as := [.int a2]) (r := some (.int (f_X10_isColumn a2))) (kc1 := 0) (ks1 := 0) (st := []) (st1 := [.int (f_X10_isColumn a2)]) (e_X10_isColumn a2 σ τ) ms_X10_isColumn lk_X10_213 ⟨by decide, by decide⟩ ⟨by decide, by decide⟩ (Nat.le_of_ble_eq_true rfl) dX10_see_9 rfl rfl rfl rfl rfl) ?_
    refine im_br (r_if_eq (tgt := 33) dX10_see_12 rfl (by decide)) (fun c2 => ?_) (fun c2 => ?_)
    · refine im_st (r_iconst (v := -1) dX10_see_33 rfl kI_m1) ?_
      exact im_ret (fun q => g_iret rfl rfl rfl dX10_see_34 q)
    · refine im_st (r_iload_n (i := 3) dX10_see_15 rfl rfl rfl) ?_
      refine im_st (r_i2l (v := a3.toInt64) dX10_see_16 rfl rfl) ?_
      refine im_st (r_lconst (v := 0) dX10_see_17 rfl rfl) ?_
      refine im_st (r_ldc2 (v := 6) dX10_see_18 rfl q1115) ?_
      refine im_st (r_callS (as := [.long (a3.toInt64), .long (0 : Int64), .long (6 : Int64)]) (r := some (.int (f_X10_in (a3.toInt64) (0 : Int64) (6 : Int64)))) (kc1 := 0) (ks1 := 0) (st := []) (st1 := [.int (f_X10_in (a3.toInt64) (0 : Int64) (6 : Int64))]) (e_X10_in (a3.toInt64) (0 : Int64) (6 : Int64) σ τ) ms_X10_in lk_X10_49 ⟨by decide, by decide⟩ ⟨by decide, by decide⟩ (Nat.le_of_ble_eq_true rfl) dX10_see_21 rfl rfl rfl rfl rfl) ?_
      refine im_br (r_if_ne (tgt := 35) dX10_see_24 rfl (by decide)) (fun c3 => ?_) (fun c3 => ?_)
      · refine im_st (r_iload_n (i := 3) dX10_see_27 rfl rfl rfl) ?_
        refine im_st (r_bipush (v := 9) dX10_see_28 rfl kB_9) ?_
        refine im_br (r_icmp_eq (tgt := 35) dX10_see_30 rfl (by decide)) (fun c4 => ?_) (fun c4 => ?_)
        · refine im_st (r_aload_n (i := 0) dX10_see_35 rfl rfl rfl) ?_
          refine im_st (s_getI (tag := 10) (j := 22) dX10_see_36 rfl fl_X10_132 rfl (Nat.le_of_ble_eq_true rfl) rfl) ?_
          refine im_st (r_bipush (v := 6) dX10_see_39 rfl kB_6) ?_
          refine im_br (r_icmp_ne (tgt := 47) dX10_see_41 rfl (by decide)) (fun c5 => ?_) (fun c5 => ?_)
          · refine im_st (r_bipush (v := -3) dX10_see_44 rfl kB_m3) ?_
            exact im_ret (fun q => g_iret rfl rfl rfl dX10_see_46 q)
          · refine im_st (r_aload_n (i := 0) dX10_see_47 rfl rfl rfl) ?_
            refine im_st (s_getR (b := 82) (tag := 10) (j := 21) dX10_see_48 rfl fl_X10_28 rfl (Nat.le_of_ble_eq_true rfl) rfl rfl) ?_
            refine im_st (r_iconst (v := 3) dX10_see_51 rfl kI_3) ?_
            refine im_st (r_aload_n (i := 0) dX10_see_52 rfl rfl rfl) ?_
            refine im_st (s_getI (tag := 10) (j := 22) dX10_see_53 rfl fl_X10_132 rfl (Nat.le_of_ble_eq_true rfl) rfl) ?_
            refine im_st (r_imul dX10_see_56 rfl) ?_
            refine im_st (r_iload_n (i := 1) dX10_see_57 rfl rfl rfl) ?_
            refine im_grd (fun g6 => ?_)
            refine im_st (s_iastore dX10_see_58 rfl rfl (Nat.le_of_ble_eq_true rfl) (inR_in g6)) ?_
            refine im_st (r_aload_n (i := 0) dX10_see_59 rfl rfl rfl) ?_
            refine im_st (s_getR (b := 82) (tag := 10) (j := 21) dX10_see_60 rfl fl_X10_28 rfl (Nat.le_of_ble_eq_true rfl) rfl rfl) ?_
            refine im_st (r_iconst (v := 3) dX10_see_63 rfl kI_3) ?_
            refine im_st (r_aload_n (i := 0) dX10_see_64 rfl rfl rfl) ?_
            refine im_app (Gm := fun (σ7 : Sg) => Go M_X10_see Q 0 0 65 [some (.ref 75), some (.int a1), some (.int a2), some (.int a3)] [.ref 75, .int (3 : Int32), .ref 82] (mk σ7 τ)) (fun σ7 => ?_)
            refine im_st (s_getI (tag := 10) (j := 22) dX10_see_65 rfl fl_X10_132 rfl (Nat.le_of_ble_eq_true rfl) rfl) ?_
            refine im_st (r_imul dX10_see_68 rfl) ?_
            refine im_st (r_iconst (v := 1) dX10_see_69 rfl kI_1) ?_
            refine im_st (r_iadd dX10_see_70 rfl) ?_
            refine im_st (r_iload_n (i := 2) dX10_see_71 rfl rfl rfl) ?_
            refine im_app (Gm := fun (v8 : Int32) => Go M_X10_see Q 0 0 72 [some (.ref 75), some (.int a1), some (.int a2), some (.int a3)] [.int a2, .int v8, .ref 82] (mk σ7 τ)) (fun v8 => ?_)
            refine im_grd (fun g9 => ?_)
            refine im_st (s_iastore dX10_see_72 rfl rfl (Nat.le_of_ble_eq_true rfl) (inR_in g9)) ?_
            refine im_st (r_aload_n (i := 0) dX10_see_73 rfl rfl rfl) ?_
            refine im_st (s_getR (b := 82) (tag := 10) (j := 21) dX10_see_74 rfl fl_X10_28 rfl (Nat.le_of_ble_eq_true rfl) rfl rfl) ?_
            refine im_st (r_iconst (v := 3) dX10_see_77 rfl kI_3) ?_
            refine im_st (r_aload_n (i := 0) dX10_see_78 rfl rfl rfl) ?_
            refine im_app (Gm := fun (σ10 : Sg) => Go M_X10_see Q 0 0 79 [some (.ref 75), some (.int a1), some (.int a2), some (.int a3)] [.ref 75, .int (3 : Int32), .ref 82] (mk σ10 τ)) (fun σ10 => ?_)
            refine im_st (s_getI (tag := 10) (j := 22) dX10_see_79 rfl fl_X10_132 rfl (Nat.le_of_ble_eq_true rfl) rfl) ?_
            refine im_st (r_imul dX10_see_82 rfl) ?_
            refine im_st (r_iconst (v := 2) dX10_see_83 rfl kI_2) ?_
            refine im_st (r_iadd dX10_see_84 rfl) ?_
            refine im_st (r_iload_n (i := 3) dX10_see_85 rfl rfl rfl) ?_
            refine im_st (r_bipush (v := 9) dX10_see_86 rfl kB_9) ?_
            refine im_seqT (Gm := fun (j11 : Int32) => Go M_X10_see Q 0 0 97 [some (.ref 75), none, none, none] [.int j11, .int (((3 : Int32) * (σ10 75 22)) + (2 : Int32)), .ref 82] (mk σ10 τ)) ?_ (fun j11 => ?_)
            · refine im_brS (r_icmp_ne (tgt := 96) dX10_see_88 rfl (by decide)) (fun c12 => ?_) (fun c12 => ?_)
              · refine im_st (r_bipush (v := -4) dX10_see_91 rfl kB_m4) ?_
                refine im_st (r_goto (pc1 := 97) dX10_see_93 (by decide)) ?_
                refine im_st (r_fgt (L1 := [some (.ref 75), none, none, none]) [1, 2, 3] rfl) ?_
                exact im_ret id
              · refine im_st (r_iload_n (i := 3) dX10_see_96 rfl rfl rfl) ?_
                refine im_st (r_fgt (L1 := [some (.ref 75), none, none, none]) [1, 2, 3] rfl) ?_
                exact im_ret id
            refine im_app (Gm := fun (v13 : Int32) => Go M_X10_see Q 0 0 97 [some (.ref 75), none, none, none] [.int j11, .int v13, .ref 82] (mk σ10 τ)) (fun v13 => ?_)
            refine im_grd (fun g14 => ?_)
            refine im_st (s_iastore dX10_see_97 rfl rfl (Nat.le_of_ble_eq_true rfl) (inR_in g14)) ?_
            refine im_st (r_aload_n (i := 0) dX10_see_98 rfl rfl rfl) ?_
            refine im_st (r_dup dX10_see_99 rfl rfl) ?_
            refine im_app (Gm := fun (σ15 : Sg) => Go M_X10_see Q 0 0 100 [some (.ref 75), none, none, none] [.ref 75, .ref 75] (mk σ15 τ)) (fun σ15 => ?_)
            refine im_st (s_getI (tag := 10) (j := 22) dX10_see_100 rfl fl_X10_132 rfl (Nat.le_of_ble_eq_true rfl) rfl) ?_
            refine im_st (r_iconst (v := 1) dX10_see_103 rfl kI_1) ?_
            refine im_st (r_iadd dX10_see_104 rfl) ?_
            refine im_st (s_putI (tag := 10) (j := 22) dX10_see_105 rfl fl_X10_132 rfl (Nat.le_of_ble_eq_true rfl) rfl fw_10_22) ?_
            refine im_st (r_aload_n (i := 0) dX10_see_108 rfl rfl rfl) ?_
            refine im_app (Gm := fun (σ16 : Sg) => Go M_X10_see Q 0 0 109 [some (.ref 75), none, none, none] [.ref 75] (mk σ16 τ)) (fun σ16 => ?_)
            refine im_st (s_getI (tag := 10) (j := 22) dX10_see_109 rfl fl_X10_132 rfl (Nat.le_of_ble_eq_true rfl) rfl) ?_
            exact im_ret (fun q => g_iret rfl rfl rfl dX10_see_112 q)
        · refine im_st (r_iconst (v := -1) dX10_see_33 rfl kI_m1) ?_
          exact im_ret (fun q => g_iret rfl rfl rfl dX10_see_34 q)
      · refine im_st (r_aload_n (i := 0) dX10_see_35 rfl rfl rfl) ?_
        refine im_st (s_getI (tag := 10) (j := 22) dX10_see_36 rfl fl_X10_132 rfl (Nat.le_of_ble_eq_true rfl) rfl) ?_
        refine im_st (r_bipush (v := 6) dX10_see_39 rfl kB_6) ?_
        refine im_br (r_icmp_ne (tgt := 47) dX10_see_41 rfl (by decide)) (fun c17 => ?_) (fun c17 => ?_)
        · refine im_st (r_bipush (v := -3) dX10_see_44 rfl kB_m3) ?_
          exact im_ret (fun q => g_iret rfl rfl rfl dX10_see_46 q)
        · refine im_st (r_aload_n (i := 0) dX10_see_47 rfl rfl rfl) ?_
          refine im_st (s_getR (b := 82) (tag := 10) (j := 21) dX10_see_48 rfl fl_X10_28 rfl (Nat.le_of_ble_eq_true rfl) rfl rfl) ?_
          refine im_st (r_iconst (v := 3) dX10_see_51 rfl kI_3) ?_
          refine im_st (r_aload_n (i := 0) dX10_see_52 rfl rfl rfl) ?_
          refine im_st (s_getI (tag := 10) (j := 22) dX10_see_53 rfl fl_X10_132 rfl (Nat.le_of_ble_eq_true rfl) rfl) ?_
          refine im_st (r_imul dX10_see_56 rfl) ?_
          refine im_st (r_iload_n (i := 1) dX10_see_57 rfl rfl rfl) ?_
          refine im_grd (fun g18 => ?_)
          refine im_st (s_iastore dX10_see_58 rfl rfl (Nat.le_of_ble_eq_true rfl) (inR_in g18)) ?_
          refine im_st (r_aload_n (i := 0) dX10_see_59 rfl rfl rfl) ?_
          refine im_st (s_getR (b := 82) (tag := 10) (j := 21) dX10_see_60 rfl fl_X10_28 rfl (Nat.le_of_ble_eq_true rfl) rfl rfl) ?_
          refine im_st (r_iconst (v := 3) dX10_see_63 rfl kI_3) ?_
          refine im_st (r_aload_n (i := 0) dX10_see_64 rfl rfl rfl) ?_
          refine im_app (Gm := fun (σ19 : Sg) => Go M_X10_see Q 0 0 65 [some (.ref 75), some (.int a1), some (.int a2), some (.int a3)] [.ref 75, .int (3 : Int32), .ref 82] (mk σ19 τ)) (fun σ19 => ?_)
          refine im_st (s_getI (tag := 10) (j := 22) dX10_see_65 rfl fl_X10_132 rfl (Nat.le_of_ble_eq_true rfl) rfl) ?_
          refine im_st (r_imul dX10_see_68 rfl) ?_
          refine im_st (r_iconst (v := 1) dX10_see_69 rfl kI_1) ?_
          refine im_st (r_iadd dX10_see_70 rfl) ?_
          refine im_st (r_iload_n (i := 2) dX10_see_71 rfl rfl rfl) ?_
          refine im_app (Gm := fun (v20 : Int32) => Go M_X10_see Q 0 0 72 [some (.ref 75), some (.int a1), some (.int a2), some (.int a3)] [.int a2, .int v20, .ref 82] (mk σ19 τ)) (fun v20 => ?_)
          refine im_grd (fun g21 => ?_)
          refine im_st (s_iastore dX10_see_72 rfl rfl (Nat.le_of_ble_eq_true rfl) (inR_in g21)) ?_
          refine im_st (r_aload_n (i := 0) dX10_see_73 rfl rfl rfl) ?_
          refine im_st (s_getR (b := 82) (tag := 10) (j := 21) dX10_see_74 rfl fl_X10_28 rfl (Nat.le_of_ble_eq_true rfl) rfl rfl) ?_
          refine im_st (r_iconst (v := 3) dX10_see_77 rfl kI_3) ?_
          refine im_st (r_aload_n (i := 0) dX10_see_78 rfl rfl rfl) ?_
          refine im_app (Gm := fun (σ22 : Sg) => Go M_X10_see Q 0 0 79 [some (.ref 75), some (.int a1), some (.int a2), some (.int a3)] [.ref 75, .int (3 : Int32), .ref 82] (mk σ22 τ)) (fun σ22 => ?_)
          refine im_st (s_getI (tag := 10) (j := 22) dX10_see_79 rfl fl_X10_132 rfl (Nat.le_of_ble_eq_true rfl) rfl) ?_
          refine im_st (r_imul dX10_see_82 rfl) ?_
          refine im_st (r_iconst (v := 2) dX10_see_83 rfl kI_2) ?_
          refine im_st (r_iadd dX10_see_84 rfl) ?_
          refine im_st (r_iload_n (i := 3) dX10_see_85 rfl rfl rfl) ?_
          refine im_st (r_bipush (v := 9) dX10_see_86 rfl kB_9) ?_
          refine im_seqT (Gm := fun (j23 : Int32) => Go M_X10_see Q 0 0 97 [some (.ref 75), none, none, none] [.int j23, .int (((3 : Int32) * (σ22 75 22)) + (2 : Int32)), .ref 82] (mk σ22 τ)) ?_ (fun j23 => ?_)
          · refine im_brS (r_icmp_ne (tgt := 96) dX10_see_88 rfl (by decide)) (fun c24 => ?_) (fun c24 => ?_)
            · refine im_st (r_bipush (v := -4) dX10_see_91 rfl kB_m4) ?_
              refine im_st (r_goto (pc1 := 97) dX10_see_93 (by decide)) ?_
              refine im_st (r_fgt (L1 := [some (.ref 75), none, none, none]) [1, 2, 3] rfl) ?_
              exact im_ret id
            · refine im_st (r_iload_n (i := 3) dX10_see_96 rfl rfl rfl) ?_
              refine im_st (r_fgt (L1 := [some (.ref 75), none, none, none]) [1, 2, 3] rfl) ?_
              exact im_ret id
          refine im_app (Gm := fun (v25 : Int32) => Go M_X10_see Q 0 0 97 [some (.ref 75), none, none, none] [.int j23, .int v25, .ref 82] (mk σ22 τ)) (fun v25 => ?_)
          refine im_grd (fun g26 => ?_)
          refine im_st (s_iastore dX10_see_97 rfl rfl (Nat.le_of_ble_eq_true rfl) (inR_in g26)) ?_
          refine im_st (r_aload_n (i := 0) dX10_see_98 rfl rfl rfl) ?_
          refine im_st (r_dup dX10_see_99 rfl rfl) ?_
          refine im_app (Gm := fun (σ27 : Sg) => Go M_X10_see Q 0 0 100 [some (.ref 75), none, none, none] [.ref 75, .ref 75] (mk σ27 τ)) (fun σ27 => ?_)
          refine im_st (s_getI (tag := 10) (j := 22) dX10_see_100 rfl fl_X10_132 rfl (Nat.le_of_ble_eq_true rfl) rfl) ?_
          refine im_st (r_iconst (v := 1) dX10_see_103 rfl kI_1) ?_
          refine im_st (r_iadd dX10_see_104 rfl) ?_
          refine im_st (s_putI (tag := 10) (j := 22) dX10_see_105 rfl fl_X10_132 rfl (Nat.le_of_ble_eq_true rfl) rfl fw_10_22) ?_
          refine im_st (r_aload_n (i := 0) dX10_see_108 rfl rfl rfl) ?_
          refine im_app (Gm := fun (σ28 : Sg) => Go M_X10_see Q 0 0 109 [some (.ref 75), none, none, none] [.ref 75] (mk σ28 τ)) (fun σ28 => ?_)
          refine im_st (s_getI (tag := 10) (j := 22) dX10_see_109 rfl fl_X10_132 rfl (Nat.le_of_ble_eq_true rfl) rfl) ?_
          exact im_ret (fun q => g_iret rfl rfl rfl dX10_see_112 q)
theorem e_X10_see (a1 : Int32) (a2 : Int32) (a3 : Int32) (σ : Sg) (τ : Sl) (y : (Int32 × Sg)) (hy : f_X10_see a1 a2 a3 σ = some y) : EvD M_X10_see [.ref 75, .int a1, .int a2, .int a3] (mk σ τ) (some (.int y.1)) (mk y.2 τ) := EvM.of (by decide +kernel) (Nat.le_of_ble_eq_true rfl) (i_X10_see a1 a2 a3 σ τ _ y hy ⟨rfl, rfl⟩)
def M_X10_forget : Ms := (yX10_forget, cX10_forget, 3, some .int, 1, 25, 0, 0)
theorem mv_X10_forget : MV M_X10_forget 1 := ⟨⟨q1344, q12, by decide, by decide, by decide +kernel⟩, q1342, q1343⟩
def f_X10_forget (a1 : Int32) (σ : Sg) : (Int32 × Sg) :=
  if (f_X10_in (a1.toInt64) (0 : Int64) ((σ 75 22).toInt64)) = 0 then
    ((-1 : Int32), σ)
  else
    ((σ 75 22), (up2 σ 75 22 a1))
set_option maxHeartbeats 4000000 in
set_option maxRecDepth 20000 in
theorem i_X10_forget (a1 : Int32) (σ : Sg) (τ : Sl) (Q : Option Value → Hp → Prop) : Imp (some (f_X10_forget a1 σ)) (fun (y : (Int32 × Sg)) => Q (some (.int y.1)) (mk y.2 τ)) (Go M_X10_forget Q 0 0 0 [some (.ref 75), some (.int a1), none] [] (mk σ τ)) := by
  unfold f_X10_forget
  refine im_st (r_iload_n (i := 1) dX10_forget_0 rfl rfl rfl) ?_
  refine im_st (r_i2l (v := a1.toInt64) dX10_forget_1 rfl rfl) ?_
  refine im_st (r_lconst (v := 0) dX10_forget_2 rfl rfl) ?_
  refine im_st (r_aload_n (i := 0) dX10_forget_3 rfl rfl rfl) ?_
  refine im_st (s_getI (tag := 10) (j := 22) dX10_forget_4 rfl fl_X10_132 rfl (Nat.le_of_ble_eq_true rfl) rfl) ?_
  refine im_st (r_i2l (v := (σ 75 22).toInt64) dX10_forget_7 rfl rfl) ?_
  refine im_st (r_callS (as := [.long (a1.toInt64), .long (0 : Int64), .long ((σ 75 22).toInt64)]) (r := some (.int (f_X10_in (a1.toInt64) (0 : Int64) ((σ 75 22).toInt64)))) (kc1 := 0) (ks1 := 0) (st := []) (st1 := [.int (f_X10_in (a1.toInt64) (0 : Int64) ((σ 75 22).toInt64))]) (e_X10_in (a1.toInt64) (0 : Int64) ((σ 75 22).toInt64) σ τ) ms_X10_in lk_X10_49 ⟨by decide, by decide⟩ ⟨by decide, by decide⟩ (Nat.le_of_ble_eq_true rfl) dX10_forget_8 rfl rfl rfl rfl rfl) ?_
  refine im_brS (r_if_ne (tgt := 16) dX10_forget_11 rfl (by decide)) (fun c1 => ?_) (fun c1 => ?_)
  · refine im_st (r_iconst (v := -1) dX10_forget_14 rfl kI_m1) ?_
    exact im_ret (fun q => g_iret rfl rfl rfl dX10_forget_15 q)
  · refine im_st (r_aload_n (i := 0) dX10_forget_16 rfl rfl rfl) ?_
    refine im_st (s_getI (tag := 10) (j := 22) dX10_forget_17 rfl fl_X10_132 rfl (Nat.le_of_ble_eq_true rfl) rfl) ?_
    refine im_st (r_istore_n (i := 2) (L1 := [some (.ref 75), some (.int a1), some (.int (σ 75 22))]) dX10_forget_20 rfl rfl (by decide) rfl) ?_
    refine im_st (r_aload_n (i := 0) dX10_forget_21 rfl rfl rfl) ?_
    refine im_st (r_iload_n (i := 1) dX10_forget_22 rfl rfl rfl) ?_
    refine im_st (s_putI (tag := 10) (j := 22) dX10_forget_23 rfl fl_X10_132 rfl (Nat.le_of_ble_eq_true rfl) rfl fw_10_22) ?_
    refine im_st (r_iload_n (i := 2) dX10_forget_26 rfl rfl rfl) ?_
    exact im_ret (fun q => g_iret rfl rfl rfl dX10_forget_27 q)
theorem e_X10_forget (a1 : Int32) (σ : Sg) (τ : Sl) : EvD M_X10_forget [.ref 75, .int a1] (mk σ τ) (some (.int (f_X10_forget a1 σ).1)) (mk (f_X10_forget a1 σ).2 τ) := EvM.of (by decide +kernel) (Nat.le_of_ble_eq_true rfl) (i_X10_forget a1 σ τ _ _ rfl ⟨rfl, rfl⟩)
def M_X10_isAsSeen : Ms := (yX10_isAsSeen, cX10_isAsSeen, 5, some .boolean, 2, 54, 0, 0)
theorem mv_X10_isAsSeen : MV M_X10_isAsSeen 1 := ⟨⟨q1352, q12, by decide, by decide, by decide +kernel⟩, q1351, p48⟩
def b_X10_isAsSeen_4 (a1 : Int32) : (Int32 × Int32 × Sg) → Option ((Int32 × Int32 × Sg) ⊕ (Int32 × Int32 × Sg)) := fun (s1 : (Int32 × Int32 × Sg)) =>
  if (s1.2.2 75 22) ≤ s1.2.1 then
    some (.inr (s1.1, s1.2.1, s1.2.2))
  else
    if inR ((3 : Int32) * s1.2.1) 18 then
    app (f_X10_isHog (s1.2.2 82 ((3 : Int32) * s1.2.1).toNatClampNeg) s1.2.2) fun (v4 : Int32) =>
    (if v4 = 0 then
      some s1.2.2
    else
      if inR ((3 : Int32) * s1.2.1) 18 then
      if inR (((3 : Int32) * s1.2.1) + (1 : Int32)) 18 then
      (f_X10_runsOn a1 (s1.2.2 82 ((3 : Int32) * s1.2.1).toNatClampNeg) (s1.2.2 82 (((3 : Int32) * s1.2.1) + (1 : Int32)).toNatClampNeg) (0 : Int32) s1.2.2).bind fun (y9 : Sg) =>
      some y9
      else none
      else none).bind fun (j5 : Sg) =>
    (if s1.1 = 0 then
      some (0 : Int32)
    else
      if v4 = 0 then
        some (0 : Int32)
      else
        if inR (((3 : Int32) * s1.2.1) + (2 : Int32)) 18 then
        if (j5 75 16) = (j5 82 (((3 : Int32) * s1.2.1) + (2 : Int32)).toNatClampNeg) then
          some (1 : Int32)
        else
          some (0 : Int32)
        else none).bind fun (j10 : Int32) =>
    some (.inl (j10, (s1.2.1 + 1), j5))
    else none
def f_X10_isAsSeen (a1 : Int32) (σ : Sg) : Option (Int32 × Sg) :=
  (wh (b_X10_isAsSeen_4 a1) 4096 ((1 : Int32), (0 : Int32), σ)).bind fun (e15 : (Int32 × Int32 × Sg)) =>
  if isB e15.1 then
  some (e15.1, e15.2.2)
  else none
set_option maxHeartbeats 4000000 in
set_option maxRecDepth 20000 in
theorem i_X10_isAsSeen (a1 : Int32) (σ : Sg) (τ : Sl) (Q : Option Value → Hp → Prop) : Imp (f_X10_isAsSeen a1 σ) (fun (y : (Int32 × Sg)) => Q (some (.int y.1)) (mk y.2 τ)) (Go M_X10_isAsSeen Q 0 0 0 [some (.ref 75), some (.int a1), none, none, none] [] (mk σ τ)) := by
  unfold f_X10_isAsSeen
  refine im_st (r_iconst (v := 1) dX10_isAsSeen_0 rfl kI_1) ?_
  refine im_st (r_istore_n (i := 2) (L1 := [some (.ref 75), some (.int a1), some (.int (1 : Int32)), none, none]) dX10_isAsSeen_1 rfl rfl (by decide) rfl) ?_
  refine im_st (r_iconst (v := 0) dX10_isAsSeen_2 rfl kI_0) ?_
  refine im_st (r_istore_n (i := 3) (L1 := [some (.ref 75), some (.int a1), some (.int (1 : Int32)), some (.int (0 : Int32)), none]) dX10_isAsSeen_3 rfl rfl (by decide) rfl) ?_
  refine im_seq (Gm := fun (e15 : (Int32 × Int32 × Sg)) => Go M_X10_isAsSeen Q 0 0 93 [none, none, some (.int e15.1), none, none] [] (mk e15.2.2 τ)) ?_ (fun e15 => ?_)
  · refine im_wh (G := fun (s1 : (Int32 × Int32 × Sg)) => Go M_X10_isAsSeen Q 0 0 4 [some (.ref 75), some (.int a1), some (.int s1.1), some (.int s1.2.1), none] [] (mk s1.2.2 τ)) (fun s1 => ?_) _ _
    unfold b_X10_isAsSeen_4
    refine im_st (r_iload_n (i := 3) dX10_isAsSeen_4 rfl rfl rfl) ?_
    refine im_st (r_aload_n (i := 0) dX10_isAsSeen_5 rfl rfl rfl) ?_
    refine im_st (s_getI (tag := 10) (j := 22) dX10_isAsSeen_6 rfl fl_X10_132 rfl (Nat.le_of_ble_eq_true rfl) rfl) ?_
    refine im_br (r_icmp_ge (tgt := 93) dX10_isAsSeen_9 rfl (by decide)) (fun c2 => ?_) (fun c2 => ?_)
    · refine im_st (r_fgt (L1 := [none, none, some (.int s1.1), none, none]) [0, 1, 3] rfl) ?_
      exact im_ret id
    · refine im_st (r_aload_n (i := 0) dX10_isAsSeen_12 rfl rfl rfl) ?_
      refine im_st (r_aload_n (i := 0) dX10_isAsSeen_13 rfl rfl rfl) ?_
      refine im_st (s_getR (b := 82) (tag := 10) (j := 21) dX10_isAsSeen_14 rfl fl_X10_28 rfl (Nat.le_of_ble_eq_true rfl) rfl rfl) ?_
      refine im_st (r_iconst (v := 3) dX10_isAsSeen_17 rfl kI_3) ?_
      refine im_st (r_iload_n (i := 3) dX10_isAsSeen_18 rfl rfl rfl) ?_
      refine im_st (r_imul dX10_isAsSeen_19 rfl) ?_
      refine im_grd (fun g3 => ?_)
      refine im_st (s_iaload dX10_isAsSeen_20 rfl rfl (Nat.le_of_ble_eq_true rfl) (inR_in g3)) ?_
      refine im_st (r_callV (as := [.int (s1.2.2 82 ((3 : Int32) * s1.2.1).toNatClampNeg)]) (r := some (.int (f_X10_isHog (s1.2.2 82 ((3 : Int32) * s1.2.1).toNatClampNeg) s1.2.2))) (kc1 := 0) (ks1 := 0) (st := []) (st1 := [.int (f_X10_isHog (s1.2.2 82 ((3 : Int32) * s1.2.1).toNatClampNeg) s1.2.2)]) (e_X10_isHog (s1.2.2 82 ((3 : Int32) * s1.2.1).toNatClampNeg) s1.2.2 τ) mv_X10_isHog lk_X10_180 ⟨by decide, by decide⟩ rfl (Nat.le_of_ble_eq_true rfl) (by decide) ⟨_, rfl, rfl⟩ ⟨by decide, by decide⟩ (Nat.le_of_ble_eq_true rfl) dX10_isAsSeen_21 rfl rfl rfl rfl rfl) ?_
      refine im_app (Gm := fun (v4 : Int32) => Go M_X10_isAsSeen Q 0 0 24 [some (.ref 75), some (.int a1), some (.int s1.1), some (.int s1.2.1), none] [.int v4] (mk s1.2.2 τ)) (fun v4 => ?_)
      refine im_st (r_istore (i := 4) (L1 := [some (.ref 75), some (.int a1), some (.int s1.1), some (.int s1.2.1), some (.int v4)]) dX10_isAsSeen_24 rfl (by decide) rfl) ?_
      refine im_st (r_iload (i := 4) dX10_isAsSeen_26 rfl rfl) ?_
      refine im_seq (Gm := fun (j5 : Sg) => Go M_X10_isAsSeen Q 0 0 55 [some (.ref 75), some (.int a1), some (.int s1.1), some (.int s1.2.1), some (.int v4)] [] (mk j5 τ)) ?_ (fun j5 => ?_)
      · refine im_br (r_if_eq (tgt := 55) dX10_isAsSeen_28 rfl (by decide)) (fun c6 => ?_) (fun c6 => ?_)
        · exact im_ret id
        · refine im_st (r_aload_n (i := 0) dX10_isAsSeen_31 rfl rfl rfl) ?_
          refine im_st (r_iload_n (i := 1) dX10_isAsSeen_32 rfl rfl rfl) ?_
          refine im_st (r_aload_n (i := 0) dX10_isAsSeen_33 rfl rfl rfl) ?_
          refine im_st (s_getR (b := 82) (tag := 10) (j := 21) dX10_isAsSeen_34 rfl fl_X10_28 rfl (Nat.le_of_ble_eq_true rfl) rfl rfl) ?_
          refine im_st (r_iconst (v := 3) dX10_isAsSeen_37 rfl kI_3) ?_
          refine im_st (r_iload_n (i := 3) dX10_isAsSeen_38 rfl rfl rfl) ?_
          refine im_st (r_imul dX10_isAsSeen_39 rfl) ?_
          refine im_grd (fun g7 => ?_)
          refine im_st (s_iaload dX10_isAsSeen_40 rfl rfl (Nat.le_of_ble_eq_true rfl) (inR_in g7)) ?_
          refine im_st (r_aload_n (i := 0) dX10_isAsSeen_41 rfl rfl rfl) ?_
          refine im_st (s_getR (b := 82) (tag := 10) (j := 21) dX10_isAsSeen_42 rfl fl_X10_28 rfl (Nat.le_of_ble_eq_true rfl) rfl rfl) ?_
          refine im_st (r_iconst (v := 3) dX10_isAsSeen_45 rfl kI_3) ?_
          refine im_st (r_iload_n (i := 3) dX10_isAsSeen_46 rfl rfl rfl) ?_
          refine im_st (r_imul dX10_isAsSeen_47 rfl) ?_
          refine im_st (r_iconst (v := 1) dX10_isAsSeen_48 rfl kI_1) ?_
          refine im_st (r_iadd dX10_isAsSeen_49 rfl) ?_
          refine im_grd (fun g8 => ?_)
          refine im_st (s_iaload dX10_isAsSeen_50 rfl rfl (Nat.le_of_ble_eq_true rfl) (inR_in g8)) ?_
          refine im_st (r_iconst (v := 0) dX10_isAsSeen_51 rfl kI_0) ?_
          refine im_bind (fun y9 hy9 => ?_)
          refine im_st (r_callV (as := [.int a1, .int (s1.2.2 82 ((3 : Int32) * s1.2.1).toNatClampNeg), .int (s1.2.2 82 (((3 : Int32) * s1.2.1) + (1 : Int32)).toNatClampNeg), .int (0 : Int32)]) (r := none) (kc1 := 0) (ks1 := 0) (st := []) (st1 := []) (e_X10_runsOn a1 (s1.2.2 82 ((3 : Int32) * s1.2.1).toNatClampNeg) (s1.2.2 82 (((3 : Int32) * s1.2.1) + (1 : Int32)).toNatClampNeg) (0 : Int32) s1.2.2 τ y9 hy9) mv_X10_runsOn lk_X10_164 ⟨by decide, by decide⟩ rfl (Nat.le_of_ble_eq_true rfl) (by decide) ⟨_, rfl, rfl⟩ ⟨by decide, by decide⟩ (Nat.le_of_ble_eq_true rfl) dX10_isAsSeen_52 rfl rfl rfl rfl rfl) ?_
          exact im_ret id
      refine im_st (r_iload_n (i := 2) dX10_isAsSeen_55 rfl rfl rfl) ?_
      refine im_seq (Gm := fun (j10 : Int32) => Go M_X10_isAsSeen Q 0 0 86 [some (.ref 75), some (.int a1), none, some (.int s1.2.1), none] [.int j10] (mk j5 τ)) ?_ (fun j10 => ?_)
      · refine im_br (r_if_eq (tgt := 85) dX10_isAsSeen_56 rfl (by decide)) (fun c11 => ?_) (fun c11 => ?_)
        · refine im_st (r_iconst (v := 0) dX10_isAsSeen_85 rfl kI_0) ?_
          refine im_st (r_fgt (L1 := [some (.ref 75), some (.int a1), none, some (.int s1.2.1), none]) [2, 4] rfl) ?_
          exact im_ret id
        · refine im_st (r_iload (i := 4) dX10_isAsSeen_59 rfl rfl) ?_
          refine im_br (r_if_eq (tgt := 85) dX10_isAsSeen_61 rfl (by decide)) (fun c12 => ?_) (fun c12 => ?_)
          · refine im_st (r_iconst (v := 0) dX10_isAsSeen_85 rfl kI_0) ?_
            refine im_st (r_fgt (L1 := [some (.ref 75), some (.int a1), none, some (.int s1.2.1), none]) [2, 4] rfl) ?_
            exact im_ret id
          · refine im_st (r_aload_n (i := 0) dX10_isAsSeen_64 rfl rfl rfl) ?_
            refine im_st (s_getI (tag := 10) (j := 16) dX10_isAsSeen_65 rfl fl_X10_145 rfl (Nat.le_of_ble_eq_true rfl) rfl) ?_
            refine im_st (r_aload_n (i := 0) dX10_isAsSeen_68 rfl rfl rfl) ?_
            refine im_st (s_getR (b := 82) (tag := 10) (j := 21) dX10_isAsSeen_69 rfl fl_X10_28 rfl (Nat.le_of_ble_eq_true rfl) rfl rfl) ?_
            refine im_st (r_iconst (v := 3) dX10_isAsSeen_72 rfl kI_3) ?_
            refine im_st (r_iload_n (i := 3) dX10_isAsSeen_73 rfl rfl rfl) ?_
            refine im_st (r_imul dX10_isAsSeen_74 rfl) ?_
            refine im_st (r_iconst (v := 2) dX10_isAsSeen_75 rfl kI_2) ?_
            refine im_st (r_iadd dX10_isAsSeen_76 rfl) ?_
            refine im_grd (fun g13 => ?_)
            refine im_st (s_iaload dX10_isAsSeen_77 rfl rfl (Nat.le_of_ble_eq_true rfl) (inR_in g13)) ?_
            refine im_br (r_icmp_ne (tgt := 85) dX10_isAsSeen_78 rfl (by decide)) (fun c14 => ?_) (fun c14 => ?_)
            · refine im_st (r_iconst (v := 1) dX10_isAsSeen_81 rfl kI_1) ?_
              refine im_st (r_goto (pc1 := 86) dX10_isAsSeen_82 (by decide)) ?_
              refine im_st (r_fgt (L1 := [some (.ref 75), some (.int a1), none, some (.int s1.2.1), none]) [2, 4] rfl) ?_
              exact im_ret id
            · refine im_st (r_iconst (v := 0) dX10_isAsSeen_85 rfl kI_0) ?_
              refine im_st (r_fgt (L1 := [some (.ref 75), some (.int a1), none, some (.int s1.2.1), none]) [2, 4] rfl) ?_
              exact im_ret id
      refine im_st (r_istore_n (i := 2) (L1 := [some (.ref 75), some (.int a1), some (.int j10), some (.int s1.2.1), none]) dX10_isAsSeen_86 rfl rfl (by decide) rfl) ?_
      refine im_st (r_iinc (i := 3) (x := s1.2.1) (v := (s1.2.1 + 1)) (L1 := [some (.ref 75), some (.int a1), some (.int j10), some (.int (s1.2.1 + 1)), none]) dX10_isAsSeen_87 rfl rfl rfl (by decide) rfl) ?_
      refine im_st (r_goto (pc1 := 4) dX10_isAsSeen_90 (by decide)) ?_
      exact im_ret id
  refine im_st (r_iload_n (i := 2) dX10_isAsSeen_93 rfl rfl rfl) ?_
  refine im_grd (fun g16 => ?_)
  exact im_ret (fun q => g_zret (ty := .boolean) rfl (isB_nar g16) rfl rfl dX10_isAsSeen_94 q)
theorem e_X10_isAsSeen (a1 : Int32) (σ : Sg) (τ : Sl) (y : (Int32 × Sg)) (hy : f_X10_isAsSeen a1 σ = some y) : EvD M_X10_isAsSeen [.ref 75, .int a1] (mk σ τ) (some (.int y.1)) (mk y.2 τ) := EvM.of (by decide +kernel) (Nat.le_of_ble_eq_true rfl) (i_X10_isAsSeen a1 σ τ _ y hy ⟨rfl, rfl⟩)
def M_X10_kinds : Ms := (yX10_kinds, cX10_kinds, 4, some .int, 3, 78, 0, 0)
theorem mv_X10_kinds : MV M_X10_kinds 1 := ⟨⟨q1348, q12, by decide, by decide, by decide +kernel⟩, q1346, q1347⟩
def b_X10_kinds_22 (a1 : Int32) : (Int32 × Int32 × Sg) → Option ((Int32 × Int32 × Sg) ⊕ (Int32 × Int32 × Sg)) := fun (s3 : (Int32 × Int32 × Sg)) =>
  if (4 : Int32) ≤ s3.2.1 then
    some (.inr (s3.1, s3.2.1, s3.2.2))
  else
    if inR ((182 : Int32) + a1) 205 then
    app (up2 s3.2.2 76 ((182 : Int32) + a1).toNatClampNeg s3.2.1) fun (σ6 : Sg) =>
    (f_X10_isAsSeen (164 : Int32) σ6).bind fun (y7 : (Int32 × Sg)) =>
    app (if y7.1 = 0 then
      (0 : Int32)
    else
      ((1 : Int32) <<< (s3.2.1 &&& 31))) fun (j8 : Int32) =>
    some (.inl ((s3.1 ||| j8), (s3.2.1 + 1), y7.2))
    else none
def f_X10_kinds (a1 : Int32) (σ : Sg) : Option (Int32 × Sg) :=
  if (f_X10_isHog a1 σ) = 0 then
    some ((-1 : Int32), σ)
  else
    (f_X10_copies (0 : Int32) (164 : Int32) σ).bind fun (y2 : Sg) =>
    (wh (b_X10_kinds_22 a1) 4096 ((0 : Int32), (0 : Int32), y2)).bind fun (e10 : (Int32 × Int32 × Sg)) =>
    some (e10.1, e10.2.2)
set_option maxHeartbeats 4000000 in
set_option maxRecDepth 20000 in
theorem i_X10_kinds (a1 : Int32) (σ : Sg) (τ : Sl) (Q : Option Value → Hp → Prop) : Imp (f_X10_kinds a1 σ) (fun (y : (Int32 × Sg)) => Q (some (.int y.1)) (mk y.2 τ)) (Go M_X10_kinds Q 0 0 0 [some (.ref 75), some (.int a1), none, none] [] (mk σ τ)) := by
  unfold f_X10_kinds
  refine im_st (r_aload_n (i := 0) dX10_kinds_0 rfl rfl rfl) ?_
  refine im_st (r_iload_n (i := 1) dX10_kinds_1 rfl rfl rfl) ?_
  refine im_st (r_callV (as := [.int a1]) (r := some (.int (f_X10_isHog a1 σ))) (kc1 := 0) (ks1 := 0) (st := []) (st1 := [.int (f_X10_isHog a1 σ)]) (e_X10_isHog a1 σ τ) mv_X10_isHog lk_X10_180 ⟨by decide, by decide⟩ rfl (Nat.le_of_ble_eq_true rfl) (by decide) ⟨_, rfl, rfl⟩ ⟨by decide, by decide⟩ (Nat.le_of_ble_eq_true rfl) dX10_kinds_2 rfl rfl rfl rfl rfl) ?_
  refine im_br (r_if_ne (tgt := 10) dX10_kinds_5 rfl (by decide)) (fun c1 => ?_) (fun c1 => ?_)
  · refine im_st (r_iconst (v := -1) dX10_kinds_8 rfl kI_m1) ?_
    exact im_ret (fun q => g_iret rfl rfl rfl dX10_kinds_9 q)
  · refine im_st (r_iconst (v := 0) dX10_kinds_10 rfl kI_0) ?_
    refine im_st (r_istore_n (i := 2) (L1 := [some (.ref 75), some (.int a1), some (.int (0 : Int32)), none]) dX10_kinds_11 rfl rfl (by decide) rfl) ?_
    refine im_st (r_aload_n (i := 0) dX10_kinds_12 rfl rfl rfl) ?_
    refine im_st (r_iconst (v := 0) dX10_kinds_13 rfl kI_0) ?_
    refine im_st (r_sipush (v := 164) dX10_kinds_14 rfl kS_164) ?_
    refine im_bind (fun y2 hy2 => ?_)
    refine im_st (r_callV (as := [.int (0 : Int32), .int (164 : Int32)]) (r := none) (kc1 := 0) (ks1 := 0) (st := []) (st1 := []) (e_X10_copies (0 : Int32) (164 : Int32) σ τ y2 hy2) mv_X10_copies lk_X10_218 ⟨by decide, by decide⟩ rfl (Nat.le_of_ble_eq_true rfl) (by decide) ⟨_, rfl, rfl⟩ ⟨by decide, by decide⟩ (Nat.le_of_ble_eq_true rfl) dX10_kinds_17 rfl rfl rfl rfl rfl) ?_
    refine im_st (r_iconst (v := 0) dX10_kinds_20 rfl kI_0) ?_
    refine im_st (r_istore_n (i := 3) (L1 := [some (.ref 75), some (.int a1), some (.int (0 : Int32)), some (.int (0 : Int32))]) dX10_kinds_21 rfl rfl (by decide) rfl) ?_
    refine im_seq (Gm := fun (e10 : (Int32 × Int32 × Sg)) => Go M_X10_kinds Q 0 0 64 [none, none, some (.int e10.1), none] [] (mk e10.2.2 τ)) ?_ (fun e10 => ?_)
    · refine im_wh (G := fun (s3 : (Int32 × Int32 × Sg)) => Go M_X10_kinds Q 0 0 22 [some (.ref 75), some (.int a1), some (.int s3.1), some (.int s3.2.1)] [] (mk s3.2.2 τ)) (fun s3 => ?_) _ _
      unfold b_X10_kinds_22
      refine im_st (r_iload_n (i := 3) dX10_kinds_22 rfl rfl rfl) ?_
      refine im_st (r_iconst (v := 4) dX10_kinds_23 rfl kI_4) ?_
      refine im_br (r_icmp_ge (tgt := 64) dX10_kinds_24 rfl (by decide)) (fun c4 => ?_) (fun c4 => ?_)
      · refine im_st (r_fgt (L1 := [none, none, some (.int s3.1), none]) [0, 1, 3] rfl) ?_
        exact im_ret id
      · refine im_st (r_aload_n (i := 0) dX10_kinds_27 rfl rfl rfl) ?_
        refine im_st (s_getR (b := 76) (tag := 10) (j := 0) dX10_kinds_28 rfl fl_X10_7 rfl (Nat.le_of_ble_eq_true rfl) rfl rfl) ?_
        refine im_st (r_sipush (v := 182) dX10_kinds_31 rfl kS_182) ?_
        refine im_st (r_iload_n (i := 1) dX10_kinds_34 rfl rfl rfl) ?_
        refine im_st (r_iadd dX10_kinds_35 rfl) ?_
        refine im_st (r_iload_n (i := 3) dX10_kinds_36 rfl rfl rfl) ?_
        refine im_grd (fun g5 => ?_)
        refine im_st (s_iastore dX10_kinds_37 rfl rfl (Nat.le_of_ble_eq_true rfl) (inR_in g5)) ?_
        refine im_st (r_iload_n (i := 2) dX10_kinds_38 rfl rfl rfl) ?_
        refine im_st (r_aload_n (i := 0) dX10_kinds_39 rfl rfl rfl) ?_
        refine im_st (r_sipush (v := 164) dX10_kinds_40 rfl kS_164) ?_
        refine im_app (Gm := fun (σ6 : Sg) => Go M_X10_kinds Q 0 0 43 [some (.ref 75), some (.int a1), some (.int s3.1), some (.int s3.2.1)] [.int (164 : Int32), .ref 75, .int s3.1] (mk σ6 τ)) (fun σ6 => ?_)
        refine im_bind (fun y7 hy7 => ?_)
        refine im_st (r_callV (as := [.int (164 : Int32)]) (r := some (.int y7.1)) (kc1 := 0) (ks1 := 0) (st := [.int s3.1]) (st1 := [.int y7.1, .int s3.1]) (e_X10_isAsSeen (164 : Int32) σ6 τ y7 hy7) mv_X10_isAsSeen lk_X10_238 ⟨by decide, by decide⟩ rfl (Nat.le_of_ble_eq_true rfl) (by decide) ⟨_, rfl, rfl⟩ ⟨by decide, by decide⟩ (Nat.le_of_ble_eq_true rfl) dX10_kinds_43 rfl rfl rfl rfl rfl) ?_
        refine im_seqT (Gm := fun (j8 : Int32) => Go M_X10_kinds Q 0 0 56 [some (.ref 75), some (.int a1), none, some (.int s3.2.1)] [.int j8, .int s3.1] (mk y7.2 τ)) ?_ (fun j8 => ?_)
        · refine im_brS (r_if_eq (tgt := 55) dX10_kinds_46 rfl (by decide)) (fun c9 => ?_) (fun c9 => ?_)
          · refine im_st (r_iconst (v := 0) dX10_kinds_55 rfl kI_0) ?_
            refine im_st (r_fgt (L1 := [some (.ref 75), some (.int a1), none, some (.int s3.2.1)]) [2] rfl) ?_
            exact im_ret id
          · refine im_st (r_iconst (v := 1) dX10_kinds_49 rfl kI_1) ?_
            refine im_st (r_iload_n (i := 3) dX10_kinds_50 rfl rfl rfl) ?_
            refine im_st (r_ishl dX10_kinds_51 rfl) ?_
            refine im_st (r_goto (pc1 := 56) dX10_kinds_52 (by decide)) ?_
            refine im_st (r_fgt (L1 := [some (.ref 75), some (.int a1), none, some (.int s3.2.1)]) [2] rfl) ?_
            exact im_ret id
        refine im_st (r_ior dX10_kinds_56 rfl) ?_
        refine im_st (r_istore_n (i := 2) (L1 := [some (.ref 75), some (.int a1), some (.int (s3.1 ||| j8)), some (.int s3.2.1)]) dX10_kinds_57 rfl rfl (by decide) rfl) ?_
        refine im_st (r_iinc (i := 3) (x := s3.2.1) (v := (s3.2.1 + 1)) (L1 := [some (.ref 75), some (.int a1), some (.int (s3.1 ||| j8)), some (.int (s3.2.1 + 1))]) dX10_kinds_58 rfl rfl rfl (by decide) rfl) ?_
        refine im_st (r_goto (pc1 := 22) dX10_kinds_61 (by decide)) ?_
        exact im_ret id
    refine im_st (r_iload_n (i := 2) dX10_kinds_64 rfl rfl rfl) ?_
    exact im_ret (fun q => g_iret rfl rfl rfl dX10_kinds_65 q)
theorem e_X10_kinds (a1 : Int32) (σ : Sg) (τ : Sl) (y : (Int32 × Sg)) (hy : f_X10_kinds a1 σ = some y) : EvD M_X10_kinds [.ref 75, .int a1] (mk σ τ) (some (.int y.1)) (mk y.2 τ) := EvM.of (by decide +kernel) (Nat.le_of_ble_eq_true rfl) (i_X10_kinds a1 σ τ _ y hy ⟨rfl, rfl⟩)
def M_X10_speedsOf : Ms := (yX10_speedsOf, cX10_speedsOf, 5, some .int, 3, 78, 0, 0)
theorem mv_X10_speedsOf : MV M_X10_speedsOf 1 := ⟨⟨q1360, q12, by decide, by decide, by decide +kernel⟩, q1359, p49⟩
def b_X10_speedsOf_52 (a1 : Int32) (s2 : (Int32 × Int32 × Sg)) : (Int32 × Sg) → Option ((Int32 × Sg) ⊕ (Int32 × Sg)) := fun (s10 : (Int32 × Sg)) =>
  if (8 : Int32) ≤ s10.1 then
    some (.inr (s10.1, s10.2))
  else
    (f_X10_runsOn (164 : Int32) a1 s10.1 (0 : Int32) s10.2).bind fun (y12 : Sg) =>
    if inR (((8 : Int32) * s2.2.1) + s10.1) 80 then
    some (.inl ((s10.1 + 1), (up2 y12 83 (((8 : Int32) * s2.2.1) + s10.1).toNatClampNeg (y12 75 16))))
    else none
def b_X10_speedsOf_12 (a1 : Int32) : (Int32 × Int32 × Sg) → Option ((Int32 × Int32 × Sg) ⊕ (Int32 × Int32 × Sg)) := fun (s2 : (Int32 × Int32 × Sg)) =>
  if (9 : Int32) < s2.2.1 then
    some (.inr (s2.1, s2.2.1, s2.2.2))
  else
    if inR ((186 : Int32) + a1) 205 then
    app (up2 s2.2.2 76 ((186 : Int32) + a1).toNatClampNeg s2.2.1) fun (σ5 : Sg) =>
    (f_X10_isAsSeen (164 : Int32) σ5).bind fun (y6 : (Int32 × Sg)) =>
    app (if y6.1 = 0 then
      (0 : Int32)
    else
      ((1 : Int32) <<< (s2.2.1 &&& 31))) fun (j7 : Int32) =>
    app (s2.1 ||| j7) fun (v9 : Int32) =>
    (wh (b_X10_speedsOf_52 a1 s2) 4096 ((0 : Int32), y6.2)).bind fun (e14 : (Int32 × Sg)) =>
    some (.inl (v9, (s2.2.1 + 1), e14.2))
    else none
def f_X10_speedsOf (a1 : Int32) (σ : Sg) : Option (Int32 × Sg) :=
  (f_X10_copies (0 : Int32) (164 : Int32) σ).bind fun (y1 : Sg) =>
  (wh (b_X10_speedsOf_12 a1) 4096 ((0 : Int32), (1 : Int32), y1)).bind fun (e15 : (Int32 × Int32 × Sg)) =>
  some (e15.1, e15.2.2)
set_option maxHeartbeats 4000000 in
set_option maxRecDepth 20000 in
theorem i_X10_speedsOf (a1 : Int32) (σ : Sg) (τ : Sl) (Q : Option Value → Hp → Prop) : Imp (f_X10_speedsOf a1 σ) (fun (y : (Int32 × Sg)) => Q (some (.int y.1)) (mk y.2 τ)) (Go M_X10_speedsOf Q 0 0 0 [some (.ref 75), some (.int a1), none, none, none] [] (mk σ τ)) := by
  unfold f_X10_speedsOf
  refine im_st (r_iconst (v := 0) dX10_speedsOf_0 rfl kI_0) ?_
  refine im_st (r_istore_n (i := 2) (L1 := [some (.ref 75), some (.int a1), some (.int (0 : Int32)), none, none]) dX10_speedsOf_1 rfl rfl (by decide) rfl) ?_
  refine im_st (r_aload_n (i := 0) dX10_speedsOf_2 rfl rfl rfl) ?_
  refine im_st (r_iconst (v := 0) dX10_speedsOf_3 rfl kI_0) ?_
  refine im_st (r_sipush (v := 164) dX10_speedsOf_4 rfl kS_164) ?_
  refine im_bind (fun y1 hy1 => ?_)
  refine im_st (r_callV (as := [.int (0 : Int32), .int (164 : Int32)]) (r := none) (kc1 := 0) (ks1 := 0) (st := []) (st1 := []) (e_X10_copies (0 : Int32) (164 : Int32) σ τ y1 hy1) mv_X10_copies lk_X10_218 ⟨by decide, by decide⟩ rfl (Nat.le_of_ble_eq_true rfl) (by decide) ⟨_, rfl, rfl⟩ ⟨by decide, by decide⟩ (Nat.le_of_ble_eq_true rfl) dX10_speedsOf_7 rfl rfl rfl rfl rfl) ?_
  refine im_st (r_iconst (v := 1) dX10_speedsOf_10 rfl kI_1) ?_
  refine im_st (r_istore_n (i := 3) (L1 := [some (.ref 75), some (.int a1), some (.int (0 : Int32)), some (.int (1 : Int32)), none]) dX10_speedsOf_11 rfl rfl (by decide) rfl) ?_
  refine im_seq (Gm := fun (e15 : (Int32 × Int32 × Sg)) => Go M_X10_speedsOf Q 0 0 98 [none, none, some (.int e15.1), none, none] [] (mk e15.2.2 τ)) ?_ (fun e15 => ?_)
  · refine im_wh (G := fun (s2 : (Int32 × Int32 × Sg)) => Go M_X10_speedsOf Q 0 0 12 [some (.ref 75), some (.int a1), some (.int s2.1), some (.int s2.2.1), none] [] (mk s2.2.2 τ)) (fun s2 => ?_) _ _
    unfold b_X10_speedsOf_12
    refine im_st (r_iload_n (i := 3) dX10_speedsOf_12 rfl rfl rfl) ?_
    refine im_st (r_bipush (v := 9) dX10_speedsOf_13 rfl kB_9) ?_
    refine im_br (r_icmp_gt (tgt := 98) dX10_speedsOf_15 rfl (by decide)) (fun c3 => ?_) (fun c3 => ?_)
    · refine im_st (r_fgt (L1 := [none, none, some (.int s2.1), none, none]) [0, 1, 3] rfl) ?_
      exact im_ret id
    · refine im_st (r_aload_n (i := 0) dX10_speedsOf_18 rfl rfl rfl) ?_
      refine im_st (s_getR (b := 76) (tag := 10) (j := 0) dX10_speedsOf_19 rfl fl_X10_7 rfl (Nat.le_of_ble_eq_true rfl) rfl rfl) ?_
      refine im_st (r_sipush (v := 186) dX10_speedsOf_22 rfl kS_186) ?_
      refine im_st (r_iload_n (i := 1) dX10_speedsOf_25 rfl rfl rfl) ?_
      refine im_st (r_iadd dX10_speedsOf_26 rfl) ?_
      refine im_st (r_iload_n (i := 3) dX10_speedsOf_27 rfl rfl rfl) ?_
      refine im_grd (fun g4 => ?_)
      refine im_st (s_iastore dX10_speedsOf_28 rfl rfl (Nat.le_of_ble_eq_true rfl) (inR_in g4)) ?_
      refine im_st (r_iload_n (i := 2) dX10_speedsOf_29 rfl rfl rfl) ?_
      refine im_st (r_aload_n (i := 0) dX10_speedsOf_30 rfl rfl rfl) ?_
      refine im_st (r_sipush (v := 164) dX10_speedsOf_31 rfl kS_164) ?_
      refine im_app (Gm := fun (σ5 : Sg) => Go M_X10_speedsOf Q 0 0 34 [some (.ref 75), some (.int a1), some (.int s2.1), some (.int s2.2.1), none] [.int (164 : Int32), .ref 75, .int s2.1] (mk σ5 τ)) (fun σ5 => ?_)
      refine im_bind (fun y6 hy6 => ?_)
      refine im_st (r_callV (as := [.int (164 : Int32)]) (r := some (.int y6.1)) (kc1 := 0) (ks1 := 0) (st := [.int s2.1]) (st1 := [.int y6.1, .int s2.1]) (e_X10_isAsSeen (164 : Int32) σ5 τ y6 hy6) mv_X10_isAsSeen lk_X10_238 ⟨by decide, by decide⟩ rfl (Nat.le_of_ble_eq_true rfl) (by decide) ⟨_, rfl, rfl⟩ ⟨by decide, by decide⟩ (Nat.le_of_ble_eq_true rfl) dX10_speedsOf_34 rfl rfl rfl rfl rfl) ?_
      refine im_seqT (Gm := fun (j7 : Int32) => Go M_X10_speedsOf Q 0 0 47 [some (.ref 75), some (.int a1), none, some (.int s2.2.1), none] [.int j7, .int s2.1] (mk y6.2 τ)) ?_ (fun j7 => ?_)
      · refine im_brS (r_if_eq (tgt := 46) dX10_speedsOf_37 rfl (by decide)) (fun c8 => ?_) (fun c8 => ?_)
        · refine im_st (r_iconst (v := 0) dX10_speedsOf_46 rfl kI_0) ?_
          refine im_st (r_fgt (L1 := [some (.ref 75), some (.int a1), none, some (.int s2.2.1), none]) [2] rfl) ?_
          exact im_ret id
        · refine im_st (r_iconst (v := 1) dX10_speedsOf_40 rfl kI_1) ?_
          refine im_st (r_iload_n (i := 3) dX10_speedsOf_41 rfl rfl rfl) ?_
          refine im_st (r_ishl dX10_speedsOf_42 rfl) ?_
          refine im_st (r_goto (pc1 := 47) dX10_speedsOf_43 (by decide)) ?_
          refine im_st (r_fgt (L1 := [some (.ref 75), some (.int a1), none, some (.int s2.2.1), none]) [2] rfl) ?_
          exact im_ret id
      refine im_st (r_ior dX10_speedsOf_47 rfl) ?_
      refine im_st (r_istore_n (i := 2) (L1 := [some (.ref 75), some (.int a1), some (.int (s2.1 ||| j7)), some (.int s2.2.1), none]) dX10_speedsOf_48 rfl rfl (by decide) rfl) ?_
      refine im_st (r_iconst (v := 0) dX10_speedsOf_49 rfl kI_0) ?_
      refine im_st (r_istore (i := 4) (L1 := [some (.ref 75), some (.int a1), some (.int (s2.1 ||| j7)), some (.int s2.2.1), some (.int (0 : Int32))]) dX10_speedsOf_50 rfl (by decide) rfl) ?_
      refine im_app (Gm := fun (v9 : Int32) => Go M_X10_speedsOf Q 0 0 52 [some (.ref 75), some (.int a1), some (.int v9), some (.int s2.2.1), some (.int (0 : Int32))] [] (mk y6.2 τ)) (fun v9 => ?_)
      refine im_seq (Gm := fun (e14 : (Int32 × Sg)) => Go M_X10_speedsOf Q 0 0 92 [some (.ref 75), some (.int a1), some (.int v9), some (.int s2.2.1), none] [] (mk e14.2 τ)) ?_ (fun e14 => ?_)
      · refine im_wh (G := fun (s10 : (Int32 × Sg)) => Go M_X10_speedsOf Q 0 0 52 [some (.ref 75), some (.int a1), some (.int v9), some (.int s2.2.1), some (.int s10.1)] [] (mk s10.2 τ)) (fun s10 => ?_) _ _
        unfold b_X10_speedsOf_52
        refine im_st (r_iload (i := 4) dX10_speedsOf_52 rfl rfl) ?_
        refine im_st (r_bipush (v := 8) dX10_speedsOf_54 rfl kB_8) ?_
        refine im_br (r_icmp_ge (tgt := 92) dX10_speedsOf_56 rfl (by decide)) (fun c11 => ?_) (fun c11 => ?_)
        · refine im_st (r_fgt (L1 := [some (.ref 75), some (.int a1), some (.int v9), some (.int s2.2.1), none]) [4] rfl) ?_
          exact im_ret id
        · refine im_st (r_aload_n (i := 0) dX10_speedsOf_59 rfl rfl rfl) ?_
          refine im_st (r_sipush (v := 164) dX10_speedsOf_60 rfl kS_164) ?_
          refine im_st (r_iload_n (i := 1) dX10_speedsOf_63 rfl rfl rfl) ?_
          refine im_st (r_iload (i := 4) dX10_speedsOf_64 rfl rfl) ?_
          refine im_st (r_iconst (v := 0) dX10_speedsOf_66 rfl kI_0) ?_
          refine im_bind (fun y12 hy12 => ?_)
          refine im_st (r_callV (as := [.int (164 : Int32), .int a1, .int s10.1, .int (0 : Int32)]) (r := none) (kc1 := 0) (ks1 := 0) (st := []) (st1 := []) (e_X10_runsOn (164 : Int32) a1 s10.1 (0 : Int32) s10.2 τ y12 hy12) mv_X10_runsOn lk_X10_164 ⟨by decide, by decide⟩ rfl (Nat.le_of_ble_eq_true rfl) (by decide) ⟨_, rfl, rfl⟩ ⟨by decide, by decide⟩ (Nat.le_of_ble_eq_true rfl) dX10_speedsOf_67 rfl rfl rfl rfl rfl) ?_
          refine im_st (r_aload_n (i := 0) dX10_speedsOf_70 rfl rfl rfl) ?_
          refine im_st (s_getR (b := 83) (tag := 10) (j := 23) dX10_speedsOf_71 rfl fl_X10_31 rfl (Nat.le_of_ble_eq_true rfl) rfl rfl) ?_
          refine im_st (r_bipush (v := 8) dX10_speedsOf_74 rfl kB_8) ?_
          refine im_st (r_iload_n (i := 3) dX10_speedsOf_76 rfl rfl rfl) ?_
          refine im_st (r_imul dX10_speedsOf_77 rfl) ?_
          refine im_st (r_iload (i := 4) dX10_speedsOf_78 rfl rfl) ?_
          refine im_st (r_iadd dX10_speedsOf_80 rfl) ?_
          refine im_st (r_aload_n (i := 0) dX10_speedsOf_81 rfl rfl rfl) ?_
          refine im_st (s_getI (tag := 10) (j := 16) dX10_speedsOf_82 rfl fl_X10_145 rfl (Nat.le_of_ble_eq_true rfl) rfl) ?_
          refine im_grd (fun g13 => ?_)
          refine im_st (s_iastore dX10_speedsOf_85 rfl rfl (Nat.le_of_ble_eq_true rfl) (inR_in g13)) ?_
          refine im_st (r_iinc (i := 4) (x := s10.1) (v := (s10.1 + 1)) (L1 := [some (.ref 75), some (.int a1), some (.int v9), some (.int s2.2.1), some (.int (s10.1 + 1))]) dX10_speedsOf_86 rfl rfl rfl (by decide) rfl) ?_
          refine im_st (r_goto (pc1 := 52) dX10_speedsOf_89 (by decide)) ?_
          exact im_ret id
      refine im_st (r_iinc (i := 3) (x := s2.2.1) (v := (s2.2.1 + 1)) (L1 := [some (.ref 75), some (.int a1), some (.int v9), some (.int (s2.2.1 + 1)), none]) dX10_speedsOf_92 rfl rfl rfl (by decide) rfl) ?_
      refine im_st (r_goto (pc1 := 12) dX10_speedsOf_95 (by decide)) ?_
      exact im_ret id
  refine im_st (r_iload_n (i := 2) dX10_speedsOf_98 rfl rfl rfl) ?_
  exact im_ret (fun q => g_iret rfl rfl rfl dX10_speedsOf_99 q)
theorem e_X10_speedsOf (a1 : Int32) (σ : Sg) (τ : Sl) (y : (Int32 × Sg)) (hy : f_X10_speedsOf a1 σ = some y) : EvD M_X10_speedsOf [.ref 75, .int a1] (mk σ τ) (some (.int y.1)) (mk y.2 τ) := EvM.of (by decide +kernel) (Nat.le_of_ble_eq_true rfl) (i_X10_speedsOf a1 σ τ _ y hy ⟨rfl, rfl⟩)
def M_X10_speeds : Ms := (yX10_speeds, cX10_speeds, 2, some .int, 4, 102, 0, 0)
theorem mv_X10_speeds : MV M_X10_speeds 1 := ⟨⟨q1356, q12, by decide, by decide, by decide +kernel⟩, q1354, q1355⟩
def f_X10_speeds (a1 : Int32) (σ : Sg) : Option (Int32 × Sg) :=
  if (f_X10_isHog a1 σ) = 0 then
    some ((-1 : Int32), σ)
  else
    (f_X10_speedsOf a1 σ).bind fun (y2 : (Int32 × Sg)) =>
    some (y2.1, y2.2)
set_option maxHeartbeats 4000000 in
set_option maxRecDepth 20000 in
theorem i_X10_speeds (a1 : Int32) (σ : Sg) (τ : Sl) (Q : Option Value → Hp → Prop) : Imp (f_X10_speeds a1 σ) (fun (y : (Int32 × Sg)) => Q (some (.int y.1)) (mk y.2 τ)) (Go M_X10_speeds Q 0 0 0 [some (.ref 75), some (.int a1)] [] (mk σ τ)) := by
  unfold f_X10_speeds
  refine im_st (r_aload_n (i := 0) dX10_speeds_0 rfl rfl rfl) ?_
  refine im_st (r_iload_n (i := 1) dX10_speeds_1 rfl rfl rfl) ?_
  refine im_st (r_callV (as := [.int a1]) (r := some (.int (f_X10_isHog a1 σ))) (kc1 := 0) (ks1 := 0) (st := []) (st1 := [.int (f_X10_isHog a1 σ)]) (e_X10_isHog a1 σ τ) mv_X10_isHog lk_X10_180 ⟨by decide, by decide⟩ rfl (Nat.le_of_ble_eq_true rfl) (by decide) ⟨_, rfl, rfl⟩ ⟨by decide, by decide⟩ (Nat.le_of_ble_eq_true rfl) dX10_speeds_2 rfl rfl rfl rfl rfl) ?_
  refine im_br (r_if_eq (tgt := 16) dX10_speeds_5 rfl (by decide)) (fun c1 => ?_) (fun c1 => ?_)
  · refine im_st (r_iconst (v := -1) dX10_speeds_16 rfl kI_m1) ?_
    exact im_ret (fun q => g_iret rfl rfl rfl dX10_speeds_17 q)
  · refine im_st (r_aload_n (i := 0) dX10_speeds_8 rfl rfl rfl) ?_
    refine im_st (r_iload_n (i := 1) dX10_speeds_9 rfl rfl rfl) ?_
    refine im_bind (fun y2 hy2 => ?_)
    refine im_st (r_callV (as := [.int a1]) (r := some (.int y2.1)) (kc1 := 0) (ks1 := 0) (st := []) (st1 := [.int y2.1]) (e_X10_speedsOf a1 σ τ y2 hy2) mv_X10_speedsOf lk_X10_241 ⟨by decide, by decide⟩ rfl (Nat.le_of_ble_eq_true rfl) (by decide) ⟨_, rfl, rfl⟩ ⟨by decide, by decide⟩ (Nat.le_of_ble_eq_true rfl) dX10_speeds_10 rfl rfl rfl rfl rfl) ?_
    refine im_st (r_goto (pc1 := 17) dX10_speeds_13 (by decide)) ?_
    exact im_ret (fun q => g_iret rfl rfl rfl dX10_speeds_17 q)
theorem e_X10_speeds (a1 : Int32) (σ : Sg) (τ : Sl) (y : (Int32 × Sg)) (hy : f_X10_speeds a1 σ = some y) : EvD M_X10_speeds [.ref 75, .int a1] (mk σ τ) (some (.int y.1)) (mk y.2 τ) := EvM.of (by decide +kernel) (Nat.le_of_ble_eq_true rfl) (i_X10_speeds a1 σ τ _ y hy ⟨rfl, rfl⟩)
def M_X10_ask : Ms := (yX10_ask, cX10_ask, 11, some .int, 4, 102, 0, 0)
theorem mv_X10_ask : MV M_X10_ask 2 := ⟨⟨q1364, q12, by decide, by decide, by decide +kernel⟩, q1362, q1363⟩
def b_X10_ask_65 (y3 : (Int32 × Sg)) (s5 : (Int32 × Int32 × Int32)) (s7 : (Int32 × Int32)) : (Int32 × Int32) → Option ((Int32 × Int32) ⊕ (Int32 × Int32)) := fun (s9 : (Int32 × Int32)) =>
  if (9 : Int32) < s9.2 then
    some (.inr (s9.1, s9.2))
  else
    if ((y3.1 >>> (s7.2 &&& 31)) &&& (1 : Int32)) = (1 : Int32) then
      (if ((y3.1 >>> (s9.2 &&& 31)) &&& (1 : Int32)) = (1 : Int32) then
        if inR (((8 : Int32) * s7.2) + s5.2.2) 80 then
        if inR (((8 : Int32) * s9.2) + s5.2.2) 80 then
        if (y3.2 83 (((8 : Int32) * s7.2) + s5.2.2).toNatClampNeg) = (y3.2 83 (((8 : Int32) * s9.2) + s5.2.2).toNatClampNeg) then
          some (1 : Int32)
        else
          some (0 : Int32)
        else none
        else none
      else
        some (0 : Int32)).bind fun (j12 : Int32) =>
      some (.inl ((s9.1 + j12), (s9.2 + 1)))
    else
      some (.inr (s9.1, s9.2))
def b_X10_ask_52 (y3 : (Int32 × Sg)) (s5 : (Int32 × Int32 × Int32)) : (Int32 × Int32) → Option ((Int32 × Int32) ⊕ (Int32 × Int32)) := fun (s7 : (Int32 × Int32)) =>
  if (9 : Int32) < s7.2 then
    some (.inr (s7.1, s7.2))
  else
    (wh (b_X10_ask_65 y3 s5 s7) 4096 ((0 : Int32), (1 : Int32))).bind fun (e17 : (Int32 × Int32)) =>
    app (if e17.1 ≤ s7.1 then
      s7.1
    else
      e17.1) fun (j18 : Int32) =>
    some (.inl (j18, (s7.2 + 1)))
def b_X10_ask_39 (y3 : (Int32 × Sg)) : (Int32 × Int32 × Int32) → Option ((Int32 × Int32 × Int32) ⊕ (Int32 × Int32 × Int32)) := fun (s5 : (Int32 × Int32 × Int32)) =>
  if (8 : Int32) ≤ s5.2.2 then
    some (.inr (s5.1, s5.2.1, s5.2.2))
  else
    (wh (b_X10_ask_52 y3 s5) 4096 ((0 : Int32), (1 : Int32))).bind fun (e20 : (Int32 × Int32)) =>
    app (if s5.1 ≤ e20.1 then
      s5.2.1
    else
      s5.2.2) fun (j21 : Int32) =>
    app (if s5.1 ≤ e20.1 then
      s5.1
    else
      e20.1) fun (j23 : Int32) =>
    some (.inl (j23, j21, (s5.2.2 + 1)))
def f_X10_ask (a1 : Int32) (a2 : Int32) (σ : Sg) : Option (Int32 × Sg) :=
  if (f_X10_isHog a1 σ) = 0 then
    some ((-1 : Int32), σ)
  else
    if (f_X10_in (a2.toInt64) (0 : Int64) (1 : Int64)) = 0 then
      some ((-1 : Int32), σ)
    else
      (f_X10_speedsOf a1 σ).bind fun (y3 : (Int32 × Sg)) =>
      (f_X10_bitsOf y3.1).bind fun (y4 : Int32) =>
      (wh (b_X10_ask_39 y3) 4096 (y4, (-4 : Int32), (0 : Int32))).bind fun (e25 : (Int32 × Int32 × Int32)) =>
      if e25.2.1 = (-4 : Int32) then
        some (e25.2.1, y3.2)
      else
        if a2 = 0 then
          some (e25.2.1, y3.2)
        else
          some (e25.1, y3.2)
set_option maxHeartbeats 4000000 in
set_option maxRecDepth 20000 in
theorem i_X10_ask (a1 : Int32) (a2 : Int32) (σ : Sg) (τ : Sl) (Q : Option Value → Hp → Prop) : Imp (f_X10_ask a1 a2 σ) (fun (y : (Int32 × Sg)) => Q (some (.int y.1)) (mk y.2 τ)) (Go M_X10_ask Q 0 0 0 [some (.ref 75), some (.int a1), some (.int a2), none, none, none, none, none, none, none, none] [] (mk σ τ)) := by
  unfold f_X10_ask
  refine im_st (r_aload_n (i := 0) dX10_ask_0 rfl rfl rfl) ?_
  refine im_st (r_iload_n (i := 1) dX10_ask_1 rfl rfl rfl) ?_
  refine im_st (r_callV (as := [.int a1]) (r := some (.int (f_X10_isHog a1 σ))) (kc1 := 0) (ks1 := 0) (st := []) (st1 := [.int (f_X10_isHog a1 σ)]) (e_X10_isHog a1 σ τ) mv_X10_isHog lk_X10_180 ⟨by decide, by decide⟩ rfl (Nat.le_of_ble_eq_true rfl) (by decide) ⟨_, rfl, rfl⟩ ⟨by decide, by decide⟩ (Nat.le_of_ble_eq_true rfl) dX10_ask_2 rfl rfl rfl rfl rfl) ?_
  refine im_br (r_if_eq (tgt := 18) dX10_ask_5 rfl (by decide)) (fun c1 => ?_) (fun c1 => ?_)
  · refine im_st (r_iconst (v := -1) dX10_ask_18 rfl kI_m1) ?_
    exact im_ret (fun q => g_iret rfl rfl rfl dX10_ask_19 q)
  · refine im_st (r_iload_n (i := 2) dX10_ask_8 rfl rfl rfl) ?_
    refine im_st (r_i2l (v := a2.toInt64) dX10_ask_9 rfl rfl) ?_
    refine im_st (r_lconst (v := 0) dX10_ask_10 rfl rfl) ?_
    refine im_st (r_lconst (v := 1) dX10_ask_11 rfl rfl) ?_
    refine im_st (r_callS (as := [.long (a2.toInt64), .long (0 : Int64), .long (1 : Int64)]) (r := some (.int (f_X10_in (a2.toInt64) (0 : Int64) (1 : Int64)))) (kc1 := 0) (ks1 := 0) (st := []) (st1 := [.int (f_X10_in (a2.toInt64) (0 : Int64) (1 : Int64))]) (e_X10_in (a2.toInt64) (0 : Int64) (1 : Int64) σ τ) ms_X10_in lk_X10_49 ⟨by decide, by decide⟩ ⟨by decide, by decide⟩ (Nat.le_of_ble_eq_true rfl) dX10_ask_12 rfl rfl rfl rfl rfl) ?_
    refine im_br (r_if_ne (tgt := 20) dX10_ask_15 rfl (by decide)) (fun c2 => ?_) (fun c2 => ?_)
    · refine im_st (r_iconst (v := -1) dX10_ask_18 rfl kI_m1) ?_
      exact im_ret (fun q => g_iret rfl rfl rfl dX10_ask_19 q)
    · refine im_st (r_aload_n (i := 0) dX10_ask_20 rfl rfl rfl) ?_
      refine im_st (r_iload_n (i := 1) dX10_ask_21 rfl rfl rfl) ?_
      refine im_bind (fun y3 hy3 => ?_)
      refine im_st (r_callV (as := [.int a1]) (r := some (.int y3.1)) (kc1 := 0) (ks1 := 0) (st := []) (st1 := [.int y3.1]) (e_X10_speedsOf a1 σ τ y3 hy3) mv_X10_speedsOf lk_X10_241 ⟨by decide, by decide⟩ rfl (Nat.le_of_ble_eq_true rfl) (by decide) ⟨_, rfl, rfl⟩ ⟨by decide, by decide⟩ (Nat.le_of_ble_eq_true rfl) dX10_ask_22 rfl rfl rfl rfl rfl) ?_
      refine im_st (r_istore_n (i := 3) (L1 := [some (.ref 75), some (.int a1), some (.int a2), some (.int y3.1), none, none, none, none, none, none, none]) dX10_ask_25 rfl rfl (by decide) rfl) ?_
      refine im_st (r_iload_n (i := 3) dX10_ask_26 rfl rfl rfl) ?_
      refine im_bind (fun y4 hy4 => ?_)
      refine im_st (r_callS (as := [.int y3.1]) (r := some (.int y4)) (kc1 := 0) (ks1 := 0) (st := []) (st1 := [.int y4]) (e_X10_bitsOf y3.1 y3.2 τ y4 hy4) ms_X10_bitsOf lk_X10_221 ⟨by decide, by decide⟩ ⟨by decide, by decide⟩ (Nat.le_of_ble_eq_true rfl) dX10_ask_27 rfl rfl rfl rfl rfl) ?_
      refine im_st (r_istore (i := 4) (L1 := [some (.ref 75), some (.int a1), some (.int a2), some (.int y3.1), some (.int y4), none, none, none, none, none, none]) dX10_ask_30 rfl (by decide) rfl) ?_
      refine im_st (r_bipush (v := -4) dX10_ask_32 rfl kB_m4) ?_
      refine im_st (r_istore (i := 5) (L1 := [some (.ref 75), some (.int a1), some (.int a2), some (.int y3.1), some (.int y4), some (.int (-4 : Int32)), none, none, none, none, none]) dX10_ask_34 rfl (by decide) rfl) ?_
      refine im_st (r_iconst (v := 0) dX10_ask_36 rfl kI_0) ?_
      refine im_st (r_istore (i := 6) (L1 := [some (.ref 75), some (.int a1), some (.int a2), some (.int y3.1), some (.int y4), some (.int (-4 : Int32)), some (.int (0 : Int32)), none, none, none, none]) dX10_ask_37 rfl (by decide) rfl) ?_
      refine im_st (r_fgt (L1 := [some (.ref 75), none, some (.int a2), some (.int y3.1), some (.int y4), some (.int (-4 : Int32)), some (.int (0 : Int32)), none, none, none, none]) [1] rfl) ?_
      refine im_seq (Gm := fun (e25 : (Int32 × Int32 × Int32)) => Go M_X10_ask Q 0 0 197 [none, none, some (.int a2), none, some (.int e25.1), some (.int e25.2.1), none, none, none, none, none] [] (mk y3.2 τ)) ?_ (fun e25 => ?_)
      · refine im_wh (G := fun (s5 : (Int32 × Int32 × Int32)) => Go M_X10_ask Q 0 0 39 [some (.ref 75), none, some (.int a2), some (.int y3.1), some (.int s5.1), some (.int s5.2.1), some (.int s5.2.2), none, none, none, none] [] (mk y3.2 τ)) (fun s5 => ?_) _ _
        unfold b_X10_ask_39
        refine im_st (r_iload (i := 6) dX10_ask_39 rfl rfl) ?_
        refine im_st (r_bipush (v := 8) dX10_ask_41 rfl kB_8) ?_
        refine im_br (r_icmp_ge (tgt := 197) dX10_ask_43 rfl (by decide)) (fun c6 => ?_) (fun c6 => ?_)
        · refine im_st (r_fgt (L1 := [none, none, some (.int a2), none, some (.int s5.1), some (.int s5.2.1), none, none, none, none, none]) [0, 3, 6] rfl) ?_
          exact im_ret id
        · refine im_st (r_iconst (v := 0) dX10_ask_46 rfl kI_0) ?_
          refine im_st (r_istore (i := 7) (L1 := [some (.ref 75), none, some (.int a2), some (.int y3.1), some (.int s5.1), some (.int s5.2.1), some (.int s5.2.2), some (.int (0 : Int32)), none, none, none]) dX10_ask_47 rfl (by decide) rfl) ?_
          refine im_st (r_iconst (v := 1) dX10_ask_49 rfl kI_1) ?_
          refine im_st (r_istore (i := 8) (L1 := [some (.ref 75), none, some (.int a2), some (.int y3.1), some (.int s5.1), some (.int s5.2.1), some (.int s5.2.2), some (.int (0 : Int32)), some (.int (1 : Int32)), none, none]) dX10_ask_50 rfl (by decide) rfl) ?_
          refine im_seq (Gm := fun (e20 : (Int32 × Int32)) => Go M_X10_ask Q 0 0 159 [some (.ref 75), none, some (.int a2), some (.int y3.1), some (.int s5.1), some (.int s5.2.1), some (.int s5.2.2), some (.int e20.1), none, none, none] [] (mk y3.2 τ)) ?_ (fun e20 => ?_)
          · refine im_wh (G := fun (s7 : (Int32 × Int32)) => Go M_X10_ask Q 0 0 52 [some (.ref 75), none, some (.int a2), some (.int y3.1), some (.int s5.1), some (.int s5.2.1), some (.int s5.2.2), some (.int s7.1), some (.int s7.2), none, none] [] (mk y3.2 τ)) (fun s7 => ?_) _ _
            unfold b_X10_ask_52
            refine im_st (r_iload (i := 8) dX10_ask_52 rfl rfl) ?_
            refine im_st (r_bipush (v := 9) dX10_ask_54 rfl kB_9) ?_
            refine im_br (r_icmp_gt (tgt := 159) dX10_ask_56 rfl (by decide)) (fun c8 => ?_) (fun c8 => ?_)
            · refine im_st (r_fgt (L1 := [some (.ref 75), none, some (.int a2), some (.int y3.1), some (.int s5.1), some (.int s5.2.1), some (.int s5.2.2), some (.int s7.1), none, none, none]) [8] rfl) ?_
              exact im_ret id
            · refine im_st (r_iconst (v := 0) dX10_ask_59 rfl kI_0) ?_
              refine im_st (r_istore (i := 9) (L1 := [some (.ref 75), none, some (.int a2), some (.int y3.1), some (.int s5.1), some (.int s5.2.1), some (.int s5.2.2), some (.int s7.1), some (.int s7.2), some (.int (0 : Int32)), none]) dX10_ask_60 rfl (by decide) rfl) ?_
              refine im_st (r_iconst (v := 1) dX10_ask_62 rfl kI_1) ?_
              refine im_st (r_istore (i := 10) (L1 := [some (.ref 75), none, some (.int a2), some (.int y3.1), some (.int s5.1), some (.int s5.2.1), some (.int s5.2.2), some (.int s7.1), some (.int s7.2), some (.int (0 : Int32)), some (.int (1 : Int32))]) dX10_ask_63 rfl (by decide) rfl) ?_
              refine im_seq (Gm := fun (e17 : (Int32 × Int32)) => Go M_X10_ask Q 0 0 137 [some (.ref 75), none, some (.int a2), some (.int y3.1), some (.int s5.1), some (.int s5.2.1), some (.int s5.2.2), some (.int s7.1), some (.int s7.2), some (.int e17.1), none] [] (mk y3.2 τ)) ?_ (fun e17 => ?_)
              · refine im_wh (G := fun (s9 : (Int32 × Int32)) => Go M_X10_ask Q 0 0 65 [some (.ref 75), none, some (.int a2), some (.int y3.1), some (.int s5.1), some (.int s5.2.1), some (.int s5.2.2), some (.int s7.1), some (.int s7.2), some (.int s9.1), some (.int s9.2)] [] (mk y3.2 τ)) (fun s9 => ?_) _ _
                unfold b_X10_ask_65
                refine im_st (r_iload (i := 10) dX10_ask_65 rfl rfl) ?_
                refine im_st (r_bipush (v := 9) dX10_ask_67 rfl kB_9) ?_
                refine im_br (r_icmp_gt (tgt := 137) dX10_ask_69 rfl (by decide)) (fun c10 => ?_) (fun c10 => ?_)
                · refine im_st (r_fgt (L1 := [some (.ref 75), none, some (.int a2), some (.int y3.1), some (.int s5.1), some (.int s5.2.1), some (.int s5.2.2), some (.int s7.1), some (.int s7.2), some (.int s9.1), none]) [10] rfl) ?_
                  exact im_ret id
                · refine im_st (r_iload_n (i := 3) dX10_ask_72 rfl rfl rfl) ?_
                  refine im_st (r_iload (i := 8) dX10_ask_73 rfl rfl) ?_
                  refine im_st (r_ishr dX10_ask_75 rfl) ?_
                  refine im_st (r_iconst (v := 1) dX10_ask_76 rfl kI_1) ?_
                  refine im_st (r_iand dX10_ask_77 rfl) ?_
                  refine im_st (r_iconst (v := 1) dX10_ask_78 rfl kI_1) ?_
                  refine im_br (r_icmp_ne (tgt := 137) dX10_ask_79 rfl (by decide)) (fun c11 => ?_) (fun c11 => ?_)
                  · refine im_st (r_iload (i := 9) dX10_ask_82 rfl rfl) ?_
                    refine im_st (r_iload_n (i := 3) dX10_ask_84 rfl rfl rfl) ?_
                    refine im_st (r_iload (i := 10) dX10_ask_85 rfl rfl) ?_
                    refine im_st (r_ishr dX10_ask_87 rfl) ?_
                    refine im_st (r_iconst (v := 1) dX10_ask_88 rfl kI_1) ?_
                    refine im_st (r_iand dX10_ask_89 rfl) ?_
                    refine im_st (r_iconst (v := 1) dX10_ask_90 rfl kI_1) ?_
                    refine im_seq (Gm := fun (j12 : Int32) => Go M_X10_ask Q 0 0 128 [some (.ref 75), none, some (.int a2), some (.int y3.1), some (.int s5.1), some (.int s5.2.1), some (.int s5.2.2), some (.int s7.1), some (.int s7.2), none, some (.int s9.2)] [.int j12, .int s9.1] (mk y3.2 τ)) ?_ (fun j12 => ?_)
                    · refine im_br (r_icmp_ne (tgt := 127) dX10_ask_91 rfl (by decide)) (fun c13 => ?_) (fun c13 => ?_)
                      · refine im_st (r_aload_n (i := 0) dX10_ask_94 rfl rfl rfl) ?_
                        refine im_st (s_getR (b := 83) (tag := 10) (j := 23) dX10_ask_95 rfl fl_X10_31 rfl (Nat.le_of_ble_eq_true rfl) rfl rfl) ?_
                        refine im_st (r_bipush (v := 8) dX10_ask_98 rfl kB_8) ?_
                        refine im_st (r_iload (i := 8) dX10_ask_100 rfl rfl) ?_
                        refine im_st (r_imul dX10_ask_102 rfl) ?_
                        refine im_st (r_iload (i := 6) dX10_ask_103 rfl rfl) ?_
                        refine im_st (r_iadd dX10_ask_105 rfl) ?_
                        refine im_grd (fun g14 => ?_)
                        refine im_st (s_iaload dX10_ask_106 rfl rfl (Nat.le_of_ble_eq_true rfl) (inR_in g14)) ?_
                        refine im_st (r_aload_n (i := 0) dX10_ask_107 rfl rfl rfl) ?_
                        refine im_st (s_getR (b := 83) (tag := 10) (j := 23) dX10_ask_108 rfl fl_X10_31 rfl (Nat.le_of_ble_eq_true rfl) rfl rfl) ?_
                        refine im_st (r_bipush (v := 8) dX10_ask_111 rfl kB_8) ?_
                        refine im_st (r_iload (i := 10) dX10_ask_113 rfl rfl) ?_
                        refine im_st (r_imul dX10_ask_115 rfl) ?_
                        refine im_st (r_iload (i := 6) dX10_ask_116 rfl rfl) ?_
                        refine im_st (r_iadd dX10_ask_118 rfl) ?_
                        refine im_grd (fun g15 => ?_)
                        refine im_st (s_iaload dX10_ask_119 rfl rfl (Nat.le_of_ble_eq_true rfl) (inR_in g15)) ?_
                        refine im_br (r_icmp_ne (tgt := 127) dX10_ask_120 rfl (by decide)) (fun c16 => ?_) (fun c16 => ?_)
                        · refine im_st (r_iconst (v := 1) dX10_ask_123 rfl kI_1) ?_
                          refine im_st (r_goto (pc1 := 128) dX10_ask_124 (by decide)) ?_
                          refine im_st (r_fgt (L1 := [some (.ref 75), none, some (.int a2), some (.int y3.1), some (.int s5.1), some (.int s5.2.1), some (.int s5.2.2), some (.int s7.1), some (.int s7.2), none, some (.int s9.2)]) [9] rfl) ?_
                          exact im_ret id
                        · refine im_st (r_iconst (v := 0) dX10_ask_127 rfl kI_0) ?_
                          refine im_st (r_fgt (L1 := [some (.ref 75), none, some (.int a2), some (.int y3.1), some (.int s5.1), some (.int s5.2.1), some (.int s5.2.2), some (.int s7.1), some (.int s7.2), none, some (.int s9.2)]) [9] rfl) ?_
                          exact im_ret id
                      · refine im_st (r_iconst (v := 0) dX10_ask_127 rfl kI_0) ?_
                        refine im_st (r_fgt (L1 := [some (.ref 75), none, some (.int a2), some (.int y3.1), some (.int s5.1), some (.int s5.2.1), some (.int s5.2.2), some (.int s7.1), some (.int s7.2), none, some (.int s9.2)]) [9] rfl) ?_
                        exact im_ret id
                    refine im_st (r_iadd dX10_ask_128 rfl) ?_
                    refine im_st (r_istore (i := 9) (L1 := [some (.ref 75), none, some (.int a2), some (.int y3.1), some (.int s5.1), some (.int s5.2.1), some (.int s5.2.2), some (.int s7.1), some (.int s7.2), some (.int (s9.1 + j12)), some (.int s9.2)]) dX10_ask_129 rfl (by decide) rfl) ?_
                    refine im_st (r_iinc (i := 10) (x := s9.2) (v := (s9.2 + 1)) (L1 := [some (.ref 75), none, some (.int a2), some (.int y3.1), some (.int s5.1), some (.int s5.2.1), some (.int s5.2.2), some (.int s7.1), some (.int s7.2), some (.int (s9.1 + j12)), some (.int (s9.2 + 1))]) dX10_ask_131 rfl rfl rfl (by decide) rfl) ?_
                    refine im_st (r_goto (pc1 := 65) dX10_ask_134 (by decide)) ?_
                    exact im_ret id
                  · refine im_st (r_fgt (L1 := [some (.ref 75), none, some (.int a2), some (.int y3.1), some (.int s5.1), some (.int s5.2.1), some (.int s5.2.2), some (.int s7.1), some (.int s7.2), some (.int s9.1), none]) [10] rfl) ?_
                    exact im_ret id
              refine im_st (r_iload (i := 9) dX10_ask_137 rfl rfl) ?_
              refine im_st (r_iload (i := 7) dX10_ask_139 rfl rfl) ?_
              refine im_seqT (Gm := fun (j18 : Int32) => Go M_X10_ask Q 0 0 151 [some (.ref 75), none, some (.int a2), some (.int y3.1), some (.int s5.1), some (.int s5.2.1), some (.int s5.2.2), none, some (.int s7.2), none, none] [.int j18] (mk y3.2 τ)) ?_ (fun j18 => ?_)
              · refine im_brS (r_icmp_le (tgt := 149) dX10_ask_141 rfl (by decide)) (fun c19 => ?_) (fun c19 => ?_)
                · refine im_st (r_iload (i := 7) dX10_ask_149 rfl rfl) ?_
                  refine im_st (r_fgt (L1 := [some (.ref 75), none, some (.int a2), some (.int y3.1), some (.int s5.1), some (.int s5.2.1), some (.int s5.2.2), none, some (.int s7.2), none, none]) [7, 9] rfl) ?_
                  exact im_ret id
                · refine im_st (r_iload (i := 9) dX10_ask_144 rfl rfl) ?_
                  refine im_st (r_goto (pc1 := 151) dX10_ask_146 (by decide)) ?_
                  refine im_st (r_fgt (L1 := [some (.ref 75), none, some (.int a2), some (.int y3.1), some (.int s5.1), some (.int s5.2.1), some (.int s5.2.2), none, some (.int s7.2), none, none]) [7, 9] rfl) ?_
                  exact im_ret id
              refine im_st (r_istore (i := 7) (L1 := [some (.ref 75), none, some (.int a2), some (.int y3.1), some (.int s5.1), some (.int s5.2.1), some (.int s5.2.2), some (.int j18), some (.int s7.2), none, none]) dX10_ask_151 rfl (by decide) rfl) ?_
              refine im_st (r_iinc (i := 8) (x := s7.2) (v := (s7.2 + 1)) (L1 := [some (.ref 75), none, some (.int a2), some (.int y3.1), some (.int s5.1), some (.int s5.2.1), some (.int s5.2.2), some (.int j18), some (.int (s7.2 + 1)), none, none]) dX10_ask_153 rfl rfl rfl (by decide) rfl) ?_
              refine im_st (r_goto (pc1 := 52) dX10_ask_156 (by decide)) ?_
              exact im_ret id
          refine im_st (r_iload (i := 7) dX10_ask_159 rfl rfl) ?_
          refine im_st (r_iload (i := 4) dX10_ask_161 rfl rfl) ?_
          refine im_seqT (Gm := fun (j21 : Int32) => Go M_X10_ask Q 0 0 173 [some (.ref 75), none, some (.int a2), some (.int y3.1), some (.int s5.1), none, some (.int s5.2.2), some (.int e20.1), none, none, none] [.int j21] (mk y3.2 τ)) ?_ (fun j21 => ?_)
          · refine im_brS (r_icmp_ge (tgt := 171) dX10_ask_163 rfl (by decide)) (fun c22 => ?_) (fun c22 => ?_)
            · refine im_st (r_iload (i := 5) dX10_ask_171 rfl rfl) ?_
              refine im_st (r_fgt (L1 := [some (.ref 75), none, some (.int a2), some (.int y3.1), some (.int s5.1), none, some (.int s5.2.2), some (.int e20.1), none, none, none]) [5] rfl) ?_
              exact im_ret id
            · refine im_st (r_iload (i := 6) dX10_ask_166 rfl rfl) ?_
              refine im_st (r_goto (pc1 := 173) dX10_ask_168 (by decide)) ?_
              refine im_st (r_fgt (L1 := [some (.ref 75), none, some (.int a2), some (.int y3.1), some (.int s5.1), none, some (.int s5.2.2), some (.int e20.1), none, none, none]) [5] rfl) ?_
              exact im_ret id
          refine im_st (r_istore (i := 5) (L1 := [some (.ref 75), none, some (.int a2), some (.int y3.1), some (.int s5.1), some (.int j21), some (.int s5.2.2), some (.int e20.1), none, none, none]) dX10_ask_173 rfl (by decide) rfl) ?_
          refine im_st (r_iload (i := 7) dX10_ask_175 rfl rfl) ?_
          refine im_st (r_iload (i := 4) dX10_ask_177 rfl rfl) ?_
          refine im_seqT (Gm := fun (j23 : Int32) => Go M_X10_ask Q 0 0 189 [some (.ref 75), none, some (.int a2), some (.int y3.1), none, some (.int j21), some (.int s5.2.2), none, none, none, none] [.int j23] (mk y3.2 τ)) ?_ (fun j23 => ?_)
          · refine im_brS (r_icmp_ge (tgt := 187) dX10_ask_179 rfl (by decide)) (fun c24 => ?_) (fun c24 => ?_)
            · refine im_st (r_iload (i := 4) dX10_ask_187 rfl rfl) ?_
              refine im_st (r_fgt (L1 := [some (.ref 75), none, some (.int a2), some (.int y3.1), none, some (.int j21), some (.int s5.2.2), none, none, none, none]) [4, 7] rfl) ?_
              exact im_ret id
            · refine im_st (r_iload (i := 7) dX10_ask_182 rfl rfl) ?_
              refine im_st (r_goto (pc1 := 189) dX10_ask_184 (by decide)) ?_
              refine im_st (r_fgt (L1 := [some (.ref 75), none, some (.int a2), some (.int y3.1), none, some (.int j21), some (.int s5.2.2), none, none, none, none]) [4, 7] rfl) ?_
              exact im_ret id
          refine im_st (r_istore (i := 4) (L1 := [some (.ref 75), none, some (.int a2), some (.int y3.1), some (.int j23), some (.int j21), some (.int s5.2.2), none, none, none, none]) dX10_ask_189 rfl (by decide) rfl) ?_
          refine im_st (r_iinc (i := 6) (x := s5.2.2) (v := (s5.2.2 + 1)) (L1 := [some (.ref 75), none, some (.int a2), some (.int y3.1), some (.int j23), some (.int j21), some (.int (s5.2.2 + 1)), none, none, none, none]) dX10_ask_191 rfl rfl rfl (by decide) rfl) ?_
          refine im_st (r_goto (pc1 := 39) dX10_ask_194 (by decide)) ?_
          exact im_ret id
      refine im_st (r_iload (i := 5) dX10_ask_197 rfl rfl) ?_
      refine im_st (r_bipush (v := -4) dX10_ask_199 rfl kB_m4) ?_
      refine im_br (r_icmp_eq (tgt := 208) dX10_ask_201 rfl (by decide)) (fun c26 => ?_) (fun c26 => ?_)
      · refine im_st (r_iload (i := 5) dX10_ask_208 rfl rfl) ?_
        refine im_st (r_goto (pc1 := 215) dX10_ask_210 (by decide)) ?_
        exact im_ret (fun q => g_iret rfl rfl rfl dX10_ask_215 q)
      · refine im_st (r_iload_n (i := 2) dX10_ask_204 rfl rfl rfl) ?_
        refine im_br (r_if_ne (tgt := 213) dX10_ask_205 rfl (by decide)) (fun c27 => ?_) (fun c27 => ?_)
        · refine im_st (r_iload (i := 5) dX10_ask_208 rfl rfl) ?_
          refine im_st (r_goto (pc1 := 215) dX10_ask_210 (by decide)) ?_
          exact im_ret (fun q => g_iret rfl rfl rfl dX10_ask_215 q)
        · refine im_st (r_iload (i := 4) dX10_ask_213 rfl rfl) ?_
          exact im_ret (fun q => g_iret rfl rfl rfl dX10_ask_215 q)
theorem e_X10_ask (a1 : Int32) (a2 : Int32) (σ : Sg) (τ : Sl) (y : (Int32 × Sg)) (hy : f_X10_ask a1 a2 σ = some y) : EvD M_X10_ask [.ref 75, .int a1, .int a2] (mk σ τ) (some (.int y.1)) (mk y.2 τ) := EvM.of (by decide +kernel) (Nat.le_of_ble_eq_true rfl) (i_X10_ask a1 a2 σ τ _ y hy ⟨rfl, rfl⟩)
def M_X10_drift : Ms := (yX10_drift, cX10_drift, 10, some .int, 2, 54, 0, 0)
theorem mv_X10_drift : MV M_X10_drift 3 := ⟨⟨q1368, q12, by decide, by decide, by decide +kernel⟩, q1366, q1367⟩
def b_X10_drift_54 (a2 : Int32) : (Int32 × Int32 × Int32 × Int32 × Sg) → Option ((Int32 × Int32 × Int32 × Int32 × Sg) ⊕ (Int32 × Int32 × Int32 × Int32 × Sg)) := fun (s5 : (Int32 × Int32 × Int32 × Int32 × Sg)) =>
  if a2 ≤ s5.2.2.2.1 then
    some (.inr (s5.1, s5.2.1, s5.2.2.1, s5.2.2.2.1, s5.2.2.2.2))
  else
    app ((s5.1 * (1103515245 : Int32)) + (12345 : Int32)) fun (v7 : Int32) =>
    app ((v7 >>> ((16 : Int32) &&& 31)) &&& (32767 : Int32)) fun (v8 : Int32) =>
    app (s5.2.2.2.2 75 1) fun (v9 : Int32) =>
    if nz v9 then
    app (v8 / (4 : Int32)) fun (v11 : Int32) =>
    (f_X10_runsOn (164 : Int32) (v8 - v8 / v9 * v9) (v11 - v11 / (8 : Int32) * (8 : Int32)) (0 : Int32) s5.2.2.2.2).bind fun (y12 : Sg) =>
    app (v8 / (32 : Int32)) fun (v13 : Int32) =>
    app (v8 / (320 : Int32)) fun (v14 : Int32) =>
    app (((10 : Int32) * (v13 - v13 / (10 : Int32) * (10 : Int32))) + (v14 - v14 / (8 : Int32) * (8 : Int32))) fun (v15 : Int32) =>
    (if (y12 75 16) = (-4 : Int32) then
      some (s5.2.1, s5.2.2.1, y12)
    else
      if inR ((171 : Int32) + (y12 75 16)) 205 then
      app (if (y12 76 ((171 : Int32) + (y12 75 16)).toNatClampNeg) = 0 then
        (1 : Int32)
      else
        (0 : Int32)) fun (j19 : Int32) =>
      (f_X10_isFreeOn (164 : Int32) v15 y12).bind fun (y21 : Int32) =>
      (if y21 = 0 then
        if inR ((164 : Int32) + (y12 75 16)) 205 then
        some (y12 76 ((164 : Int32) + (y12 75 16)).toNatClampNeg)
        else none
      else
        some v15).bind fun (j22 : Int32) =>
      if inR ((164 : Int32) + (y12 75 16)) 205 then
      some ((s5.2.1 + 1), (s5.2.2.1 + j19), (up2 y12 76 ((164 : Int32) + (y12 75 16)).toNatClampNeg j22))
      else none
      else none).bind fun (j16 : (Int32 × Int32 × Sg)) =>
    some (.inl (v7, j16.1, j16.2.1, (s5.2.2.2.1 + 1), j16.2.2))
    else none
def f_X10_drift (a1 : Int32) (a2 : Int32) (a3 : Int32) (σ : Sg) : Option (Int32 × Sg) :=
  if (f_X10_in (a2.toInt64) (1 : Int64) (60 : Int64)) = 0 then
    some ((-1 : Int32), σ)
  else
    if (f_X10_in (a3.toInt64) (0 : Int64) (1 : Int64)) = 0 then
      some ((-1 : Int32), σ)
    else
      if (σ 75 1) = 0 then
        some ((-2 : Int32), σ)
      else
        (f_X10_copies (0 : Int32) (164 : Int32) σ).bind fun (y4 : Sg) =>
        (wh (b_X10_drift_54 a2) 4096 (a1, (0 : Int32), (0 : Int32), (0 : Int32), y4)).bind fun (e26 : (Int32 × Int32 × Int32 × Int32 × Sg)) =>
        if a3 = 0 then
          some (e26.2.1, e26.2.2.2.2)
        else
          some (e26.2.2.1, e26.2.2.2.2)
set_option maxHeartbeats 4000000 in
set_option maxRecDepth 20000 in
theorem i_X10_drift (a1 : Int32) (a2 : Int32) (a3 : Int32) (σ : Sg) (τ : Sl) (Q : Option Value → Hp → Prop) : Imp (f_X10_drift a1 a2 a3 σ) (fun (y : (Int32 × Sg)) => Q (some (.int y.1)) (mk y.2 τ)) (Go M_X10_drift Q 0 0 0 [some (.ref 75), some (.int a1), some (.int a2), some (.int a3), none, none, none, none, none, none] [] (mk σ τ)) := by
  unfold f_X10_drift
  refine im_st (r_iload_n (i := 2) dX10_drift_0 rfl rfl rfl) ?_
  refine im_st (r_i2l (v := a2.toInt64) dX10_drift_1 rfl rfl) ?_
  refine im_st (r_lconst (v := 1) dX10_drift_2 rfl rfl) ?_
  refine im_st (r_ldc2 (v := 60) dX10_drift_3 rfl q1369) ?_
  refine im_st (r_callS (as := [.long (a2.toInt64), .long (1 : Int64), .long (60 : Int64)]) (r := some (.int (f_X10_in (a2.toInt64) (1 : Int64) (60 : Int64)))) (kc1 := 0) (ks1 := 0) (st := []) (st1 := [.int (f_X10_in (a2.toInt64) (1 : Int64) (60 : Int64))]) (e_X10_in (a2.toInt64) (1 : Int64) (60 : Int64) σ τ) ms_X10_in lk_X10_49 ⟨by decide, by decide⟩ ⟨by decide, by decide⟩ (Nat.le_of_ble_eq_true rfl) dX10_drift_6 rfl rfl rfl rfl rfl) ?_
  refine im_br (r_if_eq (tgt := 22) dX10_drift_9 rfl (by decide)) (fun c1 => ?_) (fun c1 => ?_)
  · refine im_st (r_iconst (v := -1) dX10_drift_22 rfl kI_m1) ?_
    exact im_ret (fun q => g_iret rfl rfl rfl dX10_drift_23 q)
  · refine im_st (r_iload_n (i := 3) dX10_drift_12 rfl rfl rfl) ?_
    refine im_st (r_i2l (v := a3.toInt64) dX10_drift_13 rfl rfl) ?_
    refine im_st (r_lconst (v := 0) dX10_drift_14 rfl rfl) ?_
    refine im_st (r_lconst (v := 1) dX10_drift_15 rfl rfl) ?_
    refine im_st (r_callS (as := [.long (a3.toInt64), .long (0 : Int64), .long (1 : Int64)]) (r := some (.int (f_X10_in (a3.toInt64) (0 : Int64) (1 : Int64)))) (kc1 := 0) (ks1 := 0) (st := []) (st1 := [.int (f_X10_in (a3.toInt64) (0 : Int64) (1 : Int64))]) (e_X10_in (a3.toInt64) (0 : Int64) (1 : Int64) σ τ) ms_X10_in lk_X10_49 ⟨by decide, by decide⟩ ⟨by decide, by decide⟩ (Nat.le_of_ble_eq_true rfl) dX10_drift_16 rfl rfl rfl rfl rfl) ?_
    refine im_br (r_if_ne (tgt := 24) dX10_drift_19 rfl (by decide)) (fun c2 => ?_) (fun c2 => ?_)
    · refine im_st (r_iconst (v := -1) dX10_drift_22 rfl kI_m1) ?_
      exact im_ret (fun q => g_iret rfl rfl rfl dX10_drift_23 q)
    · refine im_st (r_aload_n (i := 0) dX10_drift_24 rfl rfl rfl) ?_
      refine im_st (s_getI (tag := 10) (j := 1) dX10_drift_25 rfl fl_X10_129 rfl (Nat.le_of_ble_eq_true rfl) rfl) ?_
      refine im_br (r_if_ne (tgt := 34) dX10_drift_28 rfl (by decide)) (fun c3 => ?_) (fun c3 => ?_)
      · refine im_st (r_bipush (v := -2) dX10_drift_31 rfl kB_m2) ?_
        exact im_ret (fun q => g_iret rfl rfl rfl dX10_drift_33 q)
      · refine im_st (r_aload_n (i := 0) dX10_drift_34 rfl rfl rfl) ?_
        refine im_st (r_iconst (v := 0) dX10_drift_35 rfl kI_0) ?_
        refine im_st (r_sipush (v := 164) dX10_drift_36 rfl kS_164) ?_
        refine im_bind (fun y4 hy4 => ?_)
        refine im_st (r_callV (as := [.int (0 : Int32), .int (164 : Int32)]) (r := none) (kc1 := 0) (ks1 := 0) (st := []) (st1 := []) (e_X10_copies (0 : Int32) (164 : Int32) σ τ y4 hy4) mv_X10_copies lk_X10_218 ⟨by decide, by decide⟩ rfl (Nat.le_of_ble_eq_true rfl) (by decide) ⟨_, rfl, rfl⟩ ⟨by decide, by decide⟩ (Nat.le_of_ble_eq_true rfl) dX10_drift_39 rfl rfl rfl rfl rfl) ?_
        refine im_st (r_iload_n (i := 1) dX10_drift_42 rfl rfl rfl) ?_
        refine im_st (r_istore (i := 4) (L1 := [some (.ref 75), some (.int a1), some (.int a2), some (.int a3), some (.int a1), none, none, none, none, none]) dX10_drift_43 rfl (by decide) rfl) ?_
        refine im_st (r_iconst (v := 0) dX10_drift_45 rfl kI_0) ?_
        refine im_st (r_istore (i := 5) (L1 := [some (.ref 75), some (.int a1), some (.int a2), some (.int a3), some (.int a1), some (.int (0 : Int32)), none, none, none, none]) dX10_drift_46 rfl (by decide) rfl) ?_
        refine im_st (r_iconst (v := 0) dX10_drift_48 rfl kI_0) ?_
        refine im_st (r_istore (i := 6) (L1 := [some (.ref 75), some (.int a1), some (.int a2), some (.int a3), some (.int a1), some (.int (0 : Int32)), some (.int (0 : Int32)), none, none, none]) dX10_drift_49 rfl (by decide) rfl) ?_
        refine im_st (r_iconst (v := 0) dX10_drift_51 rfl kI_0) ?_
        refine im_st (r_istore (i := 7) (L1 := [some (.ref 75), some (.int a1), some (.int a2), some (.int a3), some (.int a1), some (.int (0 : Int32)), some (.int (0 : Int32)), some (.int (0 : Int32)), none, none]) dX10_drift_52 rfl (by decide) rfl) ?_
        refine im_st (r_fgt (L1 := [some (.ref 75), none, some (.int a2), some (.int a3), some (.int a1), some (.int (0 : Int32)), some (.int (0 : Int32)), some (.int (0 : Int32)), none, none]) [1] rfl) ?_
        refine im_seq (Gm := fun (e26 : (Int32 × Int32 × Int32 × Int32 × Sg)) => Go M_X10_drift Q 0 0 214 [none, none, none, some (.int a3), none, some (.int e26.2.1), some (.int e26.2.2.1), none, none, none] [] (mk e26.2.2.2.2 τ)) ?_ (fun e26 => ?_)
        · refine im_wh (G := fun (s5 : (Int32 × Int32 × Int32 × Int32 × Sg)) => Go M_X10_drift Q 0 0 54 [some (.ref 75), none, some (.int a2), some (.int a3), some (.int s5.1), some (.int s5.2.1), some (.int s5.2.2.1), some (.int s5.2.2.2.1), none, none] [] (mk s5.2.2.2.2 τ)) (fun s5 => ?_) _ _
          unfold b_X10_drift_54
          refine im_st (r_iload (i := 7) dX10_drift_54 rfl rfl) ?_
          refine im_st (r_iload_n (i := 2) dX10_drift_56 rfl rfl rfl) ?_
          refine im_br (r_icmp_ge (tgt := 214) dX10_drift_57 rfl (by decide)) (fun c6 => ?_) (fun c6 => ?_)
          · refine im_st (r_fgt (L1 := [none, none, none, some (.int a3), none, some (.int s5.2.1), some (.int s5.2.2.1), none, none, none]) [0, 2, 4, 7] rfl) ?_
            exact im_ret id
          · refine im_st (r_iload (i := 4) dX10_drift_60 rfl rfl) ?_
            refine im_st (r_ldc (v := 1103515245) dX10_drift_62 rfl q1370) ?_
            refine im_st (r_imul dX10_drift_64 rfl) ?_
            refine im_st (r_sipush (v := 12345) dX10_drift_65 rfl kS_12345) ?_
            refine im_st (r_iadd dX10_drift_68 rfl) ?_
            refine im_app (Gm := fun (v7 : Int32) => Go M_X10_drift Q 0 0 69 [some (.ref 75), none, some (.int a2), some (.int a3), some (.int s5.1), some (.int s5.2.1), some (.int s5.2.2.1), some (.int s5.2.2.2.1), none, none] [.int v7] (mk s5.2.2.2.2 τ)) (fun v7 => ?_)
            refine im_st (r_istore (i := 4) (L1 := [some (.ref 75), none, some (.int a2), some (.int a3), some (.int v7), some (.int s5.2.1), some (.int s5.2.2.1), some (.int s5.2.2.2.1), none, none]) dX10_drift_69 rfl (by decide) rfl) ?_
            refine im_st (r_iload (i := 4) dX10_drift_71 rfl rfl) ?_
            refine im_st (r_bipush (v := 16) dX10_drift_73 rfl kB_16) ?_
            refine im_st (r_ishr dX10_drift_75 rfl) ?_
            refine im_st (r_sipush (v := 32767) dX10_drift_76 rfl kS_32767) ?_
            refine im_st (r_iand dX10_drift_79 rfl) ?_
            refine im_app (Gm := fun (v8 : Int32) => Go M_X10_drift Q 0 0 80 [some (.ref 75), none, some (.int a2), some (.int a3), some (.int v7), some (.int s5.2.1), some (.int s5.2.2.1), some (.int s5.2.2.2.1), none, none] [.int v8] (mk s5.2.2.2.2 τ)) (fun v8 => ?_)
            refine im_st (r_istore (i := 8) (L1 := [some (.ref 75), none, some (.int a2), some (.int a3), some (.int v7), some (.int s5.2.1), some (.int s5.2.2.1), some (.int s5.2.2.2.1), some (.int v8), none]) dX10_drift_80 rfl (by decide) rfl) ?_
            refine im_st (r_aload_n (i := 0) dX10_drift_82 rfl rfl rfl) ?_
            refine im_st (r_sipush (v := 164) dX10_drift_83 rfl kS_164) ?_
            refine im_st (r_iload (i := 8) dX10_drift_86 rfl rfl) ?_
            refine im_st (r_aload_n (i := 0) dX10_drift_88 rfl rfl rfl) ?_
            refine im_st (s_getI (tag := 10) (j := 1) dX10_drift_89 rfl fl_X10_129 rfl (Nat.le_of_ble_eq_true rfl) rfl) ?_
            refine im_app (Gm := fun (v9 : Int32) => Go M_X10_drift Q 0 0 92 [some (.ref 75), none, some (.int a2), some (.int a3), some (.int v7), some (.int s5.2.1), some (.int s5.2.2.1), some (.int s5.2.2.2.1), some (.int v8), none] [.int v9, .int v8, .int (164 : Int32), .ref 75] (mk s5.2.2.2.2 τ)) (fun v9 => ?_)
            refine im_grd (fun g10 => ?_)
            refine im_st (r_irem dX10_drift_92 rfl (nz_ne g10)) ?_
            refine im_st (r_iload (i := 8) dX10_drift_93 rfl rfl) ?_
            refine im_st (r_iconst (v := 4) dX10_drift_95 rfl kI_4) ?_
            refine im_st (r_idiv dX10_drift_96 rfl (by decide)) ?_
            refine im_st (r_bipush (v := 8) dX10_drift_97 rfl kB_8) ?_
            refine im_app (Gm := fun (v11 : Int32) => Go M_X10_drift Q 0 0 99 [some (.ref 75), none, some (.int a2), some (.int a3), some (.int v7), some (.int s5.2.1), some (.int s5.2.2.1), some (.int s5.2.2.2.1), some (.int v8), none] [.int (8 : Int32), .int v11, .int (v8 - v8 / v9 * v9), .int (164 : Int32), .ref 75] (mk s5.2.2.2.2 τ)) (fun v11 => ?_)
            refine im_st (r_irem dX10_drift_99 rfl (by decide)) ?_
            refine im_st (r_iconst (v := 0) dX10_drift_100 rfl kI_0) ?_
            refine im_bind (fun y12 hy12 => ?_)
            refine im_st (r_callV (as := [.int (164 : Int32), .int (v8 - v8 / v9 * v9), .int (v11 - v11 / (8 : Int32) * (8 : Int32)), .int (0 : Int32)]) (r := none) (kc1 := 0) (ks1 := 0) (st := []) (st1 := []) (e_X10_runsOn (164 : Int32) (v8 - v8 / v9 * v9) (v11 - v11 / (8 : Int32) * (8 : Int32)) (0 : Int32) s5.2.2.2.2 τ y12 hy12) mv_X10_runsOn lk_X10_164 ⟨by decide, by decide⟩ rfl (Nat.le_of_ble_eq_true rfl) (by decide) ⟨_, rfl, rfl⟩ ⟨by decide, by decide⟩ (Nat.le_of_ble_eq_true rfl) dX10_drift_101 rfl rfl rfl rfl rfl) ?_
            refine im_st (r_bipush (v := 10) dX10_drift_104 rfl kB_10) ?_
            refine im_st (r_iload (i := 8) dX10_drift_106 rfl rfl) ?_
            refine im_st (r_bipush (v := 32) dX10_drift_108 rfl kB_32) ?_
            refine im_st (r_idiv dX10_drift_110 rfl (by decide)) ?_
            refine im_st (r_bipush (v := 10) dX10_drift_111 rfl kB_10) ?_
            refine im_app (Gm := fun (v13 : Int32) => Go M_X10_drift Q 0 0 113 [some (.ref 75), none, some (.int a2), some (.int a3), some (.int v7), some (.int s5.2.1), some (.int s5.2.2.1), some (.int s5.2.2.2.1), some (.int v8), none] [.int (10 : Int32), .int v13, .int (10 : Int32)] (mk y12 τ)) (fun v13 => ?_)
            refine im_st (r_irem dX10_drift_113 rfl (by decide)) ?_
            refine im_st (r_imul dX10_drift_114 rfl) ?_
            refine im_st (r_iload (i := 8) dX10_drift_115 rfl rfl) ?_
            refine im_st (r_sipush (v := 320) dX10_drift_117 rfl kS_320) ?_
            refine im_st (r_idiv dX10_drift_120 rfl (by decide)) ?_
            refine im_st (r_bipush (v := 8) dX10_drift_121 rfl kB_8) ?_
            refine im_app (Gm := fun (v14 : Int32) => Go M_X10_drift Q 0 0 123 [some (.ref 75), none, some (.int a2), some (.int a3), some (.int v7), some (.int s5.2.1), some (.int s5.2.2.1), some (.int s5.2.2.2.1), some (.int v8), none] [.int (8 : Int32), .int v14, .int ((10 : Int32) * (v13 - v13 / (10 : Int32) * (10 : Int32)))] (mk y12 τ)) (fun v14 => ?_)
            refine im_st (r_irem dX10_drift_123 rfl (by decide)) ?_
            refine im_st (r_iadd dX10_drift_124 rfl) ?_
            refine im_app (Gm := fun (v15 : Int32) => Go M_X10_drift Q 0 0 125 [some (.ref 75), none, some (.int a2), some (.int a3), some (.int v7), some (.int s5.2.1), some (.int s5.2.2.1), some (.int s5.2.2.2.1), some (.int v8), none] [.int v15] (mk y12 τ)) (fun v15 => ?_)
            refine im_st (r_istore (i := 9) (L1 := [some (.ref 75), none, some (.int a2), some (.int a3), some (.int v7), some (.int s5.2.1), some (.int s5.2.2.1), some (.int s5.2.2.2.1), some (.int v8), some (.int v15)]) dX10_drift_125 rfl (by decide) rfl) ?_
            refine im_st (r_aload_n (i := 0) dX10_drift_127 rfl rfl rfl) ?_
            refine im_st (s_getI (tag := 10) (j := 16) dX10_drift_128 rfl fl_X10_145 rfl (Nat.le_of_ble_eq_true rfl) rfl) ?_
            refine im_st (r_bipush (v := -4) dX10_drift_131 rfl kB_m4) ?_
            refine im_seq (Gm := fun (j16 : (Int32 × Int32 × Sg)) => Go M_X10_drift Q 0 0 208 [some (.ref 75), none, some (.int a2), some (.int a3), some (.int v7), some (.int j16.1), some (.int j16.2.1), some (.int s5.2.2.2.1), none, none] [] (mk j16.2.2 τ)) ?_ (fun j16 => ?_)
            · refine im_br (r_icmp_eq (tgt := 208) dX10_drift_133 rfl (by decide)) (fun c17 => ?_) (fun c17 => ?_)
              · refine im_st (r_fgt (L1 := [some (.ref 75), none, some (.int a2), some (.int a3), some (.int v7), some (.int s5.2.1), some (.int s5.2.2.1), some (.int s5.2.2.2.1), none, none]) [8, 9] rfl) ?_
                exact im_ret id
              · refine im_st (r_iinc (i := 5) (x := s5.2.1) (v := (s5.2.1 + 1)) (L1 := [some (.ref 75), none, some (.int a2), some (.int a3), some (.int v7), some (.int (s5.2.1 + 1)), some (.int s5.2.2.1), some (.int s5.2.2.2.1), some (.int v8), some (.int v15)]) dX10_drift_136 rfl rfl rfl (by decide) rfl) ?_
                refine im_st (r_iload (i := 6) dX10_drift_139 rfl rfl) ?_
                refine im_st (r_aload_n (i := 0) dX10_drift_141 rfl rfl rfl) ?_
                refine im_st (s_getR (b := 76) (tag := 10) (j := 0) dX10_drift_142 rfl fl_X10_7 rfl (Nat.le_of_ble_eq_true rfl) rfl rfl) ?_
                refine im_st (r_sipush (v := 171) dX10_drift_145 rfl kS_171) ?_
                refine im_st (r_aload_n (i := 0) dX10_drift_148 rfl rfl rfl) ?_
                refine im_st (s_getI (tag := 10) (j := 16) dX10_drift_149 rfl fl_X10_145 rfl (Nat.le_of_ble_eq_true rfl) rfl) ?_
                refine im_st (r_iadd dX10_drift_152 rfl) ?_
                refine im_grd (fun g18 => ?_)
                refine im_st (s_iaload dX10_drift_153 rfl rfl (Nat.le_of_ble_eq_true rfl) (inR_in g18)) ?_
                refine im_seqT (Gm := fun (j19 : Int32) => Go M_X10_drift Q 0 0 162 [some (.ref 75), none, some (.int a2), some (.int a3), some (.int v7), some (.int (s5.2.1 + 1)), none, some (.int s5.2.2.2.1), none, some (.int v15)] [.int j19, .int s5.2.2.1] (mk y12 τ)) ?_ (fun j19 => ?_)
                · refine im_brS (r_if_ne (tgt := 161) dX10_drift_154 rfl (by decide)) (fun c20 => ?_) (fun c20 => ?_)
                  · refine im_st (r_iconst (v := 1) dX10_drift_157 rfl kI_1) ?_
                    refine im_st (r_goto (pc1 := 162) dX10_drift_158 (by decide)) ?_
                    refine im_st (r_fgt (L1 := [some (.ref 75), none, some (.int a2), some (.int a3), some (.int v7), some (.int (s5.2.1 + 1)), none, some (.int s5.2.2.2.1), none, some (.int v15)]) [6, 8] rfl) ?_
                    exact im_ret id
                  · refine im_st (r_iconst (v := 0) dX10_drift_161 rfl kI_0) ?_
                    refine im_st (r_fgt (L1 := [some (.ref 75), none, some (.int a2), some (.int a3), some (.int v7), some (.int (s5.2.1 + 1)), none, some (.int s5.2.2.2.1), none, some (.int v15)]) [6, 8] rfl) ?_
                    exact im_ret id
                refine im_st (r_iadd dX10_drift_162 rfl) ?_
                refine im_st (r_istore (i := 6) (L1 := [some (.ref 75), none, some (.int a2), some (.int a3), some (.int v7), some (.int (s5.2.1 + 1)), some (.int (s5.2.2.1 + j19)), some (.int s5.2.2.2.1), none, some (.int v15)]) dX10_drift_163 rfl (by decide) rfl) ?_
                refine im_st (r_aload_n (i := 0) dX10_drift_165 rfl rfl rfl) ?_
                refine im_st (s_getR (b := 76) (tag := 10) (j := 0) dX10_drift_166 rfl fl_X10_7 rfl (Nat.le_of_ble_eq_true rfl) rfl rfl) ?_
                refine im_st (r_sipush (v := 164) dX10_drift_169 rfl kS_164) ?_
                refine im_st (r_aload_n (i := 0) dX10_drift_172 rfl rfl rfl) ?_
                refine im_st (s_getI (tag := 10) (j := 16) dX10_drift_173 rfl fl_X10_145 rfl (Nat.le_of_ble_eq_true rfl) rfl) ?_
                refine im_st (r_iadd dX10_drift_176 rfl) ?_
                refine im_st (r_aload_n (i := 0) dX10_drift_177 rfl rfl rfl) ?_
                refine im_st (r_sipush (v := 164) dX10_drift_178 rfl kS_164) ?_
                refine im_st (r_iload (i := 9) dX10_drift_181 rfl rfl) ?_
                refine im_bind (fun y21 hy21 => ?_)
                refine im_st (r_callV (as := [.int (164 : Int32), .int v15]) (r := some (.int y21)) (kc1 := 0) (ks1 := 0) (st := [.int ((164 : Int32) + (y12 75 16)), .ref 76]) (st1 := [.int y21, .int ((164 : Int32) + (y12 75 16)), .ref 76]) (e_X10_isFreeOn (164 : Int32) v15 y12 τ y21 hy21) mv_X10_isFreeOn lk_X10_189 ⟨by decide, by decide⟩ rfl (Nat.le_of_ble_eq_true rfl) (by decide) ⟨_, rfl, rfl⟩ ⟨by decide, by decide⟩ (Nat.le_of_ble_eq_true rfl) dX10_drift_183 rfl rfl rfl rfl rfl) ?_
                refine im_seq (Gm := fun (j22 : Int32) => Go M_X10_drift Q 0 0 207 [some (.ref 75), none, some (.int a2), some (.int a3), some (.int v7), some (.int (s5.2.1 + 1)), some (.int (s5.2.2.1 + j19)), some (.int s5.2.2.2.1), none, none] [.int j22, .int ((164 : Int32) + (y12 75 16)), .ref 76] (mk y12 τ)) ?_ (fun j22 => ?_)
                · refine im_br (r_if_eq (tgt := 194) dX10_drift_186 rfl (by decide)) (fun c23 => ?_) (fun c23 => ?_)
                  · refine im_st (r_aload_n (i := 0) dX10_drift_194 rfl rfl rfl) ?_
                    refine im_st (s_getR (b := 76) (tag := 10) (j := 0) dX10_drift_195 rfl fl_X10_7 rfl (Nat.le_of_ble_eq_true rfl) rfl rfl) ?_
                    refine im_st (r_sipush (v := 164) dX10_drift_198 rfl kS_164) ?_
                    refine im_st (r_aload_n (i := 0) dX10_drift_201 rfl rfl rfl) ?_
                    refine im_st (s_getI (tag := 10) (j := 16) dX10_drift_202 rfl fl_X10_145 rfl (Nat.le_of_ble_eq_true rfl) rfl) ?_
                    refine im_st (r_iadd dX10_drift_205 rfl) ?_
                    refine im_grd (fun g24 => ?_)
                    refine im_st (s_iaload dX10_drift_206 rfl rfl (Nat.le_of_ble_eq_true rfl) (inR_in g24)) ?_
                    refine im_st (r_fgt (L1 := [some (.ref 75), none, some (.int a2), some (.int a3), some (.int v7), some (.int (s5.2.1 + 1)), some (.int (s5.2.2.1 + j19)), some (.int s5.2.2.2.1), none, none]) [9] rfl) ?_
                    exact im_ret id
                  · refine im_st (r_iload (i := 9) dX10_drift_189 rfl rfl) ?_
                    refine im_st (r_goto (pc1 := 207) dX10_drift_191 (by decide)) ?_
                    refine im_st (r_fgt (L1 := [some (.ref 75), none, some (.int a2), some (.int a3), some (.int v7), some (.int (s5.2.1 + 1)), some (.int (s5.2.2.1 + j19)), some (.int s5.2.2.2.1), none, none]) [9] rfl) ?_
                    exact im_ret id
                refine im_grd (fun g25 => ?_)
                refine im_st (s_iastore dX10_drift_207 rfl rfl (Nat.le_of_ble_eq_true rfl) (inR_in g25)) ?_
                exact im_ret id
            refine im_st (r_iinc (i := 7) (x := s5.2.2.2.1) (v := (s5.2.2.2.1 + 1)) (L1 := [some (.ref 75), none, some (.int a2), some (.int a3), some (.int v7), some (.int j16.1), some (.int j16.2.1), some (.int (s5.2.2.2.1 + 1)), none, none]) dX10_drift_208 rfl rfl rfl (by decide) rfl) ?_
            refine im_st (r_goto (pc1 := 54) dX10_drift_211 (by decide)) ?_
            exact im_ret id
        refine im_st (r_iload_n (i := 3) dX10_drift_214 rfl rfl rfl) ?_
        refine im_br (r_if_ne (tgt := 223) dX10_drift_215 rfl (by decide)) (fun c27 => ?_) (fun c27 => ?_)
        · refine im_st (r_iload (i := 5) dX10_drift_218 rfl rfl) ?_
          refine im_st (r_goto (pc1 := 225) dX10_drift_220 (by decide)) ?_
          exact im_ret (fun q => g_iret rfl rfl rfl dX10_drift_225 q)
        · refine im_st (r_iload (i := 6) dX10_drift_223 rfl rfl) ?_
          exact im_ret (fun q => g_iret rfl rfl rfl dX10_drift_225 q)
theorem e_X10_drift (a1 : Int32) (a2 : Int32) (a3 : Int32) (σ : Sg) (τ : Sl) (y : (Int32 × Sg)) (hy : f_X10_drift a1 a2 a3 σ = some y) : EvD M_X10_drift [.ref 75, .int a1, .int a2, .int a3] (mk σ τ) (some (.int y.1)) (mk y.2 τ) := EvM.of (by decide +kernel) (Nat.le_of_ble_eq_true rfl) (i_X10_drift a1 a2 a3 σ τ _ y hy ⟨rfl, rfl⟩)
def M_X10_keep : Ms := (yX10_keep, cX10_keep, 3, some .int, 1, 25, 0, 0)
theorem mv_X10_keep : MV M_X10_keep 1 := ⟨⟨q1374, q12, by decide, by decide, by decide +kernel⟩, q1372, q1373⟩
def f_X10_keep (a1 : Int32) (σ : Sg) : Option (Int32 × Sg) :=
  if (f_X10_in (a1.toInt64) (0 : Int64) (1 : Int64)) = 0 then
    some ((-1 : Int32), σ)
  else
    (f_X10_copies (0 : Int32) ((41 : Int32) * (a1 + (1 : Int32))) σ).bind fun (y2 : Sg) =>
    if inR a1 2 then
    app (if (y2 84 a1.toNatClampNeg) = 0 then
      (0 : Int32)
    else
      (1 : Int32)) fun (j4 : Int32) =>
    if inR a1 2 then
    some (j4, (up2 y2 84 a1.toNatClampNeg (1 : Int32)))
    else none
    else none
set_option maxHeartbeats 4000000 in
set_option maxRecDepth 20000 in
theorem i_X10_keep (a1 : Int32) (σ : Sg) (τ : Sl) (Q : Option Value → Hp → Prop) : Imp (f_X10_keep a1 σ) (fun (y : (Int32 × Sg)) => Q (some (.int y.1)) (mk y.2 τ)) (Go M_X10_keep Q 0 0 0 [some (.ref 75), some (.int a1), none] [] (mk σ τ)) := by
  unfold f_X10_keep
  refine im_st (r_iload_n (i := 1) dX10_keep_0 rfl rfl rfl) ?_
  refine im_st (r_i2l (v := a1.toInt64) dX10_keep_1 rfl rfl) ?_
  refine im_st (r_lconst (v := 0) dX10_keep_2 rfl rfl) ?_
  refine im_st (r_lconst (v := 1) dX10_keep_3 rfl rfl) ?_
  refine im_st (r_callS (as := [.long (a1.toInt64), .long (0 : Int64), .long (1 : Int64)]) (r := some (.int (f_X10_in (a1.toInt64) (0 : Int64) (1 : Int64)))) (kc1 := 0) (ks1 := 0) (st := []) (st1 := [.int (f_X10_in (a1.toInt64) (0 : Int64) (1 : Int64))]) (e_X10_in (a1.toInt64) (0 : Int64) (1 : Int64) σ τ) ms_X10_in lk_X10_49 ⟨by decide, by decide⟩ ⟨by decide, by decide⟩ (Nat.le_of_ble_eq_true rfl) dX10_keep_4 rfl rfl rfl rfl rfl) ?_
  refine im_br (r_if_ne (tgt := 12) dX10_keep_7 rfl (by decide)) (fun c1 => ?_) (fun c1 => ?_)
  · refine im_st (r_iconst (v := -1) dX10_keep_10 rfl kI_m1) ?_
    exact im_ret (fun q => g_iret rfl rfl rfl dX10_keep_11 q)
  · refine im_st (r_aload_n (i := 0) dX10_keep_12 rfl rfl rfl) ?_
    refine im_st (r_iconst (v := 0) dX10_keep_13 rfl kI_0) ?_
    refine im_st (r_bipush (v := 41) dX10_keep_14 rfl kB_41) ?_
    refine im_st (r_iload_n (i := 1) dX10_keep_16 rfl rfl rfl) ?_
    refine im_st (r_iconst (v := 1) dX10_keep_17 rfl kI_1) ?_
    refine im_st (r_iadd dX10_keep_18 rfl) ?_
    refine im_st (r_imul dX10_keep_19 rfl) ?_
    refine im_bind (fun y2 hy2 => ?_)
    refine im_st (r_callV (as := [.int (0 : Int32), .int ((41 : Int32) * (a1 + (1 : Int32)))]) (r := none) (kc1 := 0) (ks1 := 0) (st := []) (st1 := []) (e_X10_copies (0 : Int32) ((41 : Int32) * (a1 + (1 : Int32))) σ τ y2 hy2) mv_X10_copies lk_X10_218 ⟨by decide, by decide⟩ rfl (Nat.le_of_ble_eq_true rfl) (by decide) ⟨_, rfl, rfl⟩ ⟨by decide, by decide⟩ (Nat.le_of_ble_eq_true rfl) dX10_keep_20 rfl rfl rfl rfl rfl) ?_
    refine im_st (r_aload_n (i := 0) dX10_keep_23 rfl rfl rfl) ?_
    refine im_st (s_getR (b := 84) (tag := 10) (j := 24) dX10_keep_24 rfl fl_X10_34 rfl (Nat.le_of_ble_eq_true rfl) rfl rfl) ?_
    refine im_st (r_iload_n (i := 1) dX10_keep_27 rfl rfl rfl) ?_
    refine im_grd (fun g3 => ?_)
    refine im_st (s_zaload dX10_keep_28 rfl rfl (Nat.le_of_ble_eq_true rfl) (inR_in g3)) ?_
    refine im_seqT (Gm := fun (j4 : Int32) => Go M_X10_keep Q 0 0 37 [some (.ref 75), some (.int a1), none] [.int j4] (mk y2 τ)) ?_ (fun j4 => ?_)
    · refine im_brS (r_if_eq (tgt := 36) dX10_keep_29 rfl (by decide)) (fun c5 => ?_) (fun c5 => ?_)
      · refine im_st (r_iconst (v := 0) dX10_keep_36 rfl kI_0) ?_
        exact im_ret id
      · refine im_st (r_iconst (v := 1) dX10_keep_32 rfl kI_1) ?_
        refine im_st (r_goto (pc1 := 37) dX10_keep_33 (by decide)) ?_
        exact im_ret id
    refine im_st (r_istore_n (i := 2) (L1 := [some (.ref 75), some (.int a1), some (.int j4)]) dX10_keep_37 rfl rfl (by decide) rfl) ?_
    refine im_st (r_aload_n (i := 0) dX10_keep_38 rfl rfl rfl) ?_
    refine im_st (s_getR (b := 84) (tag := 10) (j := 24) dX10_keep_39 rfl fl_X10_34 rfl (Nat.le_of_ble_eq_true rfl) rfl rfl) ?_
    refine im_st (r_iload_n (i := 1) dX10_keep_42 rfl rfl rfl) ?_
    refine im_st (r_iconst (v := 1) dX10_keep_43 rfl kI_1) ?_
    refine im_grd (fun g6 => ?_)
    refine im_st (s_zastore dX10_keep_44 rfl rfl (Nat.le_of_ble_eq_true rfl) (inR_in g6) rfl) ?_
    refine im_st (r_iload_n (i := 2) dX10_keep_45 rfl rfl rfl) ?_
    exact im_ret (fun q => g_iret rfl rfl rfl dX10_keep_46 q)
theorem e_X10_keep (a1 : Int32) (σ : Sg) (τ : Sl) (y : (Int32 × Sg)) (hy : f_X10_keep a1 σ = some y) : EvD M_X10_keep [.ref 75, .int a1] (mk σ τ) (some (.int y.1)) (mk y.2 τ) := EvM.of (by decide +kernel) (Nat.le_of_ble_eq_true rfl) (i_X10_keep a1 σ τ _ y hy ⟨rfl, rfl⟩)
def M_X10_back : Ms := (yX10_back, cX10_back, 2, some .int, 4, 102, 0, 0)
theorem mv_X10_back : MV M_X10_back 1 := ⟨⟨q1378, q12, by decide, by decide, by decide +kernel⟩, q1376, q1377⟩
def f_X10_back (a1 : Int32) (σ : Sg) : Option (Int32 × Sg) :=
  if (f_X10_in (a1.toInt64) (0 : Int64) (1 : Int64)) = 0 then
    some ((-1 : Int32), σ)
  else
    if inR a1 2 then
    if (σ 84 a1.toNatClampNeg) = 0 then
      some ((-2 : Int32), σ)
    else
      (f_X10_copies ((41 : Int32) * (a1 + (1 : Int32))) (0 : Int32) σ).bind fun (y4 : Sg) =>
      (f_X10_winsOn (0 : Int32) (-4 : Int32) y4).bind fun (y5 : (Int32 × Sg)) =>
      (f_X10_bitsOf y5.1).bind fun (y6 : Int32) =>
      some (y6, y5.2)
    else none
set_option maxHeartbeats 4000000 in
set_option maxRecDepth 20000 in
theorem i_X10_back (a1 : Int32) (σ : Sg) (τ : Sl) (Q : Option Value → Hp → Prop) : Imp (f_X10_back a1 σ) (fun (y : (Int32 × Sg)) => Q (some (.int y.1)) (mk y.2 τ)) (Go M_X10_back Q 0 0 0 [some (.ref 75), some (.int a1)] [] (mk σ τ)) := by
  unfold f_X10_back
  refine im_st (r_iload_n (i := 1) dX10_back_0 rfl rfl rfl) ?_
  refine im_st (r_i2l (v := a1.toInt64) dX10_back_1 rfl rfl) ?_
  refine im_st (r_lconst (v := 0) dX10_back_2 rfl rfl) ?_
  refine im_st (r_lconst (v := 1) dX10_back_3 rfl rfl) ?_
  refine im_st (r_callS (as := [.long (a1.toInt64), .long (0 : Int64), .long (1 : Int64)]) (r := some (.int (f_X10_in (a1.toInt64) (0 : Int64) (1 : Int64)))) (kc1 := 0) (ks1 := 0) (st := []) (st1 := [.int (f_X10_in (a1.toInt64) (0 : Int64) (1 : Int64))]) (e_X10_in (a1.toInt64) (0 : Int64) (1 : Int64) σ τ) ms_X10_in lk_X10_49 ⟨by decide, by decide⟩ ⟨by decide, by decide⟩ (Nat.le_of_ble_eq_true rfl) dX10_back_4 rfl rfl rfl rfl rfl) ?_
  refine im_br (r_if_ne (tgt := 12) dX10_back_7 rfl (by decide)) (fun c1 => ?_) (fun c1 => ?_)
  · refine im_st (r_iconst (v := -1) dX10_back_10 rfl kI_m1) ?_
    exact im_ret (fun q => g_iret rfl rfl rfl dX10_back_11 q)
  · refine im_st (r_aload_n (i := 0) dX10_back_12 rfl rfl rfl) ?_
    refine im_st (s_getR (b := 84) (tag := 10) (j := 24) dX10_back_13 rfl fl_X10_34 rfl (Nat.le_of_ble_eq_true rfl) rfl rfl) ?_
    refine im_st (r_iload_n (i := 1) dX10_back_16 rfl rfl rfl) ?_
    refine im_grd (fun g2 => ?_)
    refine im_st (s_zaload dX10_back_17 rfl rfl (Nat.le_of_ble_eq_true rfl) (inR_in g2)) ?_
    refine im_br (r_if_ne (tgt := 24) dX10_back_18 rfl (by decide)) (fun c3 => ?_) (fun c3 => ?_)
    · refine im_st (r_bipush (v := -2) dX10_back_21 rfl kB_m2) ?_
      exact im_ret (fun q => g_iret rfl rfl rfl dX10_back_23 q)
    · refine im_st (r_aload_n (i := 0) dX10_back_24 rfl rfl rfl) ?_
      refine im_st (r_bipush (v := 41) dX10_back_25 rfl kB_41) ?_
      refine im_st (r_iload_n (i := 1) dX10_back_27 rfl rfl rfl) ?_
      refine im_st (r_iconst (v := 1) dX10_back_28 rfl kI_1) ?_
      refine im_st (r_iadd dX10_back_29 rfl) ?_
      refine im_st (r_imul dX10_back_30 rfl) ?_
      refine im_st (r_iconst (v := 0) dX10_back_31 rfl kI_0) ?_
      refine im_bind (fun y4 hy4 => ?_)
      refine im_st (r_callV (as := [.int ((41 : Int32) * (a1 + (1 : Int32))), .int (0 : Int32)]) (r := none) (kc1 := 0) (ks1 := 0) (st := []) (st1 := []) (e_X10_copies ((41 : Int32) * (a1 + (1 : Int32))) (0 : Int32) σ τ y4 hy4) mv_X10_copies lk_X10_218 ⟨by decide, by decide⟩ rfl (Nat.le_of_ble_eq_true rfl) (by decide) ⟨_, rfl, rfl⟩ ⟨by decide, by decide⟩ (Nat.le_of_ble_eq_true rfl) dX10_back_32 rfl rfl rfl rfl rfl) ?_
      refine im_st (r_aload_n (i := 0) dX10_back_35 rfl rfl rfl) ?_
      refine im_st (r_iconst (v := 0) dX10_back_36 rfl kI_0) ?_
      refine im_st (r_bipush (v := -4) dX10_back_37 rfl kB_m4) ?_
      refine im_bind (fun y5 hy5 => ?_)
      refine im_st (r_callV (as := [.int (0 : Int32), .int (-4 : Int32)]) (r := some (.int y5.1)) (kc1 := 0) (ks1 := 0) (st := []) (st1 := [.int y5.1]) (e_X10_winsOn (0 : Int32) (-4 : Int32) y4 τ y5 hy5) mv_X10_winsOn lk_X10_172 ⟨by decide, by decide⟩ rfl (Nat.le_of_ble_eq_true rfl) (by decide) ⟨_, rfl, rfl⟩ ⟨by decide, by decide⟩ (Nat.le_of_ble_eq_true rfl) dX10_back_39 rfl rfl rfl rfl rfl) ?_
      refine im_bind (fun y6 hy6 => ?_)
      refine im_st (r_callS (as := [.int y5.1]) (r := some (.int y6)) (kc1 := 0) (ks1 := 0) (st := []) (st1 := [.int y6]) (e_X10_bitsOf y5.1 y5.2 τ y6 hy6) ms_X10_bitsOf lk_X10_221 ⟨by decide, by decide⟩ ⟨by decide, by decide⟩ (Nat.le_of_ble_eq_true rfl) dX10_back_42 rfl rfl rfl rfl rfl) ?_
      exact im_ret (fun q => g_iret rfl rfl rfl dX10_back_45 q)
theorem e_X10_back (a1 : Int32) (σ : Sg) (τ : Sl) (y : (Int32 × Sg)) (hy : f_X10_back a1 σ = some y) : EvD M_X10_back [.ref 75, .int a1] (mk σ τ) (some (.int y.1)) (mk y.2 τ) := EvM.of (by decide +kernel) (Nat.le_of_ble_eq_true rfl) (i_X10_back a1 σ τ _ y hy ⟨rfl, rfl⟩)
def M_X10_sheet : Ms := (yX10_sheet, cX10_sheet, 5, some .int, 1, 25, 0, 0)
theorem mv_X10_sheet : MV M_X10_sheet 3 := ⟨⟨q1382, q12, by decide, by decide, by decide +kernel⟩, q1380, q1381⟩
def b_X10_sheet_56 (a1 : Int32) : (Int32 × Sg) → Option ((Int32 × Sg) ⊕ (Int32 × Sg)) := fun (s9 : (Int32 × Sg)) =>
  if (40 : Int32) ≤ s9.1 then
    some (.inr (s9.1, s9.2))
  else
    if inR (((40 : Int32) * a1) + s9.1) 160 then
    some (.inl ((s9.1 + 1), (up2 s9.2 87 (((40 : Int32) * a1) + s9.1).toNatClampNeg (0 : Int32))))
    else none
def f_X10_sheet (a1 : Int32) (a2 : Int32) (a3 : Int32) (σ : Sg) : Option (Int32 × Sg) :=
  if (f_X10_in (a1.toInt64) (0 : Int64) (3 : Int64)) = 0 then
    some ((-1 : Int32), σ)
  else
    if (f_X10_in (a2.toInt64) (0 : Int64) (2 : Int64)) = 0 then
      some ((-1 : Int32), σ)
    else
      if a3 ≤ (40 : Int32) then
        if 0 ≤ a3 then
          if inR a1 4 then
          app (up2 σ 85 a1.toNatClampNeg a2) fun (σ6 : Sg) =>
          if inR a1 4 then
          app (up2 σ6 86 a1.toNatClampNeg a3) fun (σ8 : Sg) =>
          (wh (b_X10_sheet_56 a1) 4096 ((0 : Int32), σ8)).bind fun (e12 : (Int32 × Sg)) =>
          some ((1 : Int32), e12.2)
          else none
          else none
        else
          some ((-14 : Int32), σ)
      else
        some ((-1 : Int32), σ)
set_option maxHeartbeats 4000000 in
set_option maxRecDepth 20000 in
theorem i_X10_sheet (a1 : Int32) (a2 : Int32) (a3 : Int32) (σ : Sg) (τ : Sl) (Q : Option Value → Hp → Prop) : Imp (f_X10_sheet a1 a2 a3 σ) (fun (y : (Int32 × Sg)) => Q (some (.int y.1)) (mk y.2 τ)) (Go M_X10_sheet Q 0 0 0 [some (.ref 75), some (.int a1), some (.int a2), some (.int a3), none] [] (mk σ τ)) := by
  unfold f_X10_sheet
  refine im_st (r_iload_n (i := 1) dX10_sheet_0 rfl rfl rfl) ?_
  refine im_st (r_i2l (v := a1.toInt64) dX10_sheet_1 rfl rfl) ?_
  refine im_st (r_lconst (v := 0) dX10_sheet_2 rfl rfl) ?_
  refine im_st (r_ldc2 (v := 3) dX10_sheet_3 rfl q1191) ?_
  refine im_st (r_callS (as := [.long (a1.toInt64), .long (0 : Int64), .long (3 : Int64)]) (r := some (.int (f_X10_in (a1.toInt64) (0 : Int64) (3 : Int64)))) (kc1 := 0) (ks1 := 0) (st := []) (st1 := [.int (f_X10_in (a1.toInt64) (0 : Int64) (3 : Int64))]) (e_X10_in (a1.toInt64) (0 : Int64) (3 : Int64) σ τ) ms_X10_in lk_X10_49 ⟨by decide, by decide⟩ ⟨by decide, by decide⟩ (Nat.le_of_ble_eq_true rfl) dX10_sheet_6 rfl rfl rfl rfl rfl) ?_
  refine im_br (r_if_eq (tgt := 30) dX10_sheet_9 rfl (by decide)) (fun c1 => ?_) (fun c1 => ?_)
  · refine im_st (r_iconst (v := -1) dX10_sheet_30 rfl kI_m1) ?_
    exact im_ret (fun q => g_iret rfl rfl rfl dX10_sheet_31 q)
  · refine im_st (r_iload_n (i := 2) dX10_sheet_12 rfl rfl rfl) ?_
    refine im_st (r_i2l (v := a2.toInt64) dX10_sheet_13 rfl rfl) ?_
    refine im_st (r_lconst (v := 0) dX10_sheet_14 rfl rfl) ?_
    refine im_st (r_ldc2 (v := 2) dX10_sheet_15 rfl q1178) ?_
    refine im_st (r_callS (as := [.long (a2.toInt64), .long (0 : Int64), .long (2 : Int64)]) (r := some (.int (f_X10_in (a2.toInt64) (0 : Int64) (2 : Int64)))) (kc1 := 0) (ks1 := 0) (st := []) (st1 := [.int (f_X10_in (a2.toInt64) (0 : Int64) (2 : Int64))]) (e_X10_in (a2.toInt64) (0 : Int64) (2 : Int64) σ τ) ms_X10_in lk_X10_49 ⟨by decide, by decide⟩ ⟨by decide, by decide⟩ (Nat.le_of_ble_eq_true rfl) dX10_sheet_18 rfl rfl rfl rfl rfl) ?_
    refine im_br (r_if_eq (tgt := 30) dX10_sheet_21 rfl (by decide)) (fun c2 => ?_) (fun c2 => ?_)
    · refine im_st (r_iconst (v := -1) dX10_sheet_30 rfl kI_m1) ?_
      exact im_ret (fun q => g_iret rfl rfl rfl dX10_sheet_31 q)
    · refine im_st (r_iload_n (i := 3) dX10_sheet_24 rfl rfl rfl) ?_
      refine im_st (r_bipush (v := 40) dX10_sheet_25 rfl kB_40) ?_
      refine im_br (r_icmp_le (tgt := 32) dX10_sheet_27 rfl (by decide)) (fun c3 => ?_) (fun c3 => ?_)
      · refine im_st (r_iload_n (i := 3) dX10_sheet_32 rfl rfl rfl) ?_
        refine im_br (r_if_ge (tgt := 39) dX10_sheet_33 rfl (by decide)) (fun c4 => ?_) (fun c4 => ?_)
        · refine im_st (r_aload_n (i := 0) dX10_sheet_39 rfl rfl rfl) ?_
          refine im_st (s_getR (b := 85) (tag := 10) (j := 25) dX10_sheet_40 rfl fl_X10_38 rfl (Nat.le_of_ble_eq_true rfl) rfl rfl) ?_
          refine im_st (r_iload_n (i := 1) dX10_sheet_43 rfl rfl rfl) ?_
          refine im_st (r_iload_n (i := 2) dX10_sheet_44 rfl rfl rfl) ?_
          refine im_grd (fun g5 => ?_)
          refine im_st (s_iastore dX10_sheet_45 rfl rfl (Nat.le_of_ble_eq_true rfl) (inR_in g5)) ?_
          refine im_st (r_aload_n (i := 0) dX10_sheet_46 rfl rfl rfl) ?_
          refine im_st (s_getR (b := 86) (tag := 10) (j := 26) dX10_sheet_47 rfl fl_X10_41 rfl (Nat.le_of_ble_eq_true rfl) rfl rfl) ?_
          refine im_st (r_iload_n (i := 1) dX10_sheet_50 rfl rfl rfl) ?_
          refine im_st (r_iload_n (i := 3) dX10_sheet_51 rfl rfl rfl) ?_
          refine im_app (Gm := fun (σ6 : Sg) => Go M_X10_sheet Q 0 0 52 [some (.ref 75), some (.int a1), some (.int a2), some (.int a3), none] [.int a3, .int a1, .ref 86] (mk σ6 τ)) (fun σ6 => ?_)
          refine im_grd (fun g7 => ?_)
          refine im_st (s_iastore dX10_sheet_52 rfl rfl (Nat.le_of_ble_eq_true rfl) (inR_in g7)) ?_
          refine im_st (r_iconst (v := 0) dX10_sheet_53 rfl kI_0) ?_
          refine im_st (r_istore (i := 4) (L1 := [some (.ref 75), some (.int a1), some (.int a2), some (.int a3), some (.int (0 : Int32))]) dX10_sheet_54 rfl (by decide) rfl) ?_
          refine im_app (Gm := fun (σ8 : Sg) => Go M_X10_sheet Q 0 0 56 [some (.ref 75), some (.int a1), some (.int a2), some (.int a3), some (.int (0 : Int32))] [] (mk σ8 τ)) (fun σ8 => ?_)
          refine im_st (r_fgt (L1 := [some (.ref 75), some (.int a1), none, none, some (.int (0 : Int32))]) [2, 3] rfl) ?_
          refine im_seq (Gm := fun (e12 : (Int32 × Sg)) => Go M_X10_sheet Q 0 0 82 [none, none, none, none, none] [] (mk e12.2 τ)) ?_ (fun e12 => ?_)
          · refine im_wh (G := fun (s9 : (Int32 × Sg)) => Go M_X10_sheet Q 0 0 56 [some (.ref 75), some (.int a1), none, none, some (.int s9.1)] [] (mk s9.2 τ)) (fun s9 => ?_) _ _
            unfold b_X10_sheet_56
            refine im_st (r_iload (i := 4) dX10_sheet_56 rfl rfl) ?_
            refine im_st (r_bipush (v := 40) dX10_sheet_58 rfl kB_40) ?_
            refine im_br (r_icmp_ge (tgt := 82) dX10_sheet_60 rfl (by decide)) (fun c10 => ?_) (fun c10 => ?_)
            · refine im_st (r_fgt (L1 := [none, none, none, none, none]) [0, 1, 4] rfl) ?_
              exact im_ret id
            · refine im_st (r_aload_n (i := 0) dX10_sheet_63 rfl rfl rfl) ?_
              refine im_st (s_getR (b := 87) (tag := 10) (j := 27) dX10_sheet_64 rfl fl_X10_44 rfl (Nat.le_of_ble_eq_true rfl) rfl rfl) ?_
              refine im_st (r_bipush (v := 40) dX10_sheet_67 rfl kB_40) ?_
              refine im_st (r_iload_n (i := 1) dX10_sheet_69 rfl rfl rfl) ?_
              refine im_st (r_imul dX10_sheet_70 rfl) ?_
              refine im_st (r_iload (i := 4) dX10_sheet_71 rfl rfl) ?_
              refine im_st (r_iadd dX10_sheet_73 rfl) ?_
              refine im_st (r_iconst (v := 0) dX10_sheet_74 rfl kI_0) ?_
              refine im_grd (fun g11 => ?_)
              refine im_st (s_iastore dX10_sheet_75 rfl rfl (Nat.le_of_ble_eq_true rfl) (inR_in g11)) ?_
              refine im_st (r_iinc (i := 4) (x := s9.1) (v := (s9.1 + 1)) (L1 := [some (.ref 75), some (.int a1), none, none, some (.int (s9.1 + 1))]) dX10_sheet_76 rfl rfl rfl (by decide) rfl) ?_
              refine im_st (r_goto (pc1 := 56) dX10_sheet_79 (by decide)) ?_
              exact im_ret id
          refine im_st (r_iconst (v := 1) dX10_sheet_82 rfl kI_1) ?_
          exact im_ret (fun q => g_iret rfl rfl rfl dX10_sheet_83 q)
        · refine im_st (r_bipush (v := -14) dX10_sheet_36 rfl kB_m14) ?_
          exact im_ret (fun q => g_iret rfl rfl rfl dX10_sheet_38 q)
      · refine im_st (r_iconst (v := -1) dX10_sheet_30 rfl kI_m1) ?_
        exact im_ret (fun q => g_iret rfl rfl rfl dX10_sheet_31 q)
theorem e_X10_sheet (a1 : Int32) (a2 : Int32) (a3 : Int32) (σ : Sg) (τ : Sl) (y : (Int32 × Sg)) (hy : f_X10_sheet a1 a2 a3 σ = some y) : EvD M_X10_sheet [.ref 75, .int a1, .int a2, .int a3] (mk σ τ) (some (.int y.1)) (mk y.2 τ) := EvM.of (by decide +kernel) (Nat.le_of_ble_eq_true rfl) (i_X10_sheet a1 a2 a3 σ τ _ y hy ⟨rfl, rfl⟩)
def M_X10_write : Ms := (yX10_write, cX10_write, 4, some .int, 1, 25, 0, 0)
theorem mv_X10_write : MV M_X10_write 3 := ⟨⟨q1386, q12, by decide, by decide, by decide +kernel⟩, q1384, q1385⟩
def f_X10_write (a1 : Int32) (a2 : Int32) (a3 : Int32) (σ : Sg) : Option (Int32 × Sg) :=
  if (f_X10_in (a1.toInt64) (0 : Int64) (3 : Int64)) = 0 then
    some ((-1 : Int32), σ)
  else
    if inR a1 4 then
    if (σ 85 a1.toNatClampNeg) = (-4 : Int32) then
      some ((-11 : Int32), σ)
    else
      if inR a1 4 then
      if (f_X10_in (a2.toInt64) (0 : Int64) (((σ 86 a1.toNatClampNeg) - (1 : Int32)).toInt64)) = 0 then
        some ((-12 : Int32), σ)
      else
        if inR a1 4 then
        (if (σ 85 a1.toNatClampNeg) = 0 then
          some ((a3 <<< ((24 : Int32) &&& 31)) >>> ((24 : Int32) &&& 31))
        else
          if inR a1 4 then
          if (σ 85 a1.toNatClampNeg) = (1 : Int32) then
            some ((a3 <<< ((16 : Int32) &&& 31)) >>> ((16 : Int32) &&& 31))
          else
            some a3
          else none).bind fun (j7 : Int32) =>
        if inR (((40 : Int32) * a1) + a2) 160 then
        some ((1 : Int32), (up2 σ 87 (((40 : Int32) * a1) + a2).toNatClampNeg j7))
        else none
        else none
      else none
    else none
set_option maxHeartbeats 4000000 in
set_option maxRecDepth 20000 in
theorem i_X10_write (a1 : Int32) (a2 : Int32) (a3 : Int32) (σ : Sg) (τ : Sl) (Q : Option Value → Hp → Prop) : Imp (f_X10_write a1 a2 a3 σ) (fun (y : (Int32 × Sg)) => Q (some (.int y.1)) (mk y.2 τ)) (Go M_X10_write Q 0 0 0 [some (.ref 75), some (.int a1), some (.int a2), some (.int a3)] [] (mk σ τ)) := by
  unfold f_X10_write
  refine im_st (r_iload_n (i := 1) dX10_write_0 rfl rfl rfl) ?_
  refine im_st (r_i2l (v := a1.toInt64) dX10_write_1 rfl rfl) ?_
  refine im_st (r_lconst (v := 0) dX10_write_2 rfl rfl) ?_
  refine im_st (r_ldc2 (v := 3) dX10_write_3 rfl q1191) ?_
  refine im_st (r_callS (as := [.long (a1.toInt64), .long (0 : Int64), .long (3 : Int64)]) (r := some (.int (f_X10_in (a1.toInt64) (0 : Int64) (3 : Int64)))) (kc1 := 0) (ks1 := 0) (st := []) (st1 := [.int (f_X10_in (a1.toInt64) (0 : Int64) (3 : Int64))]) (e_X10_in (a1.toInt64) (0 : Int64) (3 : Int64) σ τ) ms_X10_in lk_X10_49 ⟨by decide, by decide⟩ ⟨by decide, by decide⟩ (Nat.le_of_ble_eq_true rfl) dX10_write_6 rfl rfl rfl rfl rfl) ?_
  refine im_br (r_if_ne (tgt := 14) dX10_write_9 rfl (by decide)) (fun c1 => ?_) (fun c1 => ?_)
  · refine im_st (r_iconst (v := -1) dX10_write_12 rfl kI_m1) ?_
    exact im_ret (fun q => g_iret rfl rfl rfl dX10_write_13 q)
  · refine im_st (r_aload_n (i := 0) dX10_write_14 rfl rfl rfl) ?_
    refine im_st (s_getR (b := 85) (tag := 10) (j := 25) dX10_write_15 rfl fl_X10_38 rfl (Nat.le_of_ble_eq_true rfl) rfl rfl) ?_
    refine im_st (r_iload_n (i := 1) dX10_write_18 rfl rfl rfl) ?_
    refine im_grd (fun g2 => ?_)
    refine im_st (s_iaload dX10_write_19 rfl rfl (Nat.le_of_ble_eq_true rfl) (inR_in g2)) ?_
    refine im_st (r_bipush (v := -4) dX10_write_20 rfl kB_m4) ?_
    refine im_br (r_icmp_ne (tgt := 28) dX10_write_22 rfl (by decide)) (fun c3 => ?_) (fun c3 => ?_)
    · refine im_st (r_bipush (v := -11) dX10_write_25 rfl kB_m11) ?_
      exact im_ret (fun q => g_iret rfl rfl rfl dX10_write_27 q)
    · refine im_st (r_iload_n (i := 2) dX10_write_28 rfl rfl rfl) ?_
      refine im_st (r_i2l (v := a2.toInt64) dX10_write_29 rfl rfl) ?_
      refine im_st (r_lconst (v := 0) dX10_write_30 rfl rfl) ?_
      refine im_st (r_aload_n (i := 0) dX10_write_31 rfl rfl rfl) ?_
      refine im_st (s_getR (b := 86) (tag := 10) (j := 26) dX10_write_32 rfl fl_X10_41 rfl (Nat.le_of_ble_eq_true rfl) rfl rfl) ?_
      refine im_st (r_iload_n (i := 1) dX10_write_35 rfl rfl rfl) ?_
      refine im_grd (fun g4 => ?_)
      refine im_st (s_iaload dX10_write_36 rfl rfl (Nat.le_of_ble_eq_true rfl) (inR_in g4)) ?_
      refine im_st (r_iconst (v := 1) dX10_write_37 rfl kI_1) ?_
      refine im_st (r_isub dX10_write_38 rfl) ?_
      refine im_st (r_i2l (v := ((σ 86 a1.toNatClampNeg) - (1 : Int32)).toInt64) dX10_write_39 rfl rfl) ?_
      refine im_st (r_callS (as := [.long (a2.toInt64), .long (0 : Int64), .long (((σ 86 a1.toNatClampNeg) - (1 : Int32)).toInt64)]) (r := some (.int (f_X10_in (a2.toInt64) (0 : Int64) (((σ 86 a1.toNatClampNeg) - (1 : Int32)).toInt64)))) (kc1 := 0) (ks1 := 0) (st := []) (st1 := [.int (f_X10_in (a2.toInt64) (0 : Int64) (((σ 86 a1.toNatClampNeg) - (1 : Int32)).toInt64))]) (e_X10_in (a2.toInt64) (0 : Int64) (((σ 86 a1.toNatClampNeg) - (1 : Int32)).toInt64) σ τ) ms_X10_in lk_X10_49 ⟨by decide, by decide⟩ ⟨by decide, by decide⟩ (Nat.le_of_ble_eq_true rfl) dX10_write_40 rfl rfl rfl rfl rfl) ?_
      refine im_br (r_if_ne (tgt := 49) dX10_write_43 rfl (by decide)) (fun c5 => ?_) (fun c5 => ?_)
      · refine im_st (r_bipush (v := -12) dX10_write_46 rfl kB_m12) ?_
        exact im_ret (fun q => g_iret rfl rfl rfl dX10_write_48 q)
      · refine im_st (r_aload_n (i := 0) dX10_write_49 rfl rfl rfl) ?_
        refine im_st (s_getR (b := 87) (tag := 10) (j := 27) dX10_write_50 rfl fl_X10_44 rfl (Nat.le_of_ble_eq_true rfl) rfl rfl) ?_
        refine im_st (r_bipush (v := 40) dX10_write_53 rfl kB_40) ?_
        refine im_st (r_iload_n (i := 1) dX10_write_55 rfl rfl rfl) ?_
        refine im_st (r_imul dX10_write_56 rfl) ?_
        refine im_st (r_iload_n (i := 2) dX10_write_57 rfl rfl rfl) ?_
        refine im_st (r_iadd dX10_write_58 rfl) ?_
        refine im_st (r_aload_n (i := 0) dX10_write_59 rfl rfl rfl) ?_
        refine im_st (s_getR (b := 85) (tag := 10) (j := 25) dX10_write_60 rfl fl_X10_38 rfl (Nat.le_of_ble_eq_true rfl) rfl rfl) ?_
        refine im_st (r_iload_n (i := 1) dX10_write_63 rfl rfl rfl) ?_
        refine im_grd (fun g6 => ?_)
        refine im_st (s_iaload dX10_write_64 rfl rfl (Nat.le_of_ble_eq_true rfl) (inR_in g6)) ?_
        refine im_seq (Gm := fun (j7 : Int32) => Go M_X10_write Q 0 0 99 [none, none, none, none] [.int j7, .int (((40 : Int32) * a1) + a2), .ref 87] (mk σ τ)) ?_ (fun j7 => ?_)
        · refine im_br (r_if_ne (tgt := 78) dX10_write_65 rfl (by decide)) (fun c8 => ?_) (fun c8 => ?_)
          · refine im_st (r_iload_n (i := 3) dX10_write_68 rfl rfl rfl) ?_
            refine im_st (r_bipush (v := 24) dX10_write_69 rfl kB_24) ?_
            refine im_st (r_ishl dX10_write_71 rfl) ?_
            refine im_st (r_bipush (v := 24) dX10_write_72 rfl kB_24) ?_
            refine im_st (r_ishr dX10_write_74 rfl) ?_
            refine im_st (r_goto (pc1 := 99) dX10_write_75 (by decide)) ?_
            refine im_st (r_fgt (L1 := [none, none, none, none]) [0, 1, 2, 3] rfl) ?_
            exact im_ret id
          · refine im_st (r_aload_n (i := 0) dX10_write_78 rfl rfl rfl) ?_
            refine im_st (s_getR (b := 85) (tag := 10) (j := 25) dX10_write_79 rfl fl_X10_38 rfl (Nat.le_of_ble_eq_true rfl) rfl rfl) ?_
            refine im_st (r_iload_n (i := 1) dX10_write_82 rfl rfl rfl) ?_
            refine im_grd (fun g9 => ?_)
            refine im_st (s_iaload dX10_write_83 rfl rfl (Nat.le_of_ble_eq_true rfl) (inR_in g9)) ?_
            refine im_st (r_iconst (v := 1) dX10_write_84 rfl kI_1) ?_
            refine im_br (r_icmp_ne (tgt := 98) dX10_write_85 rfl (by decide)) (fun c10 => ?_) (fun c10 => ?_)
            · refine im_st (r_iload_n (i := 3) dX10_write_88 rfl rfl rfl) ?_
              refine im_st (r_bipush (v := 16) dX10_write_89 rfl kB_16) ?_
              refine im_st (r_ishl dX10_write_91 rfl) ?_
              refine im_st (r_bipush (v := 16) dX10_write_92 rfl kB_16) ?_
              refine im_st (r_ishr dX10_write_94 rfl) ?_
              refine im_st (r_goto (pc1 := 99) dX10_write_95 (by decide)) ?_
              refine im_st (r_fgt (L1 := [none, none, none, none]) [0, 1, 2, 3] rfl) ?_
              exact im_ret id
            · refine im_st (r_iload_n (i := 3) dX10_write_98 rfl rfl rfl) ?_
              refine im_st (r_fgt (L1 := [none, none, none, none]) [0, 1, 2, 3] rfl) ?_
              exact im_ret id
        refine im_grd (fun g11 => ?_)
        refine im_st (s_iastore dX10_write_99 rfl rfl (Nat.le_of_ble_eq_true rfl) (inR_in g11)) ?_
        refine im_st (r_iconst (v := 1) dX10_write_100 rfl kI_1) ?_
        exact im_ret (fun q => g_iret rfl rfl rfl dX10_write_101 q)
theorem e_X10_write (a1 : Int32) (a2 : Int32) (a3 : Int32) (σ : Sg) (τ : Sl) (y : (Int32 × Sg)) (hy : f_X10_write a1 a2 a3 σ = some y) : EvD M_X10_write [.ref 75, .int a1, .int a2, .int a3] (mk σ τ) (some (.int y.1)) (mk y.2 τ) := EvM.of (by decide +kernel) (Nat.le_of_ble_eq_true rfl) (i_X10_write a1 a2 a3 σ τ _ y hy ⟨rfl, rfl⟩)
def M_X10_read : Ms := (yX10_read, cX10_read, 9, some .int, 3, 67, 0, 0)
theorem mv_X10_read : MV M_X10_read 4 := ⟨⟨q1390, q12, by decide, by decide, by decide +kernel⟩, q1388, q1389⟩
def b_X10_read_55 (a1 : Int32) (a2 : Int32) (a3 : Int32) (a4 : Int32) : (Int32 × Int32 × Int32 × Sg) → Option ((Int32 × Int32 × Int32 × Sg) ⊕ ((Int32 × Int32 × Int32 × Sg) ⊕ (Int32 × Sg))) := fun (s5 : (Int32 × Int32 × Int32 × Sg)) =>
  if ((2 : Int32) * a4) ≤ s5.2.2.1 then
    some (.inr (.inl (s5.1, s5.2.1, s5.2.2.1, s5.2.2.2)))
  else
    if s5.1 = 0 then
      if inR a1 4 then
      (if (s5.2.2.2 85 a1.toNatClampNeg) = (-4 : Int32) then
        some (1 : Int32)
      else
        if inR a1 4 then
        if (s5.2.2.2 85 a1.toNatClampNeg) = a2 then
          if inR a1 4 then
          if (f_X10_in ((a3.toInt64) + (s5.2.2.1.toInt64)) (0 : Int64) (((s5.2.2.2 86 a1.toNatClampNeg) - (1 : Int32)).toInt64)) = 0 then
            some (2 : Int32)
          else
            some (0 : Int32)
          else none
        else
          some (3 : Int32)
        else none).bind fun (j9 : Int32) =>
      if j9 = 0 then
        if (s5.2.2.1 - s5.2.2.1 / (2 : Int32) * (2 : Int32)) = (1 : Int32) then
          app ((((40 : Int32) * a1) + a3) + s5.2.2.1) fun (v17 : Int32) =>
          if inR (v17 - (1 : Int32)) 160 then
          if inR v17 160 then
          (f_X10_drives (s5.2.2.2 87 (v17 - (1 : Int32)).toNatClampNeg) (s5.2.2.2 87 v17.toNatClampNeg) s5.2.2.2).bind fun (y20 : (Int32 × Sg)) =>
          if 0 ≤ y20.1 then
            some (.inl (j9, (s5.2.1 + 1), (s5.2.2.1 + 1), y20.2))
          else
            (f_X10_copies (123 : Int32) (0 : Int32) y20.2).bind fun (y22 : Sg) =>
            some (.inr (.inr (((-20 : Int32) - s5.2.1), y22)))
          else none
          else none
        else
          some (.inl (j9, s5.2.1, (s5.2.2.1 + 1), s5.2.2.2))
      else
        some (.inl (j9, s5.2.1, (s5.2.2.1 + 1), s5.2.2.2))
      else none
    else
      some (.inr (.inl (s5.1, s5.2.1, s5.2.2.1, s5.2.2.2)))
def f_X10_read (a1 : Int32) (a2 : Int32) (a3 : Int32) (a4 : Int32) (σ : Sg) : Option (Int32 × Sg) :=
  if (f_X10_in (a1.toInt64) (0 : Int64) (3 : Int64)) = 0 then
    some ((-1 : Int32), σ)
  else
    if (f_X10_in (a2.toInt64) (0 : Int64) (2 : Int64)) = 0 then
      some ((-1 : Int32), σ)
    else
      if (f_X10_in (a4.toInt64) (0 : Int64) (20 : Int64)) = 0 then
        some ((-1 : Int32), σ)
      else
        (f_X10_copies (0 : Int32) (123 : Int32) σ).bind fun (y4 : Sg) =>
        (wh (b_X10_read_55 a1 a2 a3 a4) 4096 ((0 : Int32), (0 : Int32), (0 : Int32), y4)).bind fun (r25 : ((Int32 × Int32 × Int32 × Sg) ⊕ (Int32 × Sg))) =>
        Sum.elim (fun (e23 : (Int32 × Int32 × Int32 × Sg)) =>
          some (e23.2.1, (up2 e23.2.2.2 75 28 e23.1))) (fun (y24 : (Int32 × Sg)) => some y24) r25
set_option maxHeartbeats 4000000 in
set_option maxRecDepth 20000 in
theorem i_X10_read (a1 : Int32) (a2 : Int32) (a3 : Int32) (a4 : Int32) (σ : Sg) (τ : Sl) (Q : Option Value → Hp → Prop) : Imp (f_X10_read a1 a2 a3 a4 σ) (fun (y : (Int32 × Sg)) => Q (some (.int y.1)) (mk y.2 τ)) (Go M_X10_read Q 0 0 0 [some (.ref 75), some (.int a1), some (.int a2), some (.int a3), some (.int a4), none, none, none, none] [] (mk σ τ)) := by
  unfold f_X10_read
  refine im_st (r_iload_n (i := 1) dX10_read_0 rfl rfl rfl) ?_
  refine im_st (r_i2l (v := a1.toInt64) dX10_read_1 rfl rfl) ?_
  refine im_st (r_lconst (v := 0) dX10_read_2 rfl rfl) ?_
  refine im_st (r_ldc2 (v := 3) dX10_read_3 rfl q1191) ?_
  refine im_st (r_callS (as := [.long (a1.toInt64), .long (0 : Int64), .long (3 : Int64)]) (r := some (.int (f_X10_in (a1.toInt64) (0 : Int64) (3 : Int64)))) (kc1 := 0) (ks1 := 0) (st := []) (st1 := [.int (f_X10_in (a1.toInt64) (0 : Int64) (3 : Int64))]) (e_X10_in (a1.toInt64) (0 : Int64) (3 : Int64) σ τ) ms_X10_in lk_X10_49 ⟨by decide, by decide⟩ ⟨by decide, by decide⟩ (Nat.le_of_ble_eq_true rfl) dX10_read_6 rfl rfl rfl rfl rfl) ?_
  refine im_br (r_if_eq (tgt := 37) dX10_read_9 rfl (by decide)) (fun c1 => ?_) (fun c1 => ?_)
  · refine im_st (r_iconst (v := -1) dX10_read_37 rfl kI_m1) ?_
    exact im_ret (fun q => g_iret rfl rfl rfl dX10_read_38 q)
  · refine im_st (r_iload_n (i := 2) dX10_read_12 rfl rfl rfl) ?_
    refine im_st (r_i2l (v := a2.toInt64) dX10_read_13 rfl rfl) ?_
    refine im_st (r_lconst (v := 0) dX10_read_14 rfl rfl) ?_
    refine im_st (r_ldc2 (v := 2) dX10_read_15 rfl q1178) ?_
    refine im_st (r_callS (as := [.long (a2.toInt64), .long (0 : Int64), .long (2 : Int64)]) (r := some (.int (f_X10_in (a2.toInt64) (0 : Int64) (2 : Int64)))) (kc1 := 0) (ks1 := 0) (st := []) (st1 := [.int (f_X10_in (a2.toInt64) (0 : Int64) (2 : Int64))]) (e_X10_in (a2.toInt64) (0 : Int64) (2 : Int64) σ τ) ms_X10_in lk_X10_49 ⟨by decide, by decide⟩ ⟨by decide, by decide⟩ (Nat.le_of_ble_eq_true rfl) dX10_read_18 rfl rfl rfl rfl rfl) ?_
    refine im_br (r_if_eq (tgt := 37) dX10_read_21 rfl (by decide)) (fun c2 => ?_) (fun c2 => ?_)
    · refine im_st (r_iconst (v := -1) dX10_read_37 rfl kI_m1) ?_
      exact im_ret (fun q => g_iret rfl rfl rfl dX10_read_38 q)
    · refine im_st (r_iload (i := 4) dX10_read_24 rfl rfl) ?_
      refine im_st (r_i2l (v := a4.toInt64) dX10_read_26 rfl rfl) ?_
      refine im_st (r_lconst (v := 0) dX10_read_27 rfl rfl) ?_
      refine im_st (r_ldc2 (v := 20) dX10_read_28 rfl q1391) ?_
      refine im_st (r_callS (as := [.long (a4.toInt64), .long (0 : Int64), .long (20 : Int64)]) (r := some (.int (f_X10_in (a4.toInt64) (0 : Int64) (20 : Int64)))) (kc1 := 0) (ks1 := 0) (st := []) (st1 := [.int (f_X10_in (a4.toInt64) (0 : Int64) (20 : Int64))]) (e_X10_in (a4.toInt64) (0 : Int64) (20 : Int64) σ τ) ms_X10_in lk_X10_49 ⟨by decide, by decide⟩ ⟨by decide, by decide⟩ (Nat.le_of_ble_eq_true rfl) dX10_read_31 rfl rfl rfl rfl rfl) ?_
      refine im_br (r_if_ne (tgt := 39) dX10_read_34 rfl (by decide)) (fun c3 => ?_) (fun c3 => ?_)
      · refine im_st (r_iconst (v := -1) dX10_read_37 rfl kI_m1) ?_
        exact im_ret (fun q => g_iret rfl rfl rfl dX10_read_38 q)
      · refine im_st (r_aload_n (i := 0) dX10_read_39 rfl rfl rfl) ?_
        refine im_st (r_iconst (v := 0) dX10_read_40 rfl kI_0) ?_
        refine im_st (r_bipush (v := 123) dX10_read_41 rfl kB_123) ?_
        refine im_bind (fun y4 hy4 => ?_)
        refine im_st (r_callV (as := [.int (0 : Int32), .int (123 : Int32)]) (r := none) (kc1 := 0) (ks1 := 0) (st := []) (st1 := []) (e_X10_copies (0 : Int32) (123 : Int32) σ τ y4 hy4) mv_X10_copies lk_X10_218 ⟨by decide, by decide⟩ rfl (Nat.le_of_ble_eq_true rfl) (by decide) ⟨_, rfl, rfl⟩ ⟨by decide, by decide⟩ (Nat.le_of_ble_eq_true rfl) dX10_read_43 rfl rfl rfl rfl rfl) ?_
        refine im_st (r_iconst (v := 0) dX10_read_46 rfl kI_0) ?_
        refine im_st (r_istore (i := 5) (L1 := [some (.ref 75), some (.int a1), some (.int a2), some (.int a3), some (.int a4), some (.int (0 : Int32)), none, none, none]) dX10_read_47 rfl (by decide) rfl) ?_
        refine im_st (r_iconst (v := 0) dX10_read_49 rfl kI_0) ?_
        refine im_st (r_istore (i := 6) (L1 := [some (.ref 75), some (.int a1), some (.int a2), some (.int a3), some (.int a4), some (.int (0 : Int32)), some (.int (0 : Int32)), none, none]) dX10_read_50 rfl (by decide) rfl) ?_
        refine im_st (r_iconst (v := 0) dX10_read_52 rfl kI_0) ?_
        refine im_st (r_istore (i := 7) (L1 := [some (.ref 75), some (.int a1), some (.int a2), some (.int a3), some (.int a4), some (.int (0 : Int32)), some (.int (0 : Int32)), some (.int (0 : Int32)), none]) dX10_read_53 rfl (by decide) rfl) ?_
        refine im_seq (Gm := Sum.elim (fun (e23 : (Int32 × Int32 × Int32 × Sg)) => Go M_X10_read Q 0 0 196 [some (.ref 75), none, none, none, none, some (.int e23.1), some (.int e23.2.1), none, none] [] (mk e23.2.2.2 τ)) (fun (y : (Int32 × Sg)) => Q (some (.int y.1)) (mk y.2 τ))) ?_ (fun r25 => ?_)
        · refine im_wh (G := fun (s5 : (Int32 × Int32 × Int32 × Sg)) => Go M_X10_read Q 0 0 55 [some (.ref 75), some (.int a1), some (.int a2), some (.int a3), some (.int a4), some (.int s5.1), some (.int s5.2.1), some (.int s5.2.2.1), none] [] (mk s5.2.2.2 τ)) (fun s5 => ?_) _ _
          unfold b_X10_read_55
          refine im_st (r_iload (i := 7) dX10_read_55 rfl rfl) ?_
          refine im_st (r_iconst (v := 2) dX10_read_57 rfl kI_2) ?_
          refine im_st (r_iload (i := 4) dX10_read_58 rfl rfl) ?_
          refine im_st (r_imul dX10_read_60 rfl) ?_
          refine im_br (r_icmp_ge (tgt := 196) dX10_read_61 rfl (by decide)) (fun c6 => ?_) (fun c6 => ?_)
          · refine im_st (r_fgt (L1 := [some (.ref 75), none, none, none, none, some (.int s5.1), some (.int s5.2.1), none, none]) [1, 2, 3, 4, 7] rfl) ?_
            exact im_ret id
          · refine im_st (r_iload (i := 5) dX10_read_64 rfl rfl) ?_
            refine im_br (r_if_ne (tgt := 196) dX10_read_66 rfl (by decide)) (fun c7 => ?_) (fun c7 => ?_)
            · refine im_st (r_aload_n (i := 0) dX10_read_69 rfl rfl rfl) ?_
              refine im_st (s_getR (b := 85) (tag := 10) (j := 25) dX10_read_70 rfl fl_X10_38 rfl (Nat.le_of_ble_eq_true rfl) rfl rfl) ?_
              refine im_st (r_iload_n (i := 1) dX10_read_73 rfl rfl rfl) ?_
              refine im_grd (fun g8 => ?_)
              refine im_st (s_iaload dX10_read_74 rfl rfl (Nat.le_of_ble_eq_true rfl) (inR_in g8)) ?_
              refine im_st (r_bipush (v := -4) dX10_read_75 rfl kB_m4) ?_
              refine im_seq (Gm := fun (j9 : Int32) => Go M_X10_read Q 0 0 125 [some (.ref 75), some (.int a1), some (.int a2), some (.int a3), some (.int a4), none, some (.int s5.2.1), some (.int s5.2.2.1), none] [.int j9] (mk s5.2.2.2 τ)) ?_ (fun j9 => ?_)
              · refine im_br (r_icmp_ne (tgt := 84) dX10_read_77 rfl (by decide)) (fun c10 => ?_) (fun c10 => ?_)
                · refine im_st (r_iconst (v := 1) dX10_read_80 rfl kI_1) ?_
                  refine im_st (r_goto (pc1 := 125) dX10_read_81 (by decide)) ?_
                  refine im_st (r_fgt (L1 := [some (.ref 75), some (.int a1), some (.int a2), some (.int a3), some (.int a4), none, some (.int s5.2.1), some (.int s5.2.2.1), none]) [5] rfl) ?_
                  exact im_ret id
                · refine im_st (r_aload_n (i := 0) dX10_read_84 rfl rfl rfl) ?_
                  refine im_st (s_getR (b := 85) (tag := 10) (j := 25) dX10_read_85 rfl fl_X10_38 rfl (Nat.le_of_ble_eq_true rfl) rfl rfl) ?_
                  refine im_st (r_iload_n (i := 1) dX10_read_88 rfl rfl rfl) ?_
                  refine im_grd (fun g11 => ?_)
                  refine im_st (s_iaload dX10_read_89 rfl rfl (Nat.le_of_ble_eq_true rfl) (inR_in g11)) ?_
                  refine im_st (r_iload_n (i := 2) dX10_read_90 rfl rfl rfl) ?_
                  refine im_br (r_icmp_eq (tgt := 98) dX10_read_91 rfl (by decide)) (fun c12 => ?_) (fun c12 => ?_)
                  · refine im_st (r_iload_n (i := 3) dX10_read_98 rfl rfl rfl) ?_
                    refine im_st (r_i2l (v := a3.toInt64) dX10_read_99 rfl rfl) ?_
                    refine im_st (r_iload (i := 7) dX10_read_100 rfl rfl) ?_
                    refine im_st (r_i2l (v := s5.2.2.1.toInt64) dX10_read_102 rfl rfl) ?_
                    refine im_st (r_ladd dX10_read_103 rfl) ?_
                    refine im_st (r_lconst (v := 0) dX10_read_104 rfl rfl) ?_
                    refine im_st (r_aload_n (i := 0) dX10_read_105 rfl rfl rfl) ?_
                    refine im_st (s_getR (b := 86) (tag := 10) (j := 26) dX10_read_106 rfl fl_X10_41 rfl (Nat.le_of_ble_eq_true rfl) rfl rfl) ?_
                    refine im_st (r_iload_n (i := 1) dX10_read_109 rfl rfl rfl) ?_
                    refine im_grd (fun g13 => ?_)
                    refine im_st (s_iaload dX10_read_110 rfl rfl (Nat.le_of_ble_eq_true rfl) (inR_in g13)) ?_
                    refine im_st (r_iconst (v := 1) dX10_read_111 rfl kI_1) ?_
                    refine im_st (r_isub dX10_read_112 rfl) ?_
                    refine im_st (r_i2l (v := ((s5.2.2.2 86 a1.toNatClampNeg) - (1 : Int32)).toInt64) dX10_read_113 rfl rfl) ?_
                    refine im_st (r_callS (as := [.long ((a3.toInt64) + (s5.2.2.1.toInt64)), .long (0 : Int64), .long (((s5.2.2.2 86 a1.toNatClampNeg) - (1 : Int32)).toInt64)]) (r := some (.int (f_X10_in ((a3.toInt64) + (s5.2.2.1.toInt64)) (0 : Int64) (((s5.2.2.2 86 a1.toNatClampNeg) - (1 : Int32)).toInt64)))) (kc1 := 0) (ks1 := 0) (st := []) (st1 := [.int (f_X10_in ((a3.toInt64) + (s5.2.2.1.toInt64)) (0 : Int64) (((s5.2.2.2 86 a1.toNatClampNeg) - (1 : Int32)).toInt64))]) (e_X10_in ((a3.toInt64) + (s5.2.2.1.toInt64)) (0 : Int64) (((s5.2.2.2 86 a1.toNatClampNeg) - (1 : Int32)).toInt64) s5.2.2.2 τ) ms_X10_in lk_X10_49 ⟨by decide, by decide⟩ ⟨by decide, by decide⟩ (Nat.le_of_ble_eq_true rfl) dX10_read_114 rfl rfl rfl rfl rfl) ?_
                    refine im_br (r_if_ne (tgt := 124) dX10_read_117 rfl (by decide)) (fun c14 => ?_) (fun c14 => ?_)
                    · refine im_st (r_iconst (v := 2) dX10_read_120 rfl kI_2) ?_
                      refine im_st (r_goto (pc1 := 125) dX10_read_121 (by decide)) ?_
                      refine im_st (r_fgt (L1 := [some (.ref 75), some (.int a1), some (.int a2), some (.int a3), some (.int a4), none, some (.int s5.2.1), some (.int s5.2.2.1), none]) [5] rfl) ?_
                      exact im_ret id
                    · refine im_st (r_iconst (v := 0) dX10_read_124 rfl kI_0) ?_
                      refine im_st (r_fgt (L1 := [some (.ref 75), some (.int a1), some (.int a2), some (.int a3), some (.int a4), none, some (.int s5.2.1), some (.int s5.2.2.1), none]) [5] rfl) ?_
                      exact im_ret id
                  · refine im_st (r_iconst (v := 3) dX10_read_94 rfl kI_3) ?_
                    refine im_st (r_goto (pc1 := 125) dX10_read_95 (by decide)) ?_
                    refine im_st (r_fgt (L1 := [some (.ref 75), some (.int a1), some (.int a2), some (.int a3), some (.int a4), none, some (.int s5.2.1), some (.int s5.2.2.1), none]) [5] rfl) ?_
                    exact im_ret id
              refine im_st (r_istore (i := 5) (L1 := [some (.ref 75), some (.int a1), some (.int a2), some (.int a3), some (.int a4), some (.int j9), some (.int s5.2.1), some (.int s5.2.2.1), none]) dX10_read_125 rfl (by decide) rfl) ?_
              refine im_st (r_iload (i := 5) dX10_read_127 rfl rfl) ?_
              refine im_br (r_if_ne (tgt := 190) dX10_read_129 rfl (by decide)) (fun c15 => ?_) (fun c15 => ?_)
              · refine im_st (r_iload (i := 7) dX10_read_132 rfl rfl) ?_
                refine im_st (r_iconst (v := 2) dX10_read_134 rfl kI_2) ?_
                refine im_st (r_irem dX10_read_135 rfl (by decide)) ?_
                refine im_st (r_iconst (v := 1) dX10_read_136 rfl kI_1) ?_
                refine im_br (r_icmp_ne (tgt := 190) dX10_read_137 rfl (by decide)) (fun c16 => ?_) (fun c16 => ?_)
                · refine im_st (r_bipush (v := 40) dX10_read_140 rfl kB_40) ?_
                  refine im_st (r_iload_n (i := 1) dX10_read_142 rfl rfl rfl) ?_
                  refine im_st (r_imul dX10_read_143 rfl) ?_
                  refine im_st (r_iload_n (i := 3) dX10_read_144 rfl rfl rfl) ?_
                  refine im_st (r_iadd dX10_read_145 rfl) ?_
                  refine im_st (r_iload (i := 7) dX10_read_146 rfl rfl) ?_
                  refine im_st (r_iadd dX10_read_148 rfl) ?_
                  refine im_app (Gm := fun (v17 : Int32) => Go M_X10_read Q 0 0 149 [some (.ref 75), some (.int a1), some (.int a2), some (.int a3), some (.int a4), some (.int j9), some (.int s5.2.1), some (.int s5.2.2.1), none] [.int v17] (mk s5.2.2.2 τ)) (fun v17 => ?_)
                  refine im_st (r_istore (i := 8) (L1 := [some (.ref 75), some (.int a1), some (.int a2), some (.int a3), some (.int a4), some (.int j9), some (.int s5.2.1), some (.int s5.2.2.1), some (.int v17)]) dX10_read_149 rfl (by decide) rfl) ?_
                  refine im_st (r_aload_n (i := 0) dX10_read_151 rfl rfl rfl) ?_
                  refine im_st (r_aload_n (i := 0) dX10_read_152 rfl rfl rfl) ?_
                  refine im_st (s_getR (b := 87) (tag := 10) (j := 27) dX10_read_153 rfl fl_X10_44 rfl (Nat.le_of_ble_eq_true rfl) rfl rfl) ?_
                  refine im_st (r_iload (i := 8) dX10_read_156 rfl rfl) ?_
                  refine im_st (r_iconst (v := 1) dX10_read_158 rfl kI_1) ?_
                  refine im_st (r_isub dX10_read_159 rfl) ?_
                  refine im_grd (fun g18 => ?_)
                  refine im_st (s_iaload dX10_read_160 rfl rfl (Nat.le_of_ble_eq_true rfl) (inR_in g18)) ?_
                  refine im_st (r_aload_n (i := 0) dX10_read_161 rfl rfl rfl) ?_
                  refine im_st (s_getR (b := 87) (tag := 10) (j := 27) dX10_read_162 rfl fl_X10_44 rfl (Nat.le_of_ble_eq_true rfl) rfl rfl) ?_
                  refine im_st (r_iload (i := 8) dX10_read_165 rfl rfl) ?_
                  refine im_grd (fun g19 => ?_)
                  refine im_st (s_iaload dX10_read_167 rfl rfl (Nat.le_of_ble_eq_true rfl) (inR_in g19)) ?_
                  refine im_bind (fun y20 hy20 => ?_)
                  refine im_st (r_callV (as := [.int (s5.2.2.2 87 (v17 - (1 : Int32)).toNatClampNeg), .int (s5.2.2.2 87 v17.toNatClampNeg)]) (r := some (.int y20.1)) (kc1 := 0) (ks1 := 0) (st := []) (st1 := [.int y20.1]) (e_X10_drives (s5.2.2.2 87 (v17 - (1 : Int32)).toNatClampNeg) (s5.2.2.2 87 v17.toNatClampNeg) s5.2.2.2 τ y20 hy20) mv_X10_drives lk_X10_206 ⟨by decide, by decide⟩ rfl (Nat.le_of_ble_eq_true rfl) (by decide) ⟨_, rfl, rfl⟩ ⟨by decide, by decide⟩ (Nat.le_of_ble_eq_true rfl) dX10_read_168 rfl rfl rfl rfl rfl) ?_
                  refine im_br (r_if_ge (tgt := 187) dX10_read_171 rfl (by decide)) (fun c21 => ?_) (fun c21 => ?_)
                  · refine im_st (r_iinc (i := 6) (x := s5.2.1) (v := (s5.2.1 + 1)) (L1 := [some (.ref 75), some (.int a1), some (.int a2), some (.int a3), some (.int a4), some (.int j9), some (.int (s5.2.1 + 1)), some (.int s5.2.2.1), some (.int v17)]) dX10_read_187 rfl rfl rfl (by decide) rfl) ?_
                    refine im_st (r_iinc (i := 7) (x := s5.2.2.1) (v := (s5.2.2.1 + 1)) (L1 := [some (.ref 75), some (.int a1), some (.int a2), some (.int a3), some (.int a4), some (.int j9), some (.int (s5.2.1 + 1)), some (.int (s5.2.2.1 + 1)), some (.int v17)]) dX10_read_190 rfl rfl rfl (by decide) rfl) ?_
                    refine im_st (r_goto (pc1 := 55) dX10_read_193 (by decide)) ?_
                    refine im_st (r_fgt (L1 := [some (.ref 75), some (.int a1), some (.int a2), some (.int a3), some (.int a4), some (.int j9), some (.int (s5.2.1 + 1)), some (.int (s5.2.2.1 + 1)), none]) [8] rfl) ?_
                    exact im_ret id
                  · refine im_st (r_aload_n (i := 0) dX10_read_174 rfl rfl rfl) ?_
                    refine im_st (r_bipush (v := 123) dX10_read_175 rfl kB_123) ?_
                    refine im_st (r_iconst (v := 0) dX10_read_177 rfl kI_0) ?_
                    refine im_bind (fun y22 hy22 => ?_)
                    refine im_st (r_callV (as := [.int (123 : Int32), .int (0 : Int32)]) (r := none) (kc1 := 0) (ks1 := 0) (st := []) (st1 := []) (e_X10_copies (123 : Int32) (0 : Int32) y20.2 τ y22 hy22) mv_X10_copies lk_X10_218 ⟨by decide, by decide⟩ rfl (Nat.le_of_ble_eq_true rfl) (by decide) ⟨_, rfl, rfl⟩ ⟨by decide, by decide⟩ (Nat.le_of_ble_eq_true rfl) dX10_read_178 rfl rfl rfl rfl rfl) ?_
                    refine im_st (r_bipush (v := -20) dX10_read_181 rfl kB_m20) ?_
                    refine im_st (r_iload (i := 6) dX10_read_183 rfl rfl) ?_
                    refine im_st (r_isub dX10_read_185 rfl) ?_
                    exact im_ret (fun q => g_iret rfl rfl rfl dX10_read_186 q)
                · refine im_st (r_iinc (i := 7) (x := s5.2.2.1) (v := (s5.2.2.1 + 1)) (L1 := [some (.ref 75), some (.int a1), some (.int a2), some (.int a3), some (.int a4), some (.int j9), some (.int s5.2.1), some (.int (s5.2.2.1 + 1)), none]) dX10_read_190 rfl rfl rfl (by decide) rfl) ?_
                  refine im_st (r_goto (pc1 := 55) dX10_read_193 (by decide)) ?_
                  exact im_ret id
              · refine im_st (r_iinc (i := 7) (x := s5.2.2.1) (v := (s5.2.2.1 + 1)) (L1 := [some (.ref 75), some (.int a1), some (.int a2), some (.int a3), some (.int a4), some (.int j9), some (.int s5.2.1), some (.int (s5.2.2.1 + 1)), none]) dX10_read_190 rfl rfl rfl (by decide) rfl) ?_
                refine im_st (r_goto (pc1 := 55) dX10_read_193 (by decide)) ?_
                exact im_ret id
            · refine im_st (r_fgt (L1 := [some (.ref 75), none, none, none, none, some (.int s5.1), some (.int s5.2.1), none, none]) [1, 2, 3, 4, 7] rfl) ?_
              exact im_ret id
        refine im_sum (fun e23 => ?_) (fun y24 => im_ret id) r25
        refine im_st (r_aload_n (i := 0) dX10_read_196 rfl rfl rfl) ?_
        refine im_st (r_iload (i := 5) dX10_read_197 rfl rfl) ?_
        refine im_st (s_putI (tag := 10) (j := 28) dX10_read_199 rfl fl_X10_249 rfl (Nat.le_of_ble_eq_true rfl) rfl fw_10_28) ?_
        refine im_st (r_iload (i := 6) dX10_read_202 rfl rfl) ?_
        exact im_ret (fun q => g_iret rfl rfl rfl dX10_read_204 q)
theorem e_X10_read (a1 : Int32) (a2 : Int32) (a3 : Int32) (a4 : Int32) (σ : Sg) (τ : Sl) (y : (Int32 × Sg)) (hy : f_X10_read a1 a2 a3 a4 σ = some y) : EvD M_X10_read [.ref 75, .int a1, .int a2, .int a3, .int a4] (mk σ τ) (some (.int y.1)) (mk y.2 τ) := EvM.of (by decide +kernel) (Nat.le_of_ble_eq_true rfl) (i_X10_read a1 a2 a3 a4 σ τ _ y hy ⟨rfl, rfl⟩)
def M_X10_torn : Ms := (yX10_torn, cX10_torn, 1, some .int, 0, 0, 0, 0)
theorem mv_X10_torn : MV M_X10_torn 0 := ⟨⟨q1395, q12, by decide, by decide, by decide +kernel⟩, q1393, q1394⟩
def f_X10_torn (σ : Sg) : Int32 :=
  (σ 75 28)
set_option maxHeartbeats 4000000 in
set_option maxRecDepth 20000 in
theorem i_X10_torn (σ : Sg) (τ : Sl) (Q : Option Value → Hp → Prop) : Imp (some (f_X10_torn σ)) (fun (y : Int32) => Q (some (.int y)) (mk σ τ)) (Go M_X10_torn Q 0 0 0 [some (.ref 75)] [] (mk σ τ)) := by
  unfold f_X10_torn
  refine im_st (r_aload_n (i := 0) dX10_torn_0 rfl rfl rfl) ?_
  refine im_st (s_getI (tag := 10) (j := 28) dX10_torn_1 rfl fl_X10_249 rfl (Nat.le_of_ble_eq_true rfl) rfl) ?_
  exact im_ret (fun q => g_iret rfl rfl rfl dX10_torn_4 q)
theorem e_X10_torn (σ : Sg) (τ : Sl) : EvD M_X10_torn [.ref 75] (mk σ τ) (some (.int (f_X10_torn σ))) (mk σ τ) := EvM.of (by decide +kernel) (Nat.le_of_ble_eq_true rfl) (i_X10_torn σ τ _ _ rfl ⟨rfl, rfl⟩)
def M_X10_count : Ms := (yX10_count, cX10_count, 5, some .int, 0, 0, 0, 0)
theorem mv_X10_count : MV M_X10_count 1 := ⟨⟨q1399, q12, by decide, by decide, by decide +kernel⟩, q1397, q1398⟩
def b_X10_count_7 (σ : Sg) : (Int32 × Int32) → Option ((Int32 × Int32) ⊕ (Int32 × Int32)) := fun (s1 : (Int32 × Int32)) =>
  if (σ 76 (38 : Int32).toNatClampNeg) ≤ s1.2 then
    some (.inr (s1.1, s1.2))
  else
    if inR ((7 : Int32) + s1.2) 205 then
    app (if (σ 76 ((7 : Int32) + s1.2).toNatClampNeg) = 0 then
      (1 : Int32)
    else
      (0 : Int32)) fun (j4 : Int32) =>
    some (.inl ((s1.1 + j4), (s1.2 + 1)))
    else none
def b_X10_count_49 (σ : Sg) : (Int32 × Int32) → Option ((Int32 × Int32) ⊕ (Int32 × Int32)) := fun (s7 : (Int32 × Int32)) =>
  if (σ 75 1) ≤ s7.2 then
    some (.inr (s7.1, s7.2))
  else
    if inR ((22 : Int32) + s7.2) 205 then
    app (s7.1 + (σ 76 ((22 : Int32) + s7.2).toNatClampNeg)) fun (v10 : Int32) =>
    some (.inl (v10, (s7.2 + 1)))
    else none
def f_X10_count (a1 : Int32) (σ : Sg) : Option Int32 :=
  (wh (b_X10_count_7 σ) 4096 ((0 : Int32), (0 : Int32))).bind fun (e6 : (Int32 × Int32)) =>
  (wh (b_X10_count_49 σ) 4096 ((0 : Int32), (0 : Int32))).bind fun (e11 : (Int32 × Int32)) =>
  if a1 = 0 then
    some (σ 75 22)
  else
    if a1 = 1 then
      app (if (σ 84 (0 : Int32).toNatClampNeg) = 0 then
        (0 : Int32)
      else
        (1 : Int32)) fun (j14 : Int32) =>
      app (if (σ 84 (1 : Int32).toNatClampNeg) = 0 then
        (0 : Int32)
      else
        (1 : Int32)) fun (j16 : Int32) =>
      some (j14 + j16)
    else
      if a1 = 2 then
        some (σ 75 6)
      else
        if a1 = 3 then
          if (σ 85 (0 : Int32).toNatClampNeg) = (-4 : Int32) then
            some (-4 : Int32)
          else
            some (σ 86 (0 : Int32).toNatClampNeg)
        else
          if a1 = 4 then
            some e6.1
          else
            if a1 = 5 then
              some e11.1
            else
              some (-1 : Int32)
set_option maxHeartbeats 4000000 in
set_option maxRecDepth 20000 in
theorem i_X10_count (a1 : Int32) (σ : Sg) (τ : Sl) (Q : Option Value → Hp → Prop) : Imp (f_X10_count a1 σ) (fun (y : Int32) => Q (some (.int y)) (mk σ τ)) (Go M_X10_count Q 0 0 0 [some (.ref 75), some (.int a1), none, none, none] [] (mk σ τ)) := by
  unfold f_X10_count
  refine im_st (r_iconst (v := 0) dX10_count_0 rfl kI_0) ?_
  refine im_st (r_istore_n (i := 2) (L1 := [some (.ref 75), some (.int a1), some (.int (0 : Int32)), none, none]) dX10_count_1 rfl rfl (by decide) rfl) ?_
  refine im_st (r_iconst (v := 0) dX10_count_2 rfl kI_0) ?_
  refine im_st (r_istore_n (i := 3) (L1 := [some (.ref 75), some (.int a1), some (.int (0 : Int32)), some (.int (0 : Int32)), none]) dX10_count_3 rfl rfl (by decide) rfl) ?_
  refine im_st (r_iconst (v := 0) dX10_count_4 rfl kI_0) ?_
  refine im_st (r_istore (i := 4) (L1 := [some (.ref 75), some (.int a1), some (.int (0 : Int32)), some (.int (0 : Int32)), some (.int (0 : Int32))]) dX10_count_5 rfl (by decide) rfl) ?_
  refine im_seq (Gm := fun (e6 : (Int32 × Int32)) => Go M_X10_count Q 0 0 46 [some (.ref 75), some (.int a1), some (.int e6.1), some (.int (0 : Int32)), none] [] (mk σ τ)) ?_ (fun e6 => ?_)
  · refine im_wh (G := fun (s1 : (Int32 × Int32)) => Go M_X10_count Q 0 0 7 [some (.ref 75), some (.int a1), some (.int s1.1), some (.int (0 : Int32)), some (.int s1.2)] [] (mk σ τ)) (fun s1 => ?_) _ _
    unfold b_X10_count_7
    refine im_st (r_iload (i := 4) dX10_count_7 rfl rfl) ?_
    refine im_st (r_aload_n (i := 0) dX10_count_9 rfl rfl rfl) ?_
    refine im_st (s_getR (b := 76) (tag := 10) (j := 0) dX10_count_10 rfl fl_X10_7 rfl (Nat.le_of_ble_eq_true rfl) rfl rfl) ?_
    refine im_st (r_bipush (v := 38) dX10_count_13 rfl kB_38) ?_
    refine im_st (s_iaload dX10_count_15 rfl rfl (Nat.le_of_ble_eq_true rfl) (inR_in rfl)) ?_
    refine im_br (r_icmp_ge (tgt := 46) dX10_count_16 rfl (by decide)) (fun c2 => ?_) (fun c2 => ?_)
    · refine im_st (r_fgt (L1 := [some (.ref 75), some (.int a1), some (.int s1.1), some (.int (0 : Int32)), none]) [4] rfl) ?_
      exact im_ret id
    · refine im_st (r_iload_n (i := 2) dX10_count_19 rfl rfl rfl) ?_
      refine im_st (r_aload_n (i := 0) dX10_count_20 rfl rfl rfl) ?_
      refine im_st (s_getR (b := 76) (tag := 10) (j := 0) dX10_count_21 rfl fl_X10_7 rfl (Nat.le_of_ble_eq_true rfl) rfl rfl) ?_
      refine im_st (r_bipush (v := 7) dX10_count_24 rfl kB_7) ?_
      refine im_st (r_iload (i := 4) dX10_count_26 rfl rfl) ?_
      refine im_st (r_iadd dX10_count_28 rfl) ?_
      refine im_grd (fun g3 => ?_)
      refine im_st (s_iaload dX10_count_29 rfl rfl (Nat.le_of_ble_eq_true rfl) (inR_in g3)) ?_
      refine im_seqT (Gm := fun (j4 : Int32) => Go M_X10_count Q 0 0 38 [some (.ref 75), some (.int a1), none, some (.int (0 : Int32)), some (.int s1.2)] [.int j4, .int s1.1] (mk σ τ)) ?_ (fun j4 => ?_)
      · refine im_brS (r_if_ne (tgt := 37) dX10_count_30 rfl (by decide)) (fun c5 => ?_) (fun c5 => ?_)
        · refine im_st (r_iconst (v := 1) dX10_count_33 rfl kI_1) ?_
          refine im_st (r_goto (pc1 := 38) dX10_count_34 (by decide)) ?_
          refine im_st (r_fgt (L1 := [some (.ref 75), some (.int a1), none, some (.int (0 : Int32)), some (.int s1.2)]) [2] rfl) ?_
          exact im_ret id
        · refine im_st (r_iconst (v := 0) dX10_count_37 rfl kI_0) ?_
          refine im_st (r_fgt (L1 := [some (.ref 75), some (.int a1), none, some (.int (0 : Int32)), some (.int s1.2)]) [2] rfl) ?_
          exact im_ret id
      refine im_st (r_iadd dX10_count_38 rfl) ?_
      refine im_st (r_istore_n (i := 2) (L1 := [some (.ref 75), some (.int a1), some (.int (s1.1 + j4)), some (.int (0 : Int32)), some (.int s1.2)]) dX10_count_39 rfl rfl (by decide) rfl) ?_
      refine im_st (r_iinc (i := 4) (x := s1.2) (v := (s1.2 + 1)) (L1 := [some (.ref 75), some (.int a1), some (.int (s1.1 + j4)), some (.int (0 : Int32)), some (.int (s1.2 + 1))]) dX10_count_40 rfl rfl rfl (by decide) rfl) ?_
      refine im_st (r_goto (pc1 := 7) dX10_count_43 (by decide)) ?_
      exact im_ret id
  refine im_st (r_iconst (v := 0) dX10_count_46 rfl kI_0) ?_
  refine im_st (r_istore (i := 4) (L1 := [some (.ref 75), some (.int a1), some (.int e6.1), some (.int (0 : Int32)), some (.int (0 : Int32))]) dX10_count_47 rfl (by decide) rfl) ?_
  refine im_seq (Gm := fun (e11 : (Int32 × Int32)) => Go M_X10_count Q 0 0 77 [some (.ref 75), some (.int a1), some (.int e6.1), some (.int e11.1), none] [] (mk σ τ)) ?_ (fun e11 => ?_)
  · refine im_wh (G := fun (s7 : (Int32 × Int32)) => Go M_X10_count Q 0 0 49 [some (.ref 75), some (.int a1), some (.int e6.1), some (.int s7.1), some (.int s7.2)] [] (mk σ τ)) (fun s7 => ?_) _ _
    unfold b_X10_count_49
    refine im_st (r_iload (i := 4) dX10_count_49 rfl rfl) ?_
    refine im_st (r_aload_n (i := 0) dX10_count_51 rfl rfl rfl) ?_
    refine im_st (s_getI (tag := 10) (j := 1) dX10_count_52 rfl fl_X10_129 rfl (Nat.le_of_ble_eq_true rfl) rfl) ?_
    refine im_br (r_icmp_ge (tgt := 77) dX10_count_55 rfl (by decide)) (fun c8 => ?_) (fun c8 => ?_)
    · refine im_st (r_fgt (L1 := [some (.ref 75), some (.int a1), some (.int e6.1), some (.int s7.1), none]) [4] rfl) ?_
      exact im_ret id
    · refine im_st (r_iload_n (i := 3) dX10_count_58 rfl rfl rfl) ?_
      refine im_st (r_aload_n (i := 0) dX10_count_59 rfl rfl rfl) ?_
      refine im_st (s_getR (b := 76) (tag := 10) (j := 0) dX10_count_60 rfl fl_X10_7 rfl (Nat.le_of_ble_eq_true rfl) rfl rfl) ?_
      refine im_st (r_bipush (v := 22) dX10_count_63 rfl kB_22) ?_
      refine im_st (r_iload (i := 4) dX10_count_65 rfl rfl) ?_
      refine im_st (r_iadd dX10_count_67 rfl) ?_
      refine im_grd (fun g9 => ?_)
      refine im_st (s_iaload dX10_count_68 rfl rfl (Nat.le_of_ble_eq_true rfl) (inR_in g9)) ?_
      refine im_st (r_iadd dX10_count_69 rfl) ?_
      refine im_app (Gm := fun (v10 : Int32) => Go M_X10_count Q 0 0 70 [some (.ref 75), some (.int a1), some (.int e6.1), some (.int s7.1), some (.int s7.2)] [.int v10] (mk σ τ)) (fun v10 => ?_)
      refine im_st (r_istore_n (i := 3) (L1 := [some (.ref 75), some (.int a1), some (.int e6.1), some (.int v10), some (.int s7.2)]) dX10_count_70 rfl rfl (by decide) rfl) ?_
      refine im_st (r_iinc (i := 4) (x := s7.2) (v := (s7.2 + 1)) (L1 := [some (.ref 75), some (.int a1), some (.int e6.1), some (.int v10), some (.int (s7.2 + 1))]) dX10_count_71 rfl rfl rfl (by decide) rfl) ?_
      refine im_st (r_goto (pc1 := 49) dX10_count_74 (by decide)) ?_
      exact im_ret id
  refine im_st (r_iload_n (i := 1) dX10_count_77 rfl rfl rfl) ?_
  refine im_if (fun c12 => ?_) (fun c12 => ?_)
  · refine im_st (r_tin (off := 38) (pc1 := 116) dX10_count_78 (by rw [c12]; decide) (by rw [c12]; decide) (by rw [c12]; rfl) (by decide)) ?_
    refine im_st (r_aload_n (i := 0) dX10_count_116 rfl rfl rfl) ?_
    refine im_st (s_getI (tag := 10) (j := 22) dX10_count_117 rfl fl_X10_132 rfl (Nat.le_of_ble_eq_true rfl) rfl) ?_
    exact im_ret (fun q => g_iret rfl rfl rfl dX10_count_120 q)
  · refine im_if (fun c13 => ?_) (fun c13 => ?_)
    · refine im_st (r_tin (off := 43) (pc1 := 121) dX10_count_78 (by rw [c13]; decide) (by rw [c13]; decide) (by rw [c13]; rfl) (by decide)) ?_
      refine im_st (r_aload_n (i := 0) dX10_count_121 rfl rfl rfl) ?_
      refine im_st (s_getR (b := 84) (tag := 10) (j := 24) dX10_count_122 rfl fl_X10_34 rfl (Nat.le_of_ble_eq_true rfl) rfl rfl) ?_
      refine im_st (r_iconst (v := 0) dX10_count_125 rfl kI_0) ?_
      refine im_st (s_zaload dX10_count_126 rfl rfl (Nat.le_of_ble_eq_true rfl) (inR_in rfl)) ?_
      refine im_seqT (Gm := fun (j14 : Int32) => Go M_X10_count Q 0 0 135 [some (.ref 75), none, none, none, none] [.int j14] (mk σ τ)) ?_ (fun j14 => ?_)
      · refine im_brS (r_if_eq (tgt := 134) dX10_count_127 rfl (by decide)) (fun c15 => ?_) (fun c15 => ?_)
        · refine im_st (r_iconst (v := 0) dX10_count_134 rfl kI_0) ?_
          refine im_st (r_fgt (L1 := [some (.ref 75), none, none, none, none]) [1, 2, 3] rfl) ?_
          exact im_ret id
        · refine im_st (r_iconst (v := 1) dX10_count_130 rfl kI_1) ?_
          refine im_st (r_goto (pc1 := 135) dX10_count_131 (by decide)) ?_
          refine im_st (r_fgt (L1 := [some (.ref 75), none, none, none, none]) [1, 2, 3] rfl) ?_
          exact im_ret id
      refine im_st (r_aload_n (i := 0) dX10_count_135 rfl rfl rfl) ?_
      refine im_st (s_getR (b := 84) (tag := 10) (j := 24) dX10_count_136 rfl fl_X10_34 rfl (Nat.le_of_ble_eq_true rfl) rfl rfl) ?_
      refine im_st (r_iconst (v := 1) dX10_count_139 rfl kI_1) ?_
      refine im_st (s_zaload dX10_count_140 rfl rfl (Nat.le_of_ble_eq_true rfl) (inR_in rfl)) ?_
      refine im_seqT (Gm := fun (j16 : Int32) => Go M_X10_count Q 0 0 149 [none, none, none, none, none] [.int j16, .int j14] (mk σ τ)) ?_ (fun j16 => ?_)
      · refine im_brS (r_if_eq (tgt := 148) dX10_count_141 rfl (by decide)) (fun c17 => ?_) (fun c17 => ?_)
        · refine im_st (r_iconst (v := 0) dX10_count_148 rfl kI_0) ?_
          refine im_st (r_fgt (L1 := [none, none, none, none, none]) [0] rfl) ?_
          exact im_ret id
        · refine im_st (r_iconst (v := 1) dX10_count_144 rfl kI_1) ?_
          refine im_st (r_goto (pc1 := 149) dX10_count_145 (by decide)) ?_
          refine im_st (r_fgt (L1 := [none, none, none, none, none]) [0] rfl) ?_
          exact im_ret id
      refine im_st (r_iadd dX10_count_149 rfl) ?_
      exact im_ret (fun q => g_iret rfl rfl rfl dX10_count_150 q)
    · refine im_if (fun c18 => ?_) (fun c18 => ?_)
      · refine im_st (r_tin (off := 73) (pc1 := 151) dX10_count_78 (by rw [c18]; decide) (by rw [c18]; decide) (by rw [c18]; rfl) (by decide)) ?_
        refine im_st (r_aload_n (i := 0) dX10_count_151 rfl rfl rfl) ?_
        refine im_st (s_getI (tag := 10) (j := 6) dX10_count_152 rfl fl_X10_53 rfl (Nat.le_of_ble_eq_true rfl) rfl) ?_
        exact im_ret (fun q => g_iret rfl rfl rfl dX10_count_155 q)
      · refine im_if (fun c19 => ?_) (fun c19 => ?_)
        · refine im_st (r_tin (off := 78) (pc1 := 156) dX10_count_78 (by rw [c19]; decide) (by rw [c19]; decide) (by rw [c19]; rfl) (by decide)) ?_
          refine im_st (r_aload_n (i := 0) dX10_count_156 rfl rfl rfl) ?_
          refine im_st (s_getR (b := 85) (tag := 10) (j := 25) dX10_count_157 rfl fl_X10_38 rfl (Nat.le_of_ble_eq_true rfl) rfl rfl) ?_
          refine im_st (r_iconst (v := 0) dX10_count_160 rfl kI_0) ?_
          refine im_st (s_iaload dX10_count_161 rfl rfl (Nat.le_of_ble_eq_true rfl) (inR_in rfl)) ?_
          refine im_st (r_bipush (v := -4) dX10_count_162 rfl kB_m4) ?_
          refine im_br (r_icmp_ne (tgt := 172) dX10_count_164 rfl (by decide)) (fun c20 => ?_) (fun c20 => ?_)
          · refine im_st (r_bipush (v := -4) dX10_count_167 rfl kB_m4) ?_
            refine im_st (r_goto (pc1 := 178) dX10_count_169 (by decide)) ?_
            exact im_ret (fun q => g_iret rfl rfl rfl dX10_count_178 q)
          · refine im_st (r_aload_n (i := 0) dX10_count_172 rfl rfl rfl) ?_
            refine im_st (s_getR (b := 86) (tag := 10) (j := 26) dX10_count_173 rfl fl_X10_41 rfl (Nat.le_of_ble_eq_true rfl) rfl rfl) ?_
            refine im_st (r_iconst (v := 0) dX10_count_176 rfl kI_0) ?_
            refine im_st (s_iaload dX10_count_177 rfl rfl (Nat.le_of_ble_eq_true rfl) (inR_in rfl)) ?_
            exact im_ret (fun q => g_iret rfl rfl rfl dX10_count_178 q)
        · refine im_if (fun c21 => ?_) (fun c21 => ?_)
          · refine im_st (r_tin (off := 101) (pc1 := 179) dX10_count_78 (by rw [c21]; decide) (by rw [c21]; decide) (by rw [c21]; rfl) (by decide)) ?_
            refine im_st (r_iload_n (i := 2) dX10_count_179 rfl rfl rfl) ?_
            exact im_ret (fun q => g_iret rfl rfl rfl dX10_count_180 q)
          · refine im_if (fun c22 => ?_) (fun c22 => ?_)
            · refine im_st (r_tin (off := 103) (pc1 := 181) dX10_count_78 (by rw [c22]; decide) (by rw [c22]; decide) (by rw [c22]; rfl) (by decide)) ?_
              refine im_st (r_iload_n (i := 3) dX10_count_181 rfl rfl rfl) ?_
              exact im_ret (fun q => g_iret rfl rfl rfl dX10_count_182 q)
            · refine im_st (r_tout (pc1 := 183) dX10_count_78 (by have h0 := tsw_not c12 (a := 0) (by decide); have h1 := tsw_not c13 (a := 1) (by decide); have h2 := tsw_not c18 (a := 2) (by decide); have h3 := tsw_not c19 (a := 3) (by decide); have h4 := tsw_not c21 (a := 4) (by decide); have h5 := tsw_not c22 (a := 5) (by decide); omega) (by decide)) ?_
              refine im_st (r_iconst (v := -1) dX10_count_183 rfl kI_m1) ?_
              exact im_ret (fun q => g_iret rfl rfl rfl dX10_count_184 q)
theorem e_X10_count (a1 : Int32) (σ : Sg) (τ : Sl) (y : Int32) (hy : f_X10_count a1 σ = some y) : EvD M_X10_count [.ref 75, .int a1] (mk σ τ) (some (.int y)) (mk σ τ) := EvM.of (by decide +kernel) (Nat.le_of_ble_eq_true rfl) (i_X10_count a1 σ τ _ y hy ⟨rfl, rfl⟩)
