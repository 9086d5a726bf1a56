def M_X9_feed : Ms := (yX9_feed, cX9_feed, 2, some .int, 1, 21, 0, 0)
theorem mv_X9_feed : MV M_X9_feed 1 := ⟨⟨q339, q1, by decide, by decide, by decide +kernel⟩, q337, q338⟩
def f_X9_feed (a1 : Int32) (σ : Sg) : Option (Int32 × Sg) :=
  if a1 < 0 then
    some ((-1 : Int32), σ)
  else
    if a1 ≤ (127 : Int32) then
      (f_X8_add a1 σ).bind fun (y3 : (Int32 × Sg)) =>
      some (y3.1, y3.2)
    else
      some ((-1 : Int32), σ)
set_option maxHeartbeats 4000000 in
set_option maxRecDepth 20000 in
theorem i_X9_feed (a1 : Int32) (σ : Sg) (τ : Sl) (Q : Option Value → Hp → Prop) : Imp (f_X9_feed a1 σ) (fun (y : (Int32 × Sg)) => Q (some (.int y.1)) (mk y.2 τ)) (Go M_X9_feed Q 0 0 0 [some (.ref 0), some (.int a1)] [] (mk σ τ)) := by
  unfold f_X9_feed
  refine im_st (r_iload_n (i := 1) dX9_feed_0 rfl rfl rfl) ?_
  refine im_br (r_if_lt (tgt := 10) dX9_feed_1 rfl (by decide)) (fun c1 => ?_) (fun c1 => ?_)
  · refine im_st (r_iconst (v := -1) dX9_feed_10 rfl kI_m1) ?_
    exact im_ret (fun q => g_iret rfl rfl rfl dX9_feed_11 q)
  · refine im_st (r_iload_n (i := 1) dX9_feed_4 rfl rfl rfl) ?_
    refine im_st (r_bipush (v := 127) dX9_feed_5 rfl kB_127) ?_
    refine im_br (r_icmp_le (tgt := 12) dX9_feed_7 rfl (by decide)) (fun c2 => ?_) (fun c2 => ?_)
    · refine im_st (r_aload_n (i := 0) dX9_feed_12 rfl rfl rfl) ?_
      refine im_st (s_getR (b := 54) (tag := 9) (j := 9) dX9_feed_13 rfl fl_X9_65 rfl (Nat.le_of_ble_eq_true rfl) rfl rfl) ?_
      refine im_st (r_iload_n (i := 1) dX9_feed_16 rfl rfl rfl) ?_
      refine im_bind (fun y3 hy3 => ?_)
      refine im_st (r_callV (as := [.int a1]) (r := some (.int y3.1)) (kc1 := 0) (ks1 := 0) (st := []) (st1 := [.int y3.1]) (e_X8_add a1 σ τ y3 hy3) mv_X8_add lk_X9_92 ⟨by decide, by decide⟩ rfl (Nat.le_of_ble_eq_true rfl) (by decide) ⟨_, rfl, rfl⟩ ⟨by decide, by decide⟩ (Nat.le_of_ble_eq_true rfl) dX9_feed_17 rfl rfl rfl rfl rfl) ?_
      exact im_ret (fun q => g_iret rfl rfl rfl dX9_feed_20 q)
    · refine im_st (r_iconst (v := -1) dX9_feed_10 rfl kI_m1) ?_
      exact im_ret (fun q => g_iret rfl rfl rfl dX9_feed_11 q)
theorem e_X9_feed (a1 : Int32) (σ : Sg) (τ : Sl) (y : (Int32 × Sg)) (hy : f_X9_feed a1 σ = some y) : EvD M_X9_feed [.ref 0, .int a1] (mk σ τ) (some (.int y.1)) (mk y.2 τ) := EvM.of (by decide +kernel) (Nat.le_of_ble_eq_true rfl) (i_X9_feed a1 σ τ _ y hy ⟨rfl, rfl⟩)
def M_X9_end : Ms := (yX9_end, cX9_end, 3, some .int, 0, 0, 0, 0)
theorem mv_X9_end : MV M_X9_end 1 := ⟨⟨q347, q1, by decide, by decide, by decide +kernel⟩, q345, q346⟩
def f_X9_end (a1 : Int32) (σ : Sg) : (Int32 × Sg) :=
  if a1 < 0 then
    ((-1 : Int32), σ)
  else
    if a1 ≤ (σ 54 1) then
      ((σ 54 1), (up2 σ 54 1 a1))
    else
      ((-1 : Int32), σ)
set_option maxHeartbeats 4000000 in
set_option maxRecDepth 20000 in
theorem i_X9_end (a1 : Int32) (σ : Sg) (τ : Sl) (Q : Option Value → Hp → Prop) : Imp (some (f_X9_end a1 σ)) (fun (y : (Int32 × Sg)) => Q (some (.int y.1)) (mk y.2 τ)) (Go M_X9_end Q 0 0 0 [some (.ref 0), some (.int a1), none] [] (mk σ τ)) := by
  unfold f_X9_end
  refine im_st (r_iload_n (i := 1) dX9_end_0 rfl rfl rfl) ?_
  refine im_brS (r_if_lt (tgt := 15) dX9_end_1 rfl (by decide)) (fun c1 => ?_) (fun c1 => ?_)
  · refine im_st (r_iconst (v := -1) dX9_end_15 rfl kI_m1) ?_
    exact im_ret (fun q => g_iret rfl rfl rfl dX9_end_16 q)
  · refine im_st (r_iload_n (i := 1) dX9_end_4 rfl rfl rfl) ?_
    refine im_st (r_aload_n (i := 0) dX9_end_5 rfl rfl rfl) ?_
    refine im_st (s_getR (b := 54) (tag := 9) (j := 9) dX9_end_6 rfl fl_X9_65 rfl (Nat.le_of_ble_eq_true rfl) rfl rfl) ?_
    refine im_st (s_getI (tag := 8) (j := 1) dX9_end_9 rfl fl_X9_96 rfl (Nat.le_of_ble_eq_true rfl) rfl) ?_
    refine im_brS (r_icmp_le (tgt := 17) dX9_end_12 rfl (by decide)) (fun c2 => ?_) (fun c2 => ?_)
    · refine im_st (r_aload_n (i := 0) dX9_end_17 rfl rfl rfl) ?_
      refine im_st (s_getR (b := 54) (tag := 9) (j := 9) dX9_end_18 rfl fl_X9_65 rfl (Nat.le_of_ble_eq_true rfl) rfl rfl) ?_
      refine im_st (s_getI (tag := 8) (j := 1) dX9_end_21 rfl fl_X9_96 rfl (Nat.le_of_ble_eq_true rfl) rfl) ?_
      refine im_st (r_istore_n (i := 2) (L1 := [some (.ref 0), some (.int a1), some (.int (σ 54 1))]) dX9_end_24 rfl rfl (by decide) rfl) ?_
      refine im_st (r_aload_n (i := 0) dX9_end_25 rfl rfl rfl) ?_
      refine im_st (s_getR (b := 54) (tag := 9) (j := 9) dX9_end_26 rfl fl_X9_65 rfl (Nat.le_of_ble_eq_true rfl) rfl rfl) ?_
      refine im_st (r_iload_n (i := 1) dX9_end_29 rfl rfl rfl) ?_
      refine im_st (s_putI (tag := 8) (j := 1) dX9_end_30 rfl fl_X9_96 rfl (Nat.le_of_ble_eq_true rfl) rfl fw_8_1) ?_
      refine im_st (r_iload_n (i := 2) dX9_end_33 rfl rfl rfl) ?_
      exact im_ret (fun q => g_iret rfl rfl rfl dX9_end_34 q)
    · refine im_st (r_iconst (v := -1) dX9_end_15 rfl kI_m1) ?_
      exact im_ret (fun q => g_iret rfl rfl rfl dX9_end_16 q)
theorem e_X9_end (a1 : Int32) (σ : Sg) (τ : Sl) : EvD M_X9_end [.ref 0, .int a1] (mk σ τ) (some (.int (f_X9_end a1 σ).1)) (mk (f_X9_end a1 σ).2 τ) := EvM.of (by decide +kernel) (Nat.le_of_ble_eq_true rfl) (i_X9_end a1 σ τ _ _ rfl ⟨rfl, rfl⟩)
def M_X9_text : Ms := (yX9_text, cX9_text, 3, some .int, 8, 285, 0, 0)
theorem mv_X9_text : MV M_X9_text 0 := ⟨⟨q351, q1, by decide, by decide, by decide +kernel⟩, q349, q350⟩
def b_X9_text_58 : (Int32 × Sg) → Option ((Int32 × Sg) ⊕ (Int32 × Sg)) := fun (s8 : (Int32 × Sg)) =>
  if (2 : Int32) ≤ s8.1 then
    some (.inr (s8.1, s8.2))
  else
    if inR s8.1 2 then
    some (.inl ((s8.1 + 1), (up2 s8.2 35 s8.1.toNatClampNeg (0 : Int32))))
    else none
def f_X9_text (σ : Sg) : Option (Int32 × Sg) :=
  (f_X4_readAll σ).bind fun (y1 : (Int32 × Sg)) =>
  app (up2 y1.2 54 1 (0 : Int32)) fun (σ2 : Sg) =>
  app (up2 σ2 0 11 (σ2 56 1)) fun (σ3 : Sg) =>
  (if (σ3 0 11) = 0 then
    app (f_X7_copyFrom 1 57 σ3) fun (σ6 : Sg) =>
    app (up2 σ6 30 3 (0 : Int32)) fun (σ7 : Sg) =>
    (wh b_X9_text_58 4096 ((0 : Int32), σ7)).bind fun (e11 : (Int32 × Sg)) =>
    some e11.2
  else
    some σ3).bind fun (j4 : Sg) =>
  some (y1.1, j4)
set_option maxHeartbeats 4000000 in
set_option maxRecDepth 20000 in
theorem i_X9_text (σ : Sg) (τ : Sl) (Q : Option Value → Hp → Prop) : Imp (f_X9_text σ) (fun (y : (Int32 × Sg)) => Q (some (.int y.1)) (mk y.2 τ)) (Go M_X9_text Q 0 0 0 [some (.ref 0), none, none] [] (mk σ τ)) := by
  unfold f_X9_text
  refine im_st (r_aload_n (i := 0) dX9_text_0 rfl rfl rfl) ?_
  refine im_st (s_getR (b := 56) (tag := 9) (j := 10) dX9_text_1 rfl fl_X9_74 rfl (Nat.le_of_ble_eq_true rfl) rfl rfl) ?_
  refine im_bind (fun y1 hy1 => ?_)
  refine im_st (r_callV (as := []) (r := some (.int y1.1)) (kc1 := 0) (ks1 := 0) (st := []) (st1 := [.int y1.1]) (e_X4_readAll σ τ y1 hy1) mv_X4_readAll lk_X9_99 ⟨by decide, by decide⟩ rfl (Nat.le_of_ble_eq_true rfl) (by decide) ⟨_, rfl, rfl⟩ ⟨by decide, by decide⟩ (Nat.le_of_ble_eq_true rfl) dX9_text_4 rfl rfl rfl rfl rfl) ?_
  refine im_st (r_istore_n (i := 1) (L1 := [some (.ref 0), some (.int y1.1), none]) dX9_text_7 rfl rfl (by decide) rfl) ?_
  refine im_st (r_aload_n (i := 0) dX9_text_8 rfl rfl rfl) ?_
  refine im_st (s_getR (b := 54) (tag := 9) (j := 9) dX9_text_9 rfl fl_X9_65 rfl (Nat.le_of_ble_eq_true rfl) rfl rfl) ?_
  refine im_st (r_iconst (v := 0) dX9_text_12 rfl kI_0) ?_
  refine im_st (s_putI (tag := 8) (j := 1) dX9_text_13 rfl fl_X9_96 rfl (Nat.le_of_ble_eq_true rfl) rfl fw_8_1) ?_
  refine im_st (r_aload_n (i := 0) dX9_text_16 rfl rfl rfl) ?_
  refine im_st (r_aload_n (i := 0) dX9_text_17 rfl rfl rfl) ?_
  refine im_st (s_getR (b := 56) (tag := 9) (j := 10) dX9_text_18 rfl fl_X9_74 rfl (Nat.le_of_ble_eq_true rfl) rfl rfl) ?_
  refine im_app (Gm := fun (σ2 : Sg) => Go M_X9_text Q 0 0 21 [some (.ref 0), some (.int y1.1), none] [.ref 56, .ref 0] (mk σ2 τ)) (fun σ2 => ?_)
  refine im_st (s_getI (tag := 4) (j := 1) dX9_text_21 rfl fl_X9_103 rfl (Nat.le_of_ble_eq_true rfl) rfl) ?_
  refine im_st (s_putI (tag := 9) (j := 11) dX9_text_24 rfl fl_X9_78 rfl (Nat.le_of_ble_eq_true rfl) rfl fw_9_11) ?_
  refine im_st (r_aload_n (i := 0) dX9_text_27 rfl rfl rfl) ?_
  refine im_app (Gm := fun (σ3 : Sg) => Go M_X9_text Q 0 0 28 [some (.ref 0), some (.int y1.1), none] [.ref 0] (mk σ3 τ)) (fun σ3 => ?_)
  refine im_st (s_getI (tag := 9) (j := 11) dX9_text_28 rfl fl_X9_78 rfl (Nat.le_of_ble_eq_true rfl) rfl) ?_
  refine im_seq (Gm := fun (j4 : Sg) => Go M_X9_text Q 0 0 76 [none, some (.int y1.1), none] [] (mk j4 τ)) ?_ (fun j4 => ?_)
  · refine im_br (r_if_ne (tgt := 76) dX9_text_31 rfl (by decide)) (fun c5 => ?_) (fun c5 => ?_)
    · refine im_st (r_aload_n (i := 0) dX9_text_34 rfl rfl rfl) ?_
      refine im_st (s_getR (b := 1) (tag := 9) (j := 0) dX9_text_35 rfl fl_X9_10 rfl (Nat.le_of_ble_eq_true rfl) rfl rfl) ?_
      refine im_st (r_aload_n (i := 0) dX9_text_38 rfl rfl rfl) ?_
      refine im_st (s_getR (b := 56) (tag := 9) (j := 10) dX9_text_39 rfl fl_X9_74 rfl (Nat.le_of_ble_eq_true rfl) rfl rfl) ?_
      refine im_st (s_getR (b := 57) (tag := 4) (j := 0) dX9_text_42 rfl fl_X9_106 rfl (Nat.le_of_ble_eq_true rfl) rfl rfl) ?_
      refine im_st (r_callV (as := [.ref 57]) (r := none) (kc1 := 0) (ks1 := 0) (st := []) (st1 := []) (e_X7_copyFrom 1 57 σ3 τ isSl_1 isSl_57) mv_X7_copyFrom lk_X9_109 ⟨by decide, by decide⟩ rfl (Nat.le_of_ble_eq_true rfl) (by decide) ⟨_, rfl, rfl⟩ ⟨by decide, by decide⟩ (Nat.le_of_ble_eq_true rfl) dX9_text_45 rfl rfl rfl rfl rfl) ?_
      refine im_st (r_aload_n (i := 0) dX9_text_48 rfl rfl rfl) ?_
      refine im_st (s_getR (b := 30) (tag := 9) (j := 6) dX9_text_49 rfl fl_X9_50 rfl (Nat.le_of_ble_eq_true rfl) rfl rfl) ?_
      refine im_st (r_iconst (v := 0) dX9_text_52 rfl kI_0) ?_
      refine im_app (Gm := fun (σ6 : Sg) => Go M_X9_text Q 0 0 53 [some (.ref 0), some (.int y1.1), none] [.int (0 : Int32), .ref 30] (mk σ6 τ)) (fun σ6 => ?_)
      refine im_st (s_putI (tag := 5) (j := 3) dX9_text_53 rfl fl_X9_112 rfl (Nat.le_of_ble_eq_true rfl) rfl fw_5_3) ?_
      refine im_st (r_iconst (v := 0) dX9_text_56 rfl kI_0) ?_
      refine im_st (r_istore_n (i := 2) (L1 := [some (.ref 0), some (.int y1.1), some (.int (0 : Int32))]) dX9_text_57 rfl rfl (by decide) rfl) ?_
      refine im_app (Gm := fun (σ7 : Sg) => Go M_X9_text Q 0 0 58 [some (.ref 0), some (.int y1.1), some (.int (0 : Int32))] [] (mk σ7 τ)) (fun σ7 => ?_)
      refine im_seq (Gm := fun (e11 : (Int32 × Sg)) => Go M_X9_text Q 0 0 76 [none, some (.int y1.1), none] [] (mk e11.2 τ)) ?_ (fun e11 => ?_)
      · refine im_wh (G := fun (s8 : (Int32 × Sg)) => Go M_X9_text Q 0 0 58 [some (.ref 0), some (.int y1.1), some (.int s8.1)] [] (mk s8.2 τ)) (fun s8 => ?_) _ _
        unfold b_X9_text_58
        refine im_st (r_iload_n (i := 2) dX9_text_58 rfl rfl rfl) ?_
        refine im_st (r_iconst (v := 2) dX9_text_59 rfl kI_2) ?_
        refine im_br (r_icmp_ge (tgt := 76) dX9_text_60 rfl (by decide)) (fun c9 => ?_) (fun c9 => ?_)
        · refine im_st (r_fgt (L1 := [none, some (.int y1.1), none]) [0, 2] rfl) ?_
          exact im_ret id
        · refine im_st (r_aload_n (i := 0) dX9_text_63 rfl rfl rfl) ?_
          refine im_st (s_getR (b := 35) (tag := 9) (j := 8) dX9_text_64 rfl fl_X9_58 rfl (Nat.le_of_ble_eq_true rfl) rfl rfl) ?_
          refine im_st (r_iload_n (i := 2) dX9_text_67 rfl rfl rfl) ?_
          refine im_st (r_iconst (v := 0) dX9_text_68 rfl kI_0) ?_
          refine im_grd (fun g10 => ?_)
          refine im_st (s_zastore dX9_text_69 rfl rfl (Nat.le_of_ble_eq_true rfl) (inR_in g10) rfl) ?_
          refine im_st (r_iinc (i := 2) (x := s8.1) (v := (s8.1 + 1)) (L1 := [some (.ref 0), some (.int y1.1), some (.int (s8.1 + 1))]) dX9_text_70 rfl rfl rfl (by decide) rfl) ?_
          refine im_st (r_goto (pc1 := 58) dX9_text_73 (by decide)) ?_
          exact im_ret id
      exact im_ret id
    · refine im_st (r_fgt (L1 := [none, some (.int y1.1), none]) [0] rfl) ?_
      exact im_ret id
  refine im_st (r_iload_n (i := 1) dX9_text_76 rfl rfl rfl) ?_
  exact im_ret (fun q => g_iret rfl rfl rfl dX9_text_77 q)
theorem e_X9_text (σ : Sg) (τ : Sl) (y : (Int32 × Sg)) (hy : f_X9_text σ = some y) : EvD M_X9_text [.ref 0] (mk σ τ) (some (.int y.1)) (mk y.2 τ) := EvM.of (by decide +kernel) (Nat.le_of_ble_eq_true rfl) (i_X9_text σ τ _ y hy ⟨rfl, rfl⟩)
def M_X9_fault : Ms := (yX9_fault, cX9_fault, 1, some .int, 0, 0, 0, 0)
theorem mv_X9_fault : MV M_X9_fault 0 := ⟨⟨q521, q1, by decide, by decide, by decide +kernel⟩, q519, q520⟩
def f_X9_fault (σ : Sg) : Int32 :=
  (σ 0 11)
set_option maxHeartbeats 4000000 in
set_option maxRecDepth 20000 in
theorem i_X9_fault (σ : Sg) (τ : Sl) (Q : Option Value → Hp → Prop) : Imp (some (f_X9_fault σ)) (fun (y : Int32) => Q (some (.int y)) (mk σ τ)) (Go M_X9_fault Q 0 0 0 [some (.ref 0)] [] (mk σ τ)) := by
  unfold f_X9_fault
  refine im_st (r_aload_n (i := 0) dX9_fault_0 rfl rfl rfl) ?_
  refine im_st (s_getI (tag := 9) (j := 11) dX9_fault_1 rfl fl_X9_78 rfl (Nat.le_of_ble_eq_true rfl) rfl) ?_
  exact im_ret (fun q => g_iret rfl rfl rfl dX9_fault_4 q)
theorem e_X9_fault (σ : Sg) (τ : Sl) : EvD M_X9_fault [.ref 0] (mk σ τ) (some (.int (f_X9_fault σ))) (mk σ τ) := EvM.of (by decide +kernel) (Nat.le_of_ble_eq_true rfl) (i_X9_fault σ τ _ _ rfl ⟨rfl, rfl⟩)
def M_X9_rule : Ms := (yX9_rule, cX9_rule, 2, some .int, 5, 107, 0, 0)
theorem mv_X9_rule : MV M_X9_rule 1 := ⟨⟨q525, q1, by decide, by decide, by decide +kernel⟩, q523, q524⟩
def f_X9_rule (a1 : Int32) (σ : Sg) : Option (Int32 × Sg) :=
  if a1 = 0 then
    some ((σ 1 2), σ)
  else
    if a1 = 1 then
      some ((σ 1 4), σ)
    else
      if a1 = 2 then
        some ((σ 1 7), σ)
      else
        if a1 = 3 then
          some ((σ 1 10), σ)
        else
          if a1 = 4 then
            (f_X2_decided 1 σ).bind fun (y6 : (Int32 × Sg)) =>
            some (y6.1, y6.2)
          else
            if a1 = 5 then
              (f_X2_opened 1 σ).bind fun (y8 : (Int32 × Sg)) =>
              some (y8.1, y8.2)
            else
              some ((-1 : Int32), σ)
set_option maxHeartbeats 4000000 in
set_option maxRecDepth 20000 in
theorem i_X9_rule (a1 : Int32) (σ : Sg) (τ : Sl) (Q : Option Value → Hp → Prop) : Imp (f_X9_rule a1 σ) (fun (y : (Int32 × Sg)) => Q (some (.int y.1)) (mk y.2 τ)) (Go M_X9_rule Q 0 0 0 [some (.ref 0), some (.int a1)] [] (mk σ τ)) := by
  unfold f_X9_rule
  refine im_st (r_iload_n (i := 1) dX9_rule_0 rfl rfl rfl) ?_
  refine im_if (fun c1 => ?_) (fun c1 => ?_)
  · refine im_st (r_tin (off := 39) (pc1 := 40) dX9_rule_1 (by rw [c1]; decide) (by rw [c1]; decide) (by rw [c1]; rfl) (by decide)) ?_
    refine im_st (r_aload_n (i := 0) dX9_rule_40 rfl rfl rfl) ?_
    refine im_st (s_getR (b := 1) (tag := 9) (j := 0) dX9_rule_41 rfl fl_X9_10 rfl (Nat.le_of_ble_eq_true rfl) rfl rfl) ?_
    refine im_st (s_getI (tag := 7) (j := 2) dX9_rule_44 rfl fl_X9_115 rfl (Nat.le_of_ble_eq_true rfl) rfl) ?_
    exact im_ret (fun q => g_iret rfl rfl rfl dX9_rule_47 q)
  · refine im_if (fun c2 => ?_) (fun c2 => ?_)
    · refine im_st (r_tin (off := 47) (pc1 := 48) dX9_rule_1 (by rw [c2]; decide) (by rw [c2]; decide) (by rw [c2]; rfl) (by decide)) ?_
      refine im_st (r_aload_n (i := 0) dX9_rule_48 rfl rfl rfl) ?_
      refine im_st (s_getR (b := 1) (tag := 9) (j := 0) dX9_rule_49 rfl fl_X9_10 rfl (Nat.le_of_ble_eq_true rfl) rfl rfl) ?_
      refine im_st (s_getI (tag := 7) (j := 4) dX9_rule_52 rfl fl_X9_118 rfl (Nat.le_of_ble_eq_true rfl) rfl) ?_
      exact im_ret (fun q => g_iret rfl rfl rfl dX9_rule_55 q)
    · refine im_if (fun c3 => ?_) (fun c3 => ?_)
      · refine im_st (r_tin (off := 55) (pc1 := 56) dX9_rule_1 (by rw [c3]; decide) (by rw [c3]; decide) (by rw [c3]; rfl) (by decide)) ?_
        refine im_st (r_aload_n (i := 0) dX9_rule_56 rfl rfl rfl) ?_
        refine im_st (s_getR (b := 1) (tag := 9) (j := 0) dX9_rule_57 rfl fl_X9_10 rfl (Nat.le_of_ble_eq_true rfl) rfl rfl) ?_
        refine im_st (s_getI (tag := 7) (j := 7) dX9_rule_60 rfl fl_X9_121 rfl (Nat.le_of_ble_eq_true rfl) rfl) ?_
        exact im_ret (fun q => g_iret rfl rfl rfl dX9_rule_63 q)
      · refine im_if (fun c4 => ?_) (fun c4 => ?_)
        · refine im_st (r_tin (off := 63) (pc1 := 64) dX9_rule_1 (by rw [c4]; decide) (by rw [c4]; decide) (by rw [c4]; rfl) (by decide)) ?_
          refine im_st (r_aload_n (i := 0) dX9_rule_64 rfl rfl rfl) ?_
          refine im_st (s_getR (b := 1) (tag := 9) (j := 0) dX9_rule_65 rfl fl_X9_10 rfl (Nat.le_of_ble_eq_true rfl) rfl rfl) ?_
          refine im_st (s_getI (tag := 7) (j := 10) dX9_rule_68 rfl fl_X9_124 rfl (Nat.le_of_ble_eq_true rfl) rfl) ?_
          exact im_ret (fun q => g_iret rfl rfl rfl dX9_rule_71 q)
        · refine im_if (fun c5 => ?_) (fun c5 => ?_)
          · refine im_st (r_tin (off := 71) (pc1 := 72) dX9_rule_1 (by rw [c5]; decide) (by rw [c5]; decide) (by rw [c5]; rfl) (by decide)) ?_
            refine im_st (r_aload_n (i := 0) dX9_rule_72 rfl rfl rfl) ?_
            refine im_st (s_getR (b := 10) (tag := 9) (j := 1) dX9_rule_73 rfl fl_X9_21 rfl (Nat.le_of_ble_eq_true rfl) rfl rfl) ?_
            refine im_bind (fun y6 hy6 => ?_)
            refine im_st (r_callV (as := []) (r := some (.int y6.1)) (kc1 := 0) (ks1 := 0) (st := []) (st1 := [.int y6.1]) (e_X2_decided 1 σ τ isCt_1 y6 hy6) mv_X2_decided lk_X9_127 ⟨by decide, by decide⟩ rfl (Nat.le_of_ble_eq_true rfl) (by decide) ⟨_, rfl, rfl⟩ ⟨by decide, by decide⟩ (Nat.le_of_ble_eq_true rfl) dX9_rule_76 rfl rfl rfl rfl rfl) ?_
            exact im_ret (fun q => g_iret rfl rfl rfl dX9_rule_79 q)
          · refine im_if (fun c7 => ?_) (fun c7 => ?_)
            · refine im_st (r_tin (off := 79) (pc1 := 80) dX9_rule_1 (by rw [c7]; decide) (by rw [c7]; decide) (by rw [c7]; rfl) (by decide)) ?_
              refine im_st (r_aload_n (i := 0) dX9_rule_80 rfl rfl rfl) ?_
              refine im_st (s_getR (b := 10) (tag := 9) (j := 1) dX9_rule_81 rfl fl_X9_21 rfl (Nat.le_of_ble_eq_true rfl) rfl rfl) ?_
              refine im_bind (fun y8 hy8 => ?_)
              refine im_st (r_callV (as := []) (r := some (.int y8.1)) (kc1 := 0) (ks1 := 0) (st := []) (st1 := [.int y8.1]) (e_X2_opened 1 σ τ isCt_1 y8 hy8) mv_X2_opened lk_X9_130 ⟨by decide, by decide⟩ rfl (Nat.le_of_ble_eq_true rfl) (by decide) ⟨_, rfl, rfl⟩ ⟨by decide, by decide⟩ (Nat.le_of_ble_eq_true rfl) dX9_rule_84 rfl rfl rfl rfl rfl) ?_
              exact im_ret (fun q => g_iret rfl rfl rfl dX9_rule_87 q)
            · refine im_st (r_tout (pc1 := 88) dX9_rule_1 (by have h0 := tsw_not c1 (a := 0) (by decide); have h1 := tsw_not c2 (a := 1) (by decide); have h2 := tsw_not c3 (a := 2) (by decide); have h3 := tsw_not c4 (a := 3) (by decide); have h4 := tsw_not c5 (a := 4) (by decide); have h5 := tsw_not c7 (a := 5) (by decide); omega) (by decide)) ?_
              refine im_st (r_iconst (v := -1) dX9_rule_88 rfl kI_m1) ?_
              exact im_ret (fun q => g_iret rfl rfl rfl dX9_rule_89 q)
theorem e_X9_rule (a1 : Int32) (σ : Sg) (τ : Sl) (y : (Int32 × Sg)) (hy : f_X9_rule a1 σ = some y) : EvD M_X9_rule [.ref 0, .int a1] (mk σ τ) (some (.int y.1)) (mk y.2 τ) := EvM.of (by decide +kernel) (Nat.le_of_ble_eq_true rfl) (i_X9_rule a1 σ τ _ y hy ⟨rfl, rfl⟩)
def M_X9_peg : Ms := (yX9_peg, cX9_peg, 3, some .int, 5, 108, 0, 0)
theorem mv_X9_peg : MV M_X9_peg 2 := ⟨⟨q576, q1, by decide, by decide, by decide +kernel⟩, q574, q575⟩
def f_X9_peg (a1 : Int32) (a2 : Int32) (σ : Sg) : Option (Int32 × Sg) :=
  if (f_X7_isPeg 1 a1 σ) = 0 then
    some ((-1 : Int32), σ)
  else
    if a2 = 0 then
      if inR a1 7 then
      some ((σ 2 a1.toNatClampNeg), σ)
      else none
    else
      if a2 = 1 then
        if inR a1 7 then
        some ((σ 3 a1.toNatClampNeg), σ)
        else none
      else
        if a2 = 2 then
          (f_X2_restedOn 1 a1 σ).bind fun (y7 : (Int32 × Sg)) =>
          some (y7.1, y7.2)
        else
          some ((-1 : Int32), σ)
set_option maxHeartbeats 4000000 in
set_option maxRecDepth 20000 in
theorem i_X9_peg (a1 : Int32) (a2 : Int32) (σ : Sg) (τ : Sl) (Q : Option Value → Hp → Prop) : Imp (f_X9_peg a1 a2 σ) (fun (y : (Int32 × Sg)) => Q (some (.int y.1)) (mk y.2 τ)) (Go M_X9_peg Q 0 0 0 [some (.ref 0), some (.int a1), some (.int a2)] [] (mk σ τ)) := by
  unfold f_X9_peg
  refine im_st (r_aload_n (i := 0) dX9_peg_0 rfl rfl rfl) ?_
  refine im_st (s_getR (b := 1) (tag := 9) (j := 0) dX9_peg_1 rfl fl_X9_10 rfl (Nat.le_of_ble_eq_true rfl) rfl rfl) ?_
  refine im_st (r_iload_n (i := 1) dX9_peg_4 rfl rfl rfl) ?_
  refine im_st (r_callV (as := [.int a1]) (r := some (.int (f_X7_isPeg 1 a1 σ))) (kc1 := 0) (ks1 := 0) (st := []) (st1 := [.int (f_X7_isPeg 1 a1 σ)]) (e_X7_isPeg 1 a1 σ τ isSl_1) mv_X7_isPeg lk_X9_133 ⟨by decide, by decide⟩ rfl (Nat.le_of_ble_eq_true rfl) (by decide) ⟨_, rfl, rfl⟩ ⟨by decide, by decide⟩ (Nat.le_of_ble_eq_true rfl) dX9_peg_5 rfl rfl rfl rfl rfl) ?_
  refine im_br (r_if_ne (tgt := 13) dX9_peg_8 rfl (by decide)) (fun c1 => ?_) (fun c1 => ?_)
  · refine im_st (r_iconst (v := -1) dX9_peg_11 rfl kI_m1) ?_
    exact im_ret (fun q => g_iret rfl rfl rfl dX9_peg_12 q)
  · refine im_st (r_iload_n (i := 2) dX9_peg_13 rfl rfl rfl) ?_
    refine im_if (fun c2 => ?_) (fun c2 => ?_)
    · refine im_st (r_tin (off := 26) (pc1 := 40) dX9_peg_14 (by rw [c2]; decide) (by rw [c2]; decide) (by rw [c2]; rfl) (by decide)) ?_
      refine im_st (r_aload_n (i := 0) dX9_peg_40 rfl rfl rfl) ?_
      refine im_st (s_getR (b := 1) (tag := 9) (j := 0) dX9_peg_41 rfl fl_X9_10 rfl (Nat.le_of_ble_eq_true rfl) rfl rfl) ?_
      refine im_st (s_getR (b := 2) (tag := 7) (j := 0) dX9_peg_44 rfl fl_X9_137 rfl (Nat.le_of_ble_eq_true rfl) rfl rfl) ?_
      refine im_st (r_iload_n (i := 1) dX9_peg_47 rfl rfl rfl) ?_
      refine im_grd (fun g3 => ?_)
      refine im_st (s_iaload dX9_peg_48 rfl rfl (Nat.le_of_ble_eq_true rfl) (inR_in g3)) ?_
      exact im_ret (fun q => g_iret rfl rfl rfl dX9_peg_49 q)
    · refine im_if (fun c4 => ?_) (fun c4 => ?_)
      · refine im_st (r_tin (off := 36) (pc1 := 50) dX9_peg_14 (by rw [c4]; decide) (by rw [c4]; decide) (by rw [c4]; rfl) (by decide)) ?_
        refine im_st (r_aload_n (i := 0) dX9_peg_50 rfl rfl rfl) ?_
        refine im_st (s_getR (b := 1) (tag := 9) (j := 0) dX9_peg_51 rfl fl_X9_10 rfl (Nat.le_of_ble_eq_true rfl) rfl rfl) ?_
        refine im_st (s_getR (b := 3) (tag := 7) (j := 1) dX9_peg_54 rfl fl_X9_141 rfl (Nat.le_of_ble_eq_true rfl) rfl rfl) ?_
        refine im_st (r_iload_n (i := 1) dX9_peg_57 rfl rfl rfl) ?_
        refine im_grd (fun g5 => ?_)
        refine im_st (s_iaload dX9_peg_58 rfl rfl (Nat.le_of_ble_eq_true rfl) (inR_in g5)) ?_
        exact im_ret (fun q => g_iret rfl rfl rfl dX9_peg_59 q)
      · refine im_if (fun c6 => ?_) (fun c6 => ?_)
        · refine im_st (r_tin (off := 46) (pc1 := 60) dX9_peg_14 (by rw [c6]; decide) (by rw [c6]; decide) (by rw [c6]; rfl) (by decide)) ?_
          refine im_st (r_aload_n (i := 0) dX9_peg_60 rfl rfl rfl) ?_
          refine im_st (s_getR (b := 10) (tag := 9) (j := 1) dX9_peg_61 rfl fl_X9_21 rfl (Nat.le_of_ble_eq_true rfl) rfl rfl) ?_
          refine im_st (r_iload_n (i := 1) dX9_peg_64 rfl rfl rfl) ?_
          refine im_bind (fun y7 hy7 => ?_)
          refine im_st (r_callV (as := [.int a1]) (r := some (.int y7.1)) (kc1 := 0) (ks1 := 0) (st := []) (st1 := [.int y7.1]) (e_X2_restedOn 1 a1 σ τ isCt_1 y7 hy7) mv_X2_restedOn lk_X9_144 ⟨by decide, by decide⟩ rfl (Nat.le_of_ble_eq_true rfl) (by decide) ⟨_, rfl, rfl⟩ ⟨by decide, by decide⟩ (Nat.le_of_ble_eq_true rfl) dX9_peg_65 rfl rfl rfl rfl rfl) ?_
          exact im_ret (fun q => g_iret rfl rfl rfl dX9_peg_68 q)
        · refine im_st (r_tout (pc1 := 69) dX9_peg_14 (by have h0 := tsw_not c2 (a := 0) (by decide); have h1 := tsw_not c4 (a := 1) (by decide); have h2 := tsw_not c6 (a := 2) (by decide); omega) (by decide)) ?_
          refine im_st (r_iconst (v := -1) dX9_peg_69 rfl kI_m1) ?_
          exact im_ret (fun q => g_iret rfl rfl rfl dX9_peg_70 q)
theorem e_X9_peg (a1 : Int32) (a2 : Int32) (σ : Sg) (τ : Sl) (y : (Int32 × Sg)) (hy : f_X9_peg a1 a2 σ = some y) : EvD M_X9_peg [.ref 0, .int a1, .int a2] (mk σ τ) (some (.int y.1)) (mk y.2 τ) := EvM.of (by decide +kernel) (Nat.le_of_ble_eq_true rfl) (i_X9_peg a1 a2 σ τ _ y hy ⟨rfl, rfl⟩)
def M_X9_slug : Ms := (yX9_slug, cX9_slug, 2, some .int, 1, 21, 0, 0)
theorem mv_X9_slug : MV M_X9_slug 1 := ⟨⟨q585, q1, by decide, by decide, by decide +kernel⟩, q583, q584⟩
def f_X9_slug (a1 : Int32) (σ : Sg) : Option Int32 :=
  if (f_X7_isSlug 1 a1 σ) = 0 then
    some (-1 : Int32)
  else
    if inR a1 4 then
    some (σ 4 a1.toNatClampNeg)
    else none
set_option maxHeartbeats 4000000 in
set_option maxRecDepth 20000 in
theorem i_X9_slug (a1 : Int32) (σ : Sg) (τ : Sl) (Q : Option Value → Hp → Prop) : Imp (f_X9_slug a1 σ) (fun (y : Int32) => Q (some (.int y)) (mk σ τ)) (Go M_X9_slug Q 0 0 0 [some (.ref 0), some (.int a1)] [] (mk σ τ)) := by
  unfold f_X9_slug
  refine im_st (r_aload_n (i := 0) dX9_slug_0 rfl rfl rfl) ?_
  refine im_st (s_getR (b := 1) (tag := 9) (j := 0) dX9_slug_1 rfl fl_X9_10 rfl (Nat.le_of_ble_eq_true rfl) rfl rfl) ?_
  refine im_st (r_iload_n (i := 1) dX9_slug_4 rfl rfl rfl) ?_
  refine im_st (r_callV (as := [.int a1]) (r := some (.int (f_X7_isSlug 1 a1 σ))) (kc1 := 0) (ks1 := 0) (st := []) (st1 := [.int (f_X7_isSlug 1 a1 σ)]) (e_X7_isSlug 1 a1 σ τ isSl_1) mv_X7_isSlug lk_X9_147 ⟨by decide, by decide⟩ rfl (Nat.le_of_ble_eq_true rfl) (by decide) ⟨_, rfl, rfl⟩ ⟨by decide, by decide⟩ (Nat.le_of_ble_eq_true rfl) dX9_slug_5 rfl rfl rfl rfl rfl) ?_
  refine im_br (r_if_eq (tgt := 23) dX9_slug_8 rfl (by decide)) (fun c1 => ?_) (fun c1 => ?_)
  · refine im_st (r_iconst (v := -1) dX9_slug_23 rfl kI_m1) ?_
    exact im_ret (fun q => g_iret rfl rfl rfl dX9_slug_24 q)
  · refine im_st (r_aload_n (i := 0) dX9_slug_11 rfl rfl rfl) ?_
    refine im_st (s_getR (b := 1) (tag := 9) (j := 0) dX9_slug_12 rfl fl_X9_10 rfl (Nat.le_of_ble_eq_true rfl) rfl rfl) ?_
    refine im_st (s_getR (b := 4) (tag := 7) (j := 3) dX9_slug_15 rfl fl_X9_150 rfl (Nat.le_of_ble_eq_true rfl) rfl rfl) ?_
    refine im_st (r_iload_n (i := 1) dX9_slug_18 rfl rfl rfl) ?_
    refine im_grd (fun g2 => ?_)
    refine im_st (s_iaload dX9_slug_19 rfl rfl (Nat.le_of_ble_eq_true rfl) (inR_in g2)) ?_
    refine im_st (r_goto (pc1 := 24) dX9_slug_20 (by decide)) ?_
    exact im_ret (fun q => g_iret rfl rfl rfl dX9_slug_24 q)
theorem e_X9_slug (a1 : Int32) (σ : Sg) (τ : Sl) (y : Int32) (hy : f_X9_slug a1 σ = some y) : EvD M_X9_slug [.ref 0, .int a1] (mk σ τ) (some (.int y)) (mk σ τ) := EvM.of (by decide +kernel) (Nat.le_of_ble_eq_true rfl) (i_X9_slug a1 σ τ _ y hy ⟨rfl, rfl⟩)
def M_X9_hedgehog : Ms := (yX9_hedgehog, cX9_hedgehog, 3, some .int, 5, 108, 0, 0)
theorem mv_X9_hedgehog : MV M_X9_hedgehog 2 := ⟨⟨q593, q1, by decide, by decide, by decide +kernel⟩, q591, q592⟩
def f_X9_hedgehog (a1 : Int32) (a2 : Int32) (σ : Sg) : Option (Int32 × Sg) :=
  if (f_X7_isHedgehog 1 a1 σ) = 0 then
    some ((-1 : Int32), σ)
  else
    if a2 = 0 then
      if inR a1 4 then
      some ((σ 5 a1.toNatClampNeg), σ)
      else none
    else
      if a2 = 1 then
        if inR a1 4 then
        some ((σ 6 a1.toNatClampNeg), σ)
        else none
      else
        if a2 = 2 then
          if inR a1 4 then
          some ((f_X1_loss (σ 5 a1.toNatClampNeg)), σ)
          else none
        else
          if a2 = 3 then
            (f_X2_restingColumns 1 a1 σ).bind fun (y9 : (Int32 × Sg)) =>
            some (y9.1, y9.2)
          else
            some ((-1 : Int32), σ)
set_option maxHeartbeats 4000000 in
set_option maxRecDepth 20000 in
theorem i_X9_hedgehog (a1 : Int32) (a2 : Int32) (σ : Sg) (τ : Sl) (Q : Option Value → Hp → Prop) : Imp (f_X9_hedgehog a1 a2 σ) (fun (y : (Int32 × Sg)) => Q (some (.int y.1)) (mk y.2 τ)) (Go M_X9_hedgehog Q 0 0 0 [some (.ref 0), some (.int a1), some (.int a2)] [] (mk σ τ)) := by
  unfold f_X9_hedgehog
  refine im_st (r_aload_n (i := 0) dX9_hedgehog_0 rfl rfl rfl) ?_
  refine im_st (s_getR (b := 1) (tag := 9) (j := 0) dX9_hedgehog_1 rfl fl_X9_10 rfl (Nat.le_of_ble_eq_true rfl) rfl rfl) ?_
  refine im_st (r_iload_n (i := 1) dX9_hedgehog_4 rfl rfl rfl) ?_
  refine im_st (r_callV (as := [.int a1]) (r := some (.int (f_X7_isHedgehog 1 a1 σ))) (kc1 := 0) (ks1 := 0) (st := []) (st1 := [.int (f_X7_isHedgehog 1 a1 σ)]) (e_X7_isHedgehog 1 a1 σ τ isSl_1) mv_X7_isHedgehog lk_X9_153 ⟨by decide, by decide⟩ rfl (Nat.le_of_ble_eq_true rfl) (by decide) ⟨_, rfl, rfl⟩ ⟨by decide, by decide⟩ (Nat.le_of_ble_eq_true rfl) dX9_hedgehog_5 rfl rfl rfl rfl rfl) ?_
  refine im_br (r_if_ne (tgt := 13) dX9_hedgehog_8 rfl (by decide)) (fun c1 => ?_) (fun c1 => ?_)
  · refine im_st (r_iconst (v := -1) dX9_hedgehog_11 rfl kI_m1) ?_
    exact im_ret (fun q => g_iret rfl rfl rfl dX9_hedgehog_12 q)
  · refine im_st (r_iload_n (i := 2) dX9_hedgehog_13 rfl rfl rfl) ?_
    refine im_if (fun c2 => ?_) (fun c2 => ?_)
    · refine im_st (r_tin (off := 30) (pc1 := 44) dX9_hedgehog_14 (by rw [c2]; decide) (by rw [c2]; decide) (by rw [c2]; rfl) (by decide)) ?_
      refine im_st (r_aload_n (i := 0) dX9_hedgehog_44 rfl rfl rfl) ?_
      refine im_st (s_getR (b := 1) (tag := 9) (j := 0) dX9_hedgehog_45 rfl fl_X9_10 rfl (Nat.le_of_ble_eq_true rfl) rfl rfl) ?_
      refine im_st (s_getR (b := 5) (tag := 7) (j := 5) dX9_hedgehog_48 rfl fl_X9_156 rfl (Nat.le_of_ble_eq_true rfl) rfl rfl) ?_
      refine im_st (r_iload_n (i := 1) dX9_hedgehog_51 rfl rfl rfl) ?_
      refine im_grd (fun g3 => ?_)
      refine im_st (s_iaload dX9_hedgehog_52 rfl rfl (Nat.le_of_ble_eq_true rfl) (inR_in g3)) ?_
      exact im_ret (fun q => g_iret rfl rfl rfl dX9_hedgehog_53 q)
    · refine im_if (fun c4 => ?_) (fun c4 => ?_)
      · refine im_st (r_tin (off := 40) (pc1 := 54) dX9_hedgehog_14 (by rw [c4]; decide) (by rw [c4]; decide) (by rw [c4]; rfl) (by decide)) ?_
        refine im_st (r_aload_n (i := 0) dX9_hedgehog_54 rfl rfl rfl) ?_
        refine im_st (s_getR (b := 1) (tag := 9) (j := 0) dX9_hedgehog_55 rfl fl_X9_10 rfl (Nat.le_of_ble_eq_true rfl) rfl rfl) ?_
        refine im_st (s_getR (b := 6) (tag := 7) (j := 6) dX9_hedgehog_58 rfl fl_X9_159 rfl (Nat.le_of_ble_eq_true rfl) rfl rfl) ?_
        refine im_st (r_iload_n (i := 1) dX9_hedgehog_61 rfl rfl rfl) ?_
        refine im_grd (fun g5 => ?_)
        refine im_st (s_iaload dX9_hedgehog_62 rfl rfl (Nat.le_of_ble_eq_true rfl) (inR_in g5)) ?_
        exact im_ret (fun q => g_iret rfl rfl rfl dX9_hedgehog_63 q)
      · refine im_if (fun c6 => ?_) (fun c6 => ?_)
        · refine im_st (r_tin (off := 50) (pc1 := 64) dX9_hedgehog_14 (by rw [c6]; decide) (by rw [c6]; decide) (by rw [c6]; rfl) (by decide)) ?_
          refine im_st (r_aload_n (i := 0) dX9_hedgehog_64 rfl rfl rfl) ?_
          refine im_st (s_getR (b := 1) (tag := 9) (j := 0) dX9_hedgehog_65 rfl fl_X9_10 rfl (Nat.le_of_ble_eq_true rfl) rfl rfl) ?_
          refine im_st (s_getR (b := 5) (tag := 7) (j := 5) dX9_hedgehog_68 rfl fl_X9_156 rfl (Nat.le_of_ble_eq_true rfl) rfl rfl) ?_
          refine im_st (r_iload_n (i := 1) dX9_hedgehog_71 rfl rfl rfl) ?_
          refine im_grd (fun g7 => ?_)
          refine im_st (s_iaload dX9_hedgehog_72 rfl rfl (Nat.le_of_ble_eq_true rfl) (inR_in g7)) ?_
          refine im_st (r_callS (as := [.int (σ 5 a1.toNatClampNeg)]) (r := some (.int (f_X1_loss (σ 5 a1.toNatClampNeg)))) (kc1 := 0) (ks1 := 0) (st := []) (st1 := [.int (f_X1_loss (σ 5 a1.toNatClampNeg))]) (e_X1_loss (σ 5 a1.toNatClampNeg) σ τ) ms_X1_loss lk_X9_162 ⟨by decide, by decide⟩ ⟨by decide, by decide⟩ (Nat.le_of_ble_eq_true rfl) dX9_hedgehog_73 rfl rfl rfl rfl rfl) ?_
          exact im_ret (fun q => g_iret rfl rfl rfl dX9_hedgehog_76 q)
        · refine im_if (fun c8 => ?_) (fun c8 => ?_)
          · refine im_st (r_tin (off := 63) (pc1 := 77) dX9_hedgehog_14 (by rw [c8]; decide) (by rw [c8]; decide) (by rw [c8]; rfl) (by decide)) ?_
            refine im_st (r_aload_n (i := 0) dX9_hedgehog_77 rfl rfl rfl) ?_
            refine im_st (s_getR (b := 10) (tag := 9) (j := 1) dX9_hedgehog_78 rfl fl_X9_21 rfl (Nat.le_of_ble_eq_true rfl) rfl rfl) ?_
            refine im_st (r_iload_n (i := 1) dX9_hedgehog_81 rfl rfl rfl) ?_
            refine im_bind (fun y9 hy9 => ?_)
            refine im_st (r_callV (as := [.int a1]) (r := some (.int y9.1)) (kc1 := 0) (ks1 := 0) (st := []) (st1 := [.int y9.1]) (e_X2_restingColumns 1 a1 σ τ isCt_1 y9 hy9) mv_X2_restingColumns lk_X9_167 ⟨by decide, by decide⟩ rfl (Nat.le_of_ble_eq_true rfl) (by decide) ⟨_, rfl, rfl⟩ ⟨by decide, by decide⟩ (Nat.le_of_ble_eq_true rfl) dX9_hedgehog_82 rfl rfl rfl rfl rfl) ?_
            exact im_ret (fun q => g_iret rfl rfl rfl dX9_hedgehog_85 q)
          · refine im_st (r_tout (pc1 := 86) dX9_hedgehog_14 (by have h0 := tsw_not c2 (a := 0) (by decide); have h1 := tsw_not c4 (a := 1) (by decide); have h2 := tsw_not c6 (a := 2) (by decide); have h3 := tsw_not c8 (a := 3) (by decide); omega) (by decide)) ?_
            refine im_st (r_iconst (v := -1) dX9_hedgehog_86 rfl kI_m1) ?_
            exact im_ret (fun q => g_iret rfl rfl rfl dX9_hedgehog_87 q)
theorem e_X9_hedgehog (a1 : Int32) (a2 : Int32) (σ : Sg) (τ : Sl) (y : (Int32 × Sg)) (hy : f_X9_hedgehog a1 a2 σ = some y) : EvD M_X9_hedgehog [.ref 0, .int a1, .int a2] (mk σ τ) (some (.int y.1)) (mk y.2 τ) := EvM.of (by decide +kernel) (Nat.le_of_ble_eq_true rfl) (i_X9_hedgehog a1 a2 σ τ _ y hy ⟨rfl, rfl⟩)
def M_X9_suit : Ms := (yX9_suit, cX9_suit, 3, some .int, 4, 85, 0, 0)
theorem mv_X9_suit : MV M_X9_suit 2 := ⟨⟨q607, q1, by decide, by decide, by decide +kernel⟩, q605, q606⟩
def f_X9_suit (a1 : Int32) (a2 : Int32) (σ : Sg) : Option (Int32 × Sg) :=
  if (f_X7_isSuit 1 a1 σ) = 0 then
    some ((-1 : Int32), σ)
  else
    if a2 = 0 then
      if inR a1 6 then
      some ((σ 7 a1.toNatClampNeg), σ)
      else none
    else
      if a2 = 1 then
        if inR a1 6 then
        some ((σ 8 a1.toNatClampNeg), σ)
        else none
      else
        if a2 = 2 then
          (f_X2_letGoInSuit 1 a1 σ).bind fun (y7 : Sg) =>
          some ((y7 11 1), y7)
        else
          some ((-1 : Int32), σ)
set_option maxHeartbeats 4000000 in
set_option maxRecDepth 20000 in
theorem i_X9_suit (a1 : Int32) (a2 : Int32) (σ : Sg) (τ : Sl) (Q : Option Value → Hp → Prop) : Imp (f_X9_suit a1 a2 σ) (fun (y : (Int32 × Sg)) => Q (some (.int y.1)) (mk y.2 τ)) (Go M_X9_suit Q 0 0 0 [some (.ref 0), some (.int a1), some (.int a2)] [] (mk σ τ)) := by
  unfold f_X9_suit
  refine im_st (r_aload_n (i := 0) dX9_suit_0 rfl rfl rfl) ?_
  refine im_st (s_getR (b := 1) (tag := 9) (j := 0) dX9_suit_1 rfl fl_X9_10 rfl (Nat.le_of_ble_eq_true rfl) rfl rfl) ?_
  refine im_st (r_iload_n (i := 1) dX9_suit_4 rfl rfl rfl) ?_
  refine im_st (r_callV (as := [.int a1]) (r := some (.int (f_X7_isSuit 1 a1 σ))) (kc1 := 0) (ks1 := 0) (st := []) (st1 := [.int (f_X7_isSuit 1 a1 σ)]) (e_X7_isSuit 1 a1 σ τ isSl_1) mv_X7_isSuit lk_X9_170 ⟨by decide, by decide⟩ rfl (Nat.le_of_ble_eq_true rfl) (by decide) ⟨_, rfl, rfl⟩ ⟨by decide, by decide⟩ (Nat.le_of_ble_eq_true rfl) dX9_suit_5 rfl rfl rfl rfl rfl) ?_
  refine im_br (r_if_ne (tgt := 13) dX9_suit_8 rfl (by decide)) (fun c1 => ?_) (fun c1 => ?_)
  · refine im_st (r_iconst (v := -1) dX9_suit_11 rfl kI_m1) ?_
    exact im_ret (fun q => g_iret rfl rfl rfl dX9_suit_12 q)
  · refine im_st (r_iload_n (i := 2) dX9_suit_13 rfl rfl rfl) ?_
    refine im_if (fun c2 => ?_) (fun c2 => ?_)
    · refine im_st (r_tin (off := 26) (pc1 := 40) dX9_suit_14 (by rw [c2]; decide) (by rw [c2]; decide) (by rw [c2]; rfl) (by decide)) ?_
      refine im_st (r_aload_n (i := 0) dX9_suit_40 rfl rfl rfl) ?_
      refine im_st (s_getR (b := 1) (tag := 9) (j := 0) dX9_suit_41 rfl fl_X9_10 rfl (Nat.le_of_ble_eq_true rfl) rfl rfl) ?_
      refine im_st (s_getR (b := 7) (tag := 7) (j := 8) dX9_suit_44 rfl fl_X9_173 rfl (Nat.le_of_ble_eq_true rfl) rfl rfl) ?_
      refine im_st (r_iload_n (i := 1) dX9_suit_47 rfl rfl rfl) ?_
      refine im_grd (fun g3 => ?_)
      refine im_st (s_iaload dX9_suit_48 rfl rfl (Nat.le_of_ble_eq_true rfl) (inR_in g3)) ?_
      exact im_ret (fun q => g_iret rfl rfl rfl dX9_suit_49 q)
    · refine im_if (fun c4 => ?_) (fun c4 => ?_)
      · refine im_st (r_tin (off := 36) (pc1 := 50) dX9_suit_14 (by rw [c4]; decide) (by rw [c4]; decide) (by rw [c4]; rfl) (by decide)) ?_
        refine im_st (r_aload_n (i := 0) dX9_suit_50 rfl rfl rfl) ?_
        refine im_st (s_getR (b := 1) (tag := 9) (j := 0) dX9_suit_51 rfl fl_X9_10 rfl (Nat.le_of_ble_eq_true rfl) rfl rfl) ?_
        refine im_st (s_getR (b := 8) (tag := 7) (j := 9) dX9_suit_54 rfl fl_X9_176 rfl (Nat.le_of_ble_eq_true rfl) rfl rfl) ?_
        refine im_st (r_iload_n (i := 1) dX9_suit_57 rfl rfl rfl) ?_
        refine im_grd (fun g5 => ?_)
        refine im_st (s_iaload dX9_suit_58 rfl rfl (Nat.le_of_ble_eq_true rfl) (inR_in g5)) ?_
        exact im_ret (fun q => g_iret rfl rfl rfl dX9_suit_59 q)
      · refine im_if (fun c6 => ?_) (fun c6 => ?_)
        · refine im_st (r_tin (off := 46) (pc1 := 60) dX9_suit_14 (by rw [c6]; decide) (by rw [c6]; decide) (by rw [c6]; rfl) (by decide)) ?_
          refine im_st (r_aload_n (i := 0) dX9_suit_60 rfl rfl rfl) ?_
          refine im_st (s_getR (b := 10) (tag := 9) (j := 1) dX9_suit_61 rfl fl_X9_21 rfl (Nat.le_of_ble_eq_true rfl) rfl rfl) ?_
          refine im_st (r_iload_n (i := 1) dX9_suit_64 rfl rfl rfl) ?_
          refine im_bind (fun y7 hy7 => ?_)
          refine im_st (r_callV (as := [.int a1]) (r := some (.ref 11)) (kc1 := 0) (ks1 := 0) (st := []) (st1 := [.ref 11]) (e_X2_letGoInSuit 1 a1 σ τ isCt_1 y7 hy7) mv_X2_letGoInSuit lk_X9_179 ⟨by decide, by decide⟩ rfl (Nat.le_of_ble_eq_true rfl) (by decide) ⟨_, rfl, rfl⟩ ⟨by decide, by decide⟩ (Nat.le_of_ble_eq_true rfl) dX9_suit_65 rfl rfl rfl rfl rfl) ?_
          refine im_st (s_getI (tag := 1) (j := 1) dX9_suit_68 rfl fl_X9_183 rfl (Nat.le_of_ble_eq_true rfl) rfl) ?_
          exact im_ret (fun q => g_iret rfl rfl rfl dX9_suit_71 q)
        · refine im_st (r_tout (pc1 := 72) dX9_suit_14 (by have h0 := tsw_not c2 (a := 0) (by decide); have h1 := tsw_not c4 (a := 1) (by decide); have h2 := tsw_not c6 (a := 2) (by decide); omega) (by decide)) ?_
          refine im_st (r_iconst (v := -1) dX9_suit_72 rfl kI_m1) ?_
          exact im_ret (fun q => g_iret rfl rfl rfl dX9_suit_73 q)
theorem e_X9_suit (a1 : Int32) (a2 : Int32) (σ : Sg) (τ : Sl) (y : (Int32 × Sg)) (hy : f_X9_suit a1 a2 σ = some y) : EvD M_X9_suit [.ref 0, .int a1, .int a2] (mk σ τ) (some (.int y.1)) (mk y.2 τ) := EvM.of (by decide +kernel) (Nat.le_of_ble_eq_true rfl) (i_X9_suit a1 a2 σ τ _ y hy ⟨rfl, rfl⟩)
def M_X9_shift : Ms := (yX9_shift, cX9_shift, 4, some .int, 2, 44, 0, 0)
theorem mv_X9_shift : MV M_X9_shift 2 := ⟨⟨q613, q1, by decide, by decide, by decide +kernel⟩, q611, q612⟩
def f_X9_shift (a1 : Int32) (a2 : Int32) (σ : Sg) : Option (Int32 × Sg) :=
  if (f_X7_isPeg 1 a1 σ) = 0 then
    some ((-1 : Int32), σ)
  else
    if (f_X7_isCell a2) = 0 then
      some ((-1 : Int32), σ)
    else
      if inR a1 7 then
      if a2 = (σ 2 a1.toNatClampNeg) then
        (f_X7_movePeg 1 a1 a2 σ).bind fun (y5 : Sg) =>
        some ((σ 2 a1.toNatClampNeg), y5)
      else
        (f_X7_isFree 1 a2 σ).bind fun (y6 : Int32) =>
        if y6 = 0 then
          some ((-2 : Int32), σ)
        else
          (f_X7_movePeg 1 a1 a2 σ).bind fun (y8 : Sg) =>
          some ((σ 2 a1.toNatClampNeg), y8)
      else none
set_option maxHeartbeats 4000000 in
set_option maxRecDepth 20000 in
theorem i_X9_shift (a1 : Int32) (a2 : Int32) (σ : Sg) (τ : Sl) (Q : Option Value → Hp → Prop) : Imp (f_X9_shift a1 a2 σ) (fun (y : (Int32 × Sg)) => Q (some (.int y.1)) (mk y.2 τ)) (Go M_X9_shift Q 0 0 0 [some (.ref 0), some (.int a1), some (.int a2), none] [] (mk σ τ)) := by
  unfold f_X9_shift
  refine im_st (r_aload_n (i := 0) dX9_shift_0 rfl rfl rfl) ?_
  refine im_st (s_getR (b := 1) (tag := 9) (j := 0) dX9_shift_1 rfl fl_X9_10 rfl (Nat.le_of_ble_eq_true rfl) rfl rfl) ?_
  refine im_st (r_iload_n (i := 1) dX9_shift_4 rfl rfl rfl) ?_
  refine im_st (r_callV (as := [.int a1]) (r := some (.int (f_X7_isPeg 1 a1 σ))) (kc1 := 0) (ks1 := 0) (st := []) (st1 := [.int (f_X7_isPeg 1 a1 σ)]) (e_X7_isPeg 1 a1 σ τ isSl_1) mv_X7_isPeg lk_X9_133 ⟨by decide, by decide⟩ rfl (Nat.le_of_ble_eq_true rfl) (by decide) ⟨_, rfl, rfl⟩ ⟨by decide, by decide⟩ (Nat.le_of_ble_eq_true rfl) dX9_shift_5 rfl rfl rfl rfl rfl) ?_
  refine im_br (r_if_eq (tgt := 18) dX9_shift_8 rfl (by decide)) (fun c1 => ?_) (fun c1 => ?_)
  · refine im_st (r_iconst (v := -1) dX9_shift_18 rfl kI_m1) ?_
    exact im_ret (fun q => g_iret rfl rfl rfl dX9_shift_19 q)
  · refine im_st (r_iload_n (i := 2) dX9_shift_11 rfl rfl rfl) ?_
    refine im_st (r_callS (as := [.int a2]) (r := some (.int (f_X7_isCell a2))) (kc1 := 0) (ks1 := 0) (st := []) (st1 := [.int (f_X7_isCell a2)]) (e_X7_isCell a2 σ τ) ms_X7_isCell lk_X9_186 ⟨by decide, by decide⟩ ⟨by decide, by decide⟩ (Nat.le_of_ble_eq_true rfl) dX9_shift_12 rfl rfl rfl rfl rfl) ?_
    refine im_br (r_if_ne (tgt := 20) dX9_shift_15 rfl (by decide)) (fun c2 => ?_) (fun c2 => ?_)
    · refine im_st (r_iconst (v := -1) dX9_shift_18 rfl kI_m1) ?_
      exact im_ret (fun q => g_iret rfl rfl rfl dX9_shift_19 q)
    · refine im_st (r_aload_n (i := 0) dX9_shift_20 rfl rfl rfl) ?_
      refine im_st (s_getR (b := 1) (tag := 9) (j := 0) dX9_shift_21 rfl fl_X9_10 rfl (Nat.le_of_ble_eq_true rfl) rfl rfl) ?_
      refine im_st (s_getR (b := 2) (tag := 7) (j := 0) dX9_shift_24 rfl fl_X9_137 rfl (Nat.le_of_ble_eq_true rfl) rfl rfl) ?_
      refine im_st (r_iload_n (i := 1) dX9_shift_27 rfl rfl rfl) ?_
      refine im_grd (fun g3 => ?_)
      refine im_st (s_iaload dX9_shift_28 rfl rfl (Nat.le_of_ble_eq_true rfl) (inR_in g3)) ?_
      refine im_st (r_istore_n (i := 3) (L1 := [some (.ref 0), some (.int a1), some (.int a2), some (.int (σ 2 a1.toNatClampNeg))]) dX9_shift_29 rfl rfl (by decide) rfl) ?_
      refine im_st (r_iload_n (i := 2) dX9_shift_30 rfl rfl rfl) ?_
      refine im_st (r_iload_n (i := 3) dX9_shift_31 rfl rfl rfl) ?_
      refine im_br (r_icmp_eq (tgt := 49) dX9_shift_32 rfl (by decide)) (fun c4 => ?_) (fun c4 => ?_)
      · refine im_st (r_aload_n (i := 0) dX9_shift_49 rfl rfl rfl) ?_
        refine im_st (s_getR (b := 1) (tag := 9) (j := 0) dX9_shift_50 rfl fl_X9_10 rfl (Nat.le_of_ble_eq_true rfl) rfl rfl) ?_
        refine im_st (r_iload_n (i := 1) dX9_shift_53 rfl rfl rfl) ?_
        refine im_st (r_iload_n (i := 2) dX9_shift_54 rfl rfl rfl) ?_
        refine im_bind (fun y5 hy5 => ?_)
        refine im_st (r_callV (as := [.int a1, .int a2]) (r := none) (kc1 := 0) (ks1 := 0) (st := []) (st1 := []) (e_X7_movePeg 1 a1 a2 σ τ isSl_1 y5 hy5) mv_X7_movePeg lk_X9_192 ⟨by decide, by decide⟩ rfl (Nat.le_of_ble_eq_true rfl) (by decide) ⟨_, rfl, rfl⟩ ⟨by decide, by decide⟩ (Nat.le_of_ble_eq_true rfl) dX9_shift_55 rfl rfl rfl rfl rfl) ?_
        refine im_st (r_iload_n (i := 3) dX9_shift_58 rfl rfl rfl) ?_
        exact im_ret (fun q => g_iret rfl rfl rfl dX9_shift_59 q)
      · refine im_st (r_aload_n (i := 0) dX9_shift_35 rfl rfl rfl) ?_
        refine im_st (s_getR (b := 1) (tag := 9) (j := 0) dX9_shift_36 rfl fl_X9_10 rfl (Nat.le_of_ble_eq_true rfl) rfl rfl) ?_
        refine im_st (r_iload_n (i := 2) dX9_shift_39 rfl rfl rfl) ?_
        refine im_bind (fun y6 hy6 => ?_)
        refine im_st (r_callV (as := [.int a2]) (r := some (.int y6)) (kc1 := 0) (ks1 := 0) (st := []) (st1 := [.int y6]) (e_X7_isFree 1 a2 σ τ isSl_1 y6 hy6) mv_X7_isFree lk_X9_189 ⟨by decide, by decide⟩ rfl (Nat.le_of_ble_eq_true rfl) (by decide) ⟨_, rfl, rfl⟩ ⟨by decide, by decide⟩ (Nat.le_of_ble_eq_true rfl) dX9_shift_40 rfl rfl rfl rfl rfl) ?_
        refine im_br (r_if_ne (tgt := 49) dX9_shift_43 rfl (by decide)) (fun c7 => ?_) (fun c7 => ?_)
        · refine im_st (r_bipush (v := -2) dX9_shift_46 rfl kB_m2) ?_
          exact im_ret (fun q => g_iret rfl rfl rfl dX9_shift_48 q)
        · refine im_st (r_aload_n (i := 0) dX9_shift_49 rfl rfl rfl) ?_
          refine im_st (s_getR (b := 1) (tag := 9) (j := 0) dX9_shift_50 rfl fl_X9_10 rfl (Nat.le_of_ble_eq_true rfl) rfl rfl) ?_
          refine im_st (r_iload_n (i := 1) dX9_shift_53 rfl rfl rfl) ?_
          refine im_st (r_iload_n (i := 2) dX9_shift_54 rfl rfl rfl) ?_
          refine im_bind (fun y8 hy8 => ?_)
          refine im_st (r_callV (as := [.int a1, .int a2]) (r := none) (kc1 := 0) (ks1 := 0) (st := []) (st1 := []) (e_X7_movePeg 1 a1 a2 σ τ isSl_1 y8 hy8) mv_X7_movePeg lk_X9_192 ⟨by decide, by decide⟩ rfl (Nat.le_of_ble_eq_true rfl) (by decide) ⟨_, rfl, rfl⟩ ⟨by decide, by decide⟩ (Nat.le_of_ble_eq_true rfl) dX9_shift_55 rfl rfl rfl rfl rfl) ?_
          refine im_st (r_iload_n (i := 3) dX9_shift_58 rfl rfl rfl) ?_
          exact im_ret (fun q => g_iret rfl rfl rfl dX9_shift_59 q)
theorem e_X9_shift (a1 : Int32) (a2 : Int32) (σ : Sg) (τ : Sl) (y : (Int32 × Sg)) (hy : f_X9_shift a1 a2 σ = some y) : EvD M_X9_shift [.ref 0, .int a1, .int a2] (mk σ τ) (some (.int y.1)) (mk y.2 τ) := EvM.of (by decide +kernel) (Nat.le_of_ble_eq_true rfl) (i_X9_shift a1 a2 σ τ _ y hy ⟨rfl, rfl⟩)
def M_X9_rag : Ms := (yX9_rag, cX9_rag, 4, some .int, 1, 21, 0, 0)
theorem mv_X9_rag : MV M_X9_rag 2 := ⟨⟨q624, q1, by decide, by decide, by decide +kernel⟩, q622, q623⟩
def f_X9_rag (a1 : Int32) (a2 : Int32) (σ : Sg) : Option (Int32 × Sg) :=
  if (f_X7_isPeg 1 a1 σ) = 0 then
    some ((-1 : Int32), σ)
  else
    if (f_X9_isRag a2) = 0 then
      some ((-1 : Int32), σ)
    else
      if inR a1 7 then
      if inR a1 7 then
      some ((σ 3 a1.toNatClampNeg), (up2 σ 3 a1.toNatClampNeg a2))
      else none
      else none
set_option maxHeartbeats 4000000 in
set_option maxRecDepth 20000 in
theorem i_X9_rag (a1 : Int32) (a2 : Int32) (σ : Sg) (τ : Sl) (Q : Option Value → Hp → Prop) : Imp (f_X9_rag a1 a2 σ) (fun (y : (Int32 × Sg)) => Q (some (.int y.1)) (mk y.2 τ)) (Go M_X9_rag Q 0 0 0 [some (.ref 0), some (.int a1), some (.int a2), none] [] (mk σ τ)) := by
  unfold f_X9_rag
  refine im_st (r_aload_n (i := 0) dX9_rag_0 rfl rfl rfl) ?_
  refine im_st (s_getR (b := 1) (tag := 9) (j := 0) dX9_rag_1 rfl fl_X9_10 rfl (Nat.le_of_ble_eq_true rfl) rfl rfl) ?_
  refine im_st (r_iload_n (i := 1) dX9_rag_4 rfl rfl rfl) ?_
  refine im_st (r_callV (as := [.int a1]) (r := some (.int (f_X7_isPeg 1 a1 σ))) (kc1 := 0) (ks1 := 0) (st := []) (st1 := [.int (f_X7_isPeg 1 a1 σ)]) (e_X7_isPeg 1 a1 σ τ isSl_1) mv_X7_isPeg lk_X9_133 ⟨by decide, by decide⟩ rfl (Nat.le_of_ble_eq_true rfl) (by decide) ⟨_, rfl, rfl⟩ ⟨by decide, by decide⟩ (Nat.le_of_ble_eq_true rfl) dX9_rag_5 rfl rfl rfl rfl rfl) ?_
  refine im_br (r_if_eq (tgt := 18) dX9_rag_8 rfl (by decide)) (fun c1 => ?_) (fun c1 => ?_)
  · refine im_st (r_iconst (v := -1) dX9_rag_18 rfl kI_m1) ?_
    exact im_ret (fun q => g_iret rfl rfl rfl dX9_rag_19 q)
  · refine im_st (r_iload_n (i := 2) dX9_rag_11 rfl rfl rfl) ?_
    refine im_st (r_callS (as := [.int a2]) (r := some (.int (f_X9_isRag a2))) (kc1 := 0) (ks1 := 0) (st := []) (st1 := [.int (f_X9_isRag a2)]) (e_X9_isRag a2 σ τ) ms_X9_isRag lk_X9_196 ⟨by decide, by decide⟩ ⟨by decide, by decide⟩ (Nat.le_of_ble_eq_true rfl) dX9_rag_12 rfl rfl rfl rfl rfl) ?_
    refine im_br (r_if_ne (tgt := 20) dX9_rag_15 rfl (by decide)) (fun c2 => ?_) (fun c2 => ?_)
    · refine im_st (r_iconst (v := -1) dX9_rag_18 rfl kI_m1) ?_
      exact im_ret (fun q => g_iret rfl rfl rfl dX9_rag_19 q)
    · refine im_st (r_aload_n (i := 0) dX9_rag_20 rfl rfl rfl) ?_
      refine im_st (s_getR (b := 1) (tag := 9) (j := 0) dX9_rag_21 rfl fl_X9_10 rfl (Nat.le_of_ble_eq_true rfl) rfl rfl) ?_
      refine im_st (s_getR (b := 3) (tag := 7) (j := 1) dX9_rag_24 rfl fl_X9_141 rfl (Nat.le_of_ble_eq_true rfl) rfl rfl) ?_
      refine im_st (r_iload_n (i := 1) dX9_rag_27 rfl rfl rfl) ?_
      refine im_grd (fun g3 => ?_)
      refine im_st (s_iaload dX9_rag_28 rfl rfl (Nat.le_of_ble_eq_true rfl) (inR_in g3)) ?_
      refine im_st (r_istore_n (i := 3) (L1 := [some (.ref 0), some (.int a1), some (.int a2), some (.int (σ 3 a1.toNatClampNeg))]) dX9_rag_29 rfl rfl (by decide) rfl) ?_
      refine im_st (r_aload_n (i := 0) dX9_rag_30 rfl rfl rfl) ?_
      refine im_st (s_getR (b := 1) (tag := 9) (j := 0) dX9_rag_31 rfl fl_X9_10 rfl (Nat.le_of_ble_eq_true rfl) rfl rfl) ?_
      refine im_st (s_getR (b := 3) (tag := 7) (j := 1) dX9_rag_34 rfl fl_X9_141 rfl (Nat.le_of_ble_eq_true rfl) rfl rfl) ?_
      refine im_st (r_iload_n (i := 1) dX9_rag_37 rfl rfl rfl) ?_
      refine im_st (r_iload_n (i := 2) dX9_rag_38 rfl rfl rfl) ?_
      refine im_grd (fun g4 => ?_)
      refine im_st (s_iastore dX9_rag_39 rfl rfl (Nat.le_of_ble_eq_true rfl) (inR_in g4)) ?_
      refine im_st (r_iload_n (i := 3) dX9_rag_40 rfl rfl rfl) ?_
      exact im_ret (fun q => g_iret rfl rfl rfl dX9_rag_41 q)
theorem e_X9_rag (a1 : Int32) (a2 : Int32) (σ : Sg) (τ : Sl) (y : (Int32 × Sg)) (hy : f_X9_rag a1 a2 σ = some y) : EvD M_X9_rag [.ref 0, .int a1, .int a2] (mk σ τ) (some (.int y.1)) (mk y.2 τ) := EvM.of (by decide +kernel) (Nat.le_of_ble_eq_true rfl) (i_X9_rag a1 a2 σ τ _ y hy ⟨rfl, rfl⟩)
def M_X9_alter : Ms := (yX9_alter, cX9_alter, 5, some .int, 1, 21, 0, 0)
theorem mv_X9_alter : MV M_X9_alter 3 := ⟨⟨q629, q1, by decide, by decide, by decide +kernel⟩, q627, q628⟩
def f_X9_alter (a1 : Int32) (a2 : Int32) (a3 : Int32) (σ : Sg) : Option (Int32 × Sg) :=
  if (f_X7_isHedgehog 1 a1 σ) = 0 then
    some ((-1 : Int32), σ)
  else
    if a2 = 0 then
      if a3 < 0 then
        if a2 = (1 : Int32) then
          if a3 < (1 : Int32) then
            some ((-1 : Int32), σ)
          else
            if (9 : Int32) < a3 then
              some ((-1 : Int32), σ)
            else
              if inR a1 4 then
              if inR a1 4 then
              some ((σ 6 a1.toNatClampNeg), (up2 σ 6 a1.toNatClampNeg a3))
              else none
              else none
        else
          some ((-1 : Int32), σ)
      else
        if (4 : Int32) ≤ a3 then
          if a2 = (1 : Int32) then
            if a3 < (1 : Int32) then
              some ((-1 : Int32), σ)
            else
              if (9 : Int32) < a3 then
                some ((-1 : Int32), σ)
              else
                if inR a1 4 then
                if inR a1 4 then
                some ((σ 6 a1.toNatClampNeg), (up2 σ 6 a1.toNatClampNeg a3))
                else none
                else none
          else
            some ((-1 : Int32), σ)
        else
          if inR a1 4 then
          if inR a1 4 then
          some ((σ 5 a1.toNatClampNeg), (up2 σ 5 a1.toNatClampNeg a3))
          else none
          else none
    else
      if a2 = (1 : Int32) then
        if a3 < (1 : Int32) then
          some ((-1 : Int32), σ)
        else
          if (9 : Int32) < a3 then
            some ((-1 : Int32), σ)
          else
            if inR a1 4 then
            if inR a1 4 then
            some ((σ 6 a1.toNatClampNeg), (up2 σ 6 a1.toNatClampNeg a3))
            else none
            else none
      else
        some ((-1 : Int32), σ)
set_option maxHeartbeats 4000000 in
set_option maxRecDepth 20000 in
theorem i_X9_alter (a1 : Int32) (a2 : Int32) (a3 : Int32) (σ : Sg) (τ : Sl) (Q : Option Value → Hp → Prop) : Imp (f_X9_alter a1 a2 a3 σ) (fun (y : (Int32 × Sg)) => Q (some (.int y.1)) (mk y.2 τ)) (Go M_X9_alter Q 0 0 0 [some (.ref 0), some (.int a1), some (.int a2), some (.int a3), none] [] (mk σ τ)) := by
  unfold f_X9_alter
  refine im_st (r_aload_n (i := 0) dX9_alter_0 rfl rfl rfl) ?_
  refine im_st (s_getR (b := 1) (tag := 9) (j := 0) dX9_alter_1 rfl fl_X9_10 rfl (Nat.le_of_ble_eq_true rfl) rfl rfl) ?_
  refine im_st (r_iload_n (i := 1) dX9_alter_4 rfl rfl rfl) ?_
  refine im_st (r_callV (as := [.int a1]) (r := some (.int (f_X7_isHedgehog 1 a1 σ))) (kc1 := 0) (ks1 := 0) (st := []) (st1 := [.int (f_X7_isHedgehog 1 a1 σ)]) (e_X7_isHedgehog 1 a1 σ τ isSl_1) mv_X7_isHedgehog lk_X9_153 ⟨by decide, by decide⟩ rfl (Nat.le_of_ble_eq_true rfl) (by decide) ⟨_, rfl, rfl⟩ ⟨by decide, by decide⟩ (Nat.le_of_ble_eq_true rfl) dX9_alter_5 rfl rfl rfl rfl rfl) ?_
  refine im_br (r_if_ne (tgt := 13) dX9_alter_8 rfl (by decide)) (fun c1 => ?_) (fun c1 => ?_)
  · refine im_st (r_iconst (v := -1) dX9_alter_11 rfl kI_m1) ?_
    exact im_ret (fun q => g_iret rfl rfl rfl dX9_alter_12 q)
  · refine im_st (r_iload_n (i := 2) dX9_alter_13 rfl rfl rfl) ?_
    refine im_br (r_if_ne (tgt := 50) dX9_alter_14 rfl (by decide)) (fun c2 => ?_) (fun c2 => ?_)
    · refine im_st (r_iload_n (i := 3) dX9_alter_17 rfl rfl rfl) ?_
      refine im_br (r_if_lt (tgt := 50) dX9_alter_18 rfl (by decide)) (fun c3 => ?_) (fun c3 => ?_)
      · refine im_st (r_iload_n (i := 2) dX9_alter_50 rfl rfl rfl) ?_
        refine im_st (r_iconst (v := 1) dX9_alter_51 rfl kI_1) ?_
        refine im_br (r_icmp_ne (tgt := 90) dX9_alter_52 rfl (by decide)) (fun c4 => ?_) (fun c4 => ?_)
        · refine im_st (r_iload_n (i := 3) dX9_alter_55 rfl rfl rfl) ?_
          refine im_st (r_iconst (v := 1) dX9_alter_56 rfl kI_1) ?_
          refine im_br (r_icmp_lt (tgt := 90) dX9_alter_57 rfl (by decide)) (fun c5 => ?_) (fun c5 => ?_)
          · refine im_st (r_iconst (v := -1) dX9_alter_90 rfl kI_m1) ?_
            exact im_ret (fun q => g_iret rfl rfl rfl dX9_alter_91 q)
          · refine im_st (r_iload_n (i := 3) dX9_alter_60 rfl rfl rfl) ?_
            refine im_st (r_bipush (v := 9) dX9_alter_61 rfl kB_9) ?_
            refine im_br (r_icmp_gt (tgt := 90) dX9_alter_63 rfl (by decide)) (fun c6 => ?_) (fun c6 => ?_)
            · refine im_st (r_iconst (v := -1) dX9_alter_90 rfl kI_m1) ?_
              exact im_ret (fun q => g_iret rfl rfl rfl dX9_alter_91 q)
            · refine im_st (r_aload_n (i := 0) dX9_alter_66 rfl rfl rfl) ?_
              refine im_st (s_getR (b := 1) (tag := 9) (j := 0) dX9_alter_67 rfl fl_X9_10 rfl (Nat.le_of_ble_eq_true rfl) rfl rfl) ?_
              refine im_st (s_getR (b := 6) (tag := 7) (j := 6) dX9_alter_70 rfl fl_X9_159 rfl (Nat.le_of_ble_eq_true rfl) rfl rfl) ?_
              refine im_st (r_iload_n (i := 1) dX9_alter_73 rfl rfl rfl) ?_
              refine im_grd (fun g7 => ?_)
              refine im_st (s_iaload dX9_alter_74 rfl rfl (Nat.le_of_ble_eq_true rfl) (inR_in g7)) ?_
              refine im_st (r_istore (i := 4) (L1 := [some (.ref 0), some (.int a1), some (.int a2), some (.int a3), some (.int (σ 6 a1.toNatClampNeg))]) dX9_alter_75 rfl (by decide) rfl) ?_
              refine im_st (r_aload_n (i := 0) dX9_alter_77 rfl rfl rfl) ?_
              refine im_st (s_getR (b := 1) (tag := 9) (j := 0) dX9_alter_78 rfl fl_X9_10 rfl (Nat.le_of_ble_eq_true rfl) rfl rfl) ?_
              refine im_st (s_getR (b := 6) (tag := 7) (j := 6) dX9_alter_81 rfl fl_X9_159 rfl (Nat.le_of_ble_eq_true rfl) rfl rfl) ?_
              refine im_st (r_iload_n (i := 1) dX9_alter_84 rfl rfl rfl) ?_
              refine im_st (r_iload_n (i := 3) dX9_alter_85 rfl rfl rfl) ?_
              refine im_grd (fun g8 => ?_)
              refine im_st (s_iastore dX9_alter_86 rfl rfl (Nat.le_of_ble_eq_true rfl) (inR_in g8)) ?_
              refine im_st (r_iload (i := 4) dX9_alter_87 rfl rfl) ?_
              exact im_ret (fun q => g_iret rfl rfl rfl dX9_alter_89 q)
        · refine im_st (r_iconst (v := -1) dX9_alter_90 rfl kI_m1) ?_
          exact im_ret (fun q => g_iret rfl rfl rfl dX9_alter_91 q)
      · refine im_st (r_iload_n (i := 3) dX9_alter_21 rfl rfl rfl) ?_
        refine im_st (r_iconst (v := 4) dX9_alter_22 rfl kI_4) ?_
        refine im_br (r_icmp_ge (tgt := 50) dX9_alter_23 rfl (by decide)) (fun c9 => ?_) (fun c9 => ?_)
        · refine im_st (r_iload_n (i := 2) dX9_alter_50 rfl rfl rfl) ?_
          refine im_st (r_iconst (v := 1) dX9_alter_51 rfl kI_1) ?_
          refine im_br (r_icmp_ne (tgt := 90) dX9_alter_52 rfl (by decide)) (fun c10 => ?_) (fun c10 => ?_)
          · refine im_st (r_iload_n (i := 3) dX9_alter_55 rfl rfl rfl) ?_
            refine im_st (r_iconst (v := 1) dX9_alter_56 rfl kI_1) ?_
            refine im_br (r_icmp_lt (tgt := 90) dX9_alter_57 rfl (by decide)) (fun c11 => ?_) (fun c11 => ?_)
            · refine im_st (r_iconst (v := -1) dX9_alter_90 rfl kI_m1) ?_
              exact im_ret (fun q => g_iret rfl rfl rfl dX9_alter_91 q)
            · refine im_st (r_iload_n (i := 3) dX9_alter_60 rfl rfl rfl) ?_
              refine im_st (r_bipush (v := 9) dX9_alter_61 rfl kB_9) ?_
              refine im_br (r_icmp_gt (tgt := 90) dX9_alter_63 rfl (by decide)) (fun c12 => ?_) (fun c12 => ?_)
              · refine im_st (r_iconst (v := -1) dX9_alter_90 rfl kI_m1) ?_
                exact im_ret (fun q => g_iret rfl rfl rfl dX9_alter_91 q)
              · refine im_st (r_aload_n (i := 0) dX9_alter_66 rfl rfl rfl) ?_
                refine im_st (s_getR (b := 1) (tag := 9) (j := 0) dX9_alter_67 rfl fl_X9_10 rfl (Nat.le_of_ble_eq_true rfl) rfl rfl) ?_
                refine im_st (s_getR (b := 6) (tag := 7) (j := 6) dX9_alter_70 rfl fl_X9_159 rfl (Nat.le_of_ble_eq_true rfl) rfl rfl) ?_
                refine im_st (r_iload_n (i := 1) dX9_alter_73 rfl rfl rfl) ?_
                refine im_grd (fun g13 => ?_)
                refine im_st (s_iaload dX9_alter_74 rfl rfl (Nat.le_of_ble_eq_true rfl) (inR_in g13)) ?_
                refine im_st (r_istore (i := 4) (L1 := [some (.ref 0), some (.int a1), some (.int a2), some (.int a3), some (.int (σ 6 a1.toNatClampNeg))]) dX9_alter_75 rfl (by decide) rfl) ?_
                refine im_st (r_aload_n (i := 0) dX9_alter_77 rfl rfl rfl) ?_
                refine im_st (s_getR (b := 1) (tag := 9) (j := 0) dX9_alter_78 rfl fl_X9_10 rfl (Nat.le_of_ble_eq_true rfl) rfl rfl) ?_
                refine im_st (s_getR (b := 6) (tag := 7) (j := 6) dX9_alter_81 rfl fl_X9_159 rfl (Nat.le_of_ble_eq_true rfl) rfl rfl) ?_
                refine im_st (r_iload_n (i := 1) dX9_alter_84 rfl rfl rfl) ?_
                refine im_st (r_iload_n (i := 3) dX9_alter_85 rfl rfl rfl) ?_
                refine im_grd (fun g14 => ?_)
                refine im_st (s_iastore dX9_alter_86 rfl rfl (Nat.le_of_ble_eq_true rfl) (inR_in g14)) ?_
                refine im_st (r_iload (i := 4) dX9_alter_87 rfl rfl) ?_
                exact im_ret (fun q => g_iret rfl rfl rfl dX9_alter_89 q)
          · refine im_st (r_iconst (v := -1) dX9_alter_90 rfl kI_m1) ?_
            exact im_ret (fun q => g_iret rfl rfl rfl dX9_alter_91 q)
        · refine im_st (r_aload_n (i := 0) dX9_alter_26 rfl rfl rfl) ?_
          refine im_st (s_getR (b := 1) (tag := 9) (j := 0) dX9_alter_27 rfl fl_X9_10 rfl (Nat.le_of_ble_eq_true rfl) rfl rfl) ?_
          refine im_st (s_getR (b := 5) (tag := 7) (j := 5) dX9_alter_30 rfl fl_X9_156 rfl (Nat.le_of_ble_eq_true rfl) rfl rfl) ?_
          refine im_st (r_iload_n (i := 1) dX9_alter_33 rfl rfl rfl) ?_
          refine im_grd (fun g15 => ?_)
          refine im_st (s_iaload dX9_alter_34 rfl rfl (Nat.le_of_ble_eq_true rfl) (inR_in g15)) ?_
          refine im_st (r_istore (i := 4) (L1 := [some (.ref 0), some (.int a1), some (.int a2), some (.int a3), some (.int (σ 5 a1.toNatClampNeg))]) dX9_alter_35 rfl (by decide) rfl) ?_
          refine im_st (r_aload_n (i := 0) dX9_alter_37 rfl rfl rfl) ?_
          refine im_st (s_getR (b := 1) (tag := 9) (j := 0) dX9_alter_38 rfl fl_X9_10 rfl (Nat.le_of_ble_eq_true rfl) rfl rfl) ?_
          refine im_st (s_getR (b := 5) (tag := 7) (j := 5) dX9_alter_41 rfl fl_X9_156 rfl (Nat.le_of_ble_eq_true rfl) rfl rfl) ?_
          refine im_st (r_iload_n (i := 1) dX9_alter_44 rfl rfl rfl) ?_
          refine im_st (r_iload_n (i := 3) dX9_alter_45 rfl rfl rfl) ?_
          refine im_grd (fun g16 => ?_)
          refine im_st (s_iastore dX9_alter_46 rfl rfl (Nat.le_of_ble_eq_true rfl) (inR_in g16)) ?_
          refine im_st (r_iload (i := 4) dX9_alter_47 rfl rfl) ?_
          exact im_ret (fun q => g_iret rfl rfl rfl dX9_alter_49 q)
    · refine im_st (r_iload_n (i := 2) dX9_alter_50 rfl rfl rfl) ?_
      refine im_st (r_iconst (v := 1) dX9_alter_51 rfl kI_1) ?_
      refine im_br (r_icmp_ne (tgt := 90) dX9_alter_52 rfl (by decide)) (fun c17 => ?_) (fun c17 => ?_)
      · refine im_st (r_iload_n (i := 3) dX9_alter_55 rfl rfl rfl) ?_
        refine im_st (r_iconst (v := 1) dX9_alter_56 rfl kI_1) ?_
        refine im_br (r_icmp_lt (tgt := 90) dX9_alter_57 rfl (by decide)) (fun c18 => ?_) (fun c18 => ?_)
        · refine im_st (r_iconst (v := -1) dX9_alter_90 rfl kI_m1) ?_
          exact im_ret (fun q => g_iret rfl rfl rfl dX9_alter_91 q)
        · refine im_st (r_iload_n (i := 3) dX9_alter_60 rfl rfl rfl) ?_
          refine im_st (r_bipush (v := 9) dX9_alter_61 rfl kB_9) ?_
          refine im_br (r_icmp_gt (tgt := 90) dX9_alter_63 rfl (by decide)) (fun c19 => ?_) (fun c19 => ?_)
          · refine im_st (r_iconst (v := -1) dX9_alter_90 rfl kI_m1) ?_
            exact im_ret (fun q => g_iret rfl rfl rfl dX9_alter_91 q)
          · refine im_st (r_aload_n (i := 0) dX9_alter_66 rfl rfl rfl) ?_
            refine im_st (s_getR (b := 1) (tag := 9) (j := 0) dX9_alter_67 rfl fl_X9_10 rfl (Nat.le_of_ble_eq_true rfl) rfl rfl) ?_
            refine im_st (s_getR (b := 6) (tag := 7) (j := 6) dX9_alter_70 rfl fl_X9_159 rfl (Nat.le_of_ble_eq_true rfl) rfl rfl) ?_
            refine im_st (r_iload_n (i := 1) dX9_alter_73 rfl rfl rfl) ?_
            refine im_grd (fun g20 => ?_)
            refine im_st (s_iaload dX9_alter_74 rfl rfl (Nat.le_of_ble_eq_true rfl) (inR_in g20)) ?_
            refine im_st (r_istore (i := 4) (L1 := [some (.ref 0), some (.int a1), some (.int a2), some (.int a3), some (.int (σ 6 a1.toNatClampNeg))]) dX9_alter_75 rfl (by decide) rfl) ?_
            refine im_st (r_aload_n (i := 0) dX9_alter_77 rfl rfl rfl) ?_
            refine im_st (s_getR (b := 1) (tag := 9) (j := 0) dX9_alter_78 rfl fl_X9_10 rfl (Nat.le_of_ble_eq_true rfl) rfl rfl) ?_
            refine im_st (s_getR (b := 6) (tag := 7) (j := 6) dX9_alter_81 rfl fl_X9_159 rfl (Nat.le_of_ble_eq_true rfl) rfl rfl) ?_
            refine im_st (r_iload_n (i := 1) dX9_alter_84 rfl rfl rfl) ?_
            refine im_st (r_iload_n (i := 3) dX9_alter_85 rfl rfl rfl) ?_
            refine im_grd (fun g21 => ?_)
            refine im_st (s_iastore dX9_alter_86 rfl rfl (Nat.le_of_ble_eq_true rfl) (inR_in g21)) ?_
            refine im_st (r_iload (i := 4) dX9_alter_87 rfl rfl) ?_
            exact im_ret (fun q => g_iret rfl rfl rfl dX9_alter_89 q)
      · refine im_st (r_iconst (v := -1) dX9_alter_90 rfl kI_m1) ?_
        exact im_ret (fun q => g_iret rfl rfl rfl dX9_alter_91 q)
theorem e_X9_alter (a1 : Int32) (a2 : Int32) (a3 : Int32) (σ : Sg) (τ : Sl) (y : (Int32 × Sg)) (hy : f_X9_alter a1 a2 a3 σ = some y) : EvD M_X9_alter [.ref 0, .int a1, .int a2, .int a3] (mk σ τ) (some (.int y.1)) (mk y.2 τ) := EvM.of (by decide +kernel) (Nat.le_of_ble_eq_true rfl) (i_X9_alter a1 a2 a3 σ τ _ y hy ⟨rfl, rfl⟩)
def M_X9_drive : Ms := (yX9_drive, cX9_drive, 3, some .int, 3, 63, 0, 0)
theorem mv_X9_drive : MV M_X9_drive 2 := ⟨⟨q633, q1, by decide, by decide, by decide +kernel⟩, q631, q632⟩
def f_X9_drive (a1 : Int32) (a2 : Int32) (σ : Sg) : Option (Int32 × Sg) :=
  (f_X7_addPeg 1 a1 a2 σ).bind fun (y1 : (Int32 × Sg)) =>
  some (y1.1, y1.2)
set_option maxHeartbeats 4000000 in
set_option maxRecDepth 20000 in
theorem i_X9_drive (a1 : Int32) (a2 : Int32) (σ : Sg) (τ : Sl) (Q : Option Value → Hp → Prop) : Imp (f_X9_drive a1 a2 σ) (fun (y : (Int32 × Sg)) => Q (some (.int y.1)) (mk y.2 τ)) (Go M_X9_drive Q 0 0 0 [some (.ref 0), some (.int a1), some (.int a2)] [] (mk σ τ)) := by
  unfold f_X9_drive
  refine im_st (r_aload_n (i := 0) dX9_drive_0 rfl rfl rfl) ?_
  refine im_st (s_getR (b := 1) (tag := 9) (j := 0) dX9_drive_1 rfl fl_X9_10 rfl (Nat.le_of_ble_eq_true rfl) rfl rfl) ?_
  refine im_st (r_iload_n (i := 1) dX9_drive_4 rfl rfl rfl) ?_
  refine im_st (r_iload_n (i := 2) dX9_drive_5 rfl rfl rfl) ?_
  refine im_bind (fun y1 hy1 => ?_)
  refine im_st (r_callV (as := [.int a1, .int a2]) (r := some (.int y1.1)) (kc1 := 0) (ks1 := 0) (st := []) (st1 := [.int y1.1]) (e_X7_addPeg 1 a1 a2 σ τ isSl_1 y1 hy1) mv_X7_addPeg lk_X9_199 ⟨by decide, by decide⟩ rfl (Nat.le_of_ble_eq_true rfl) (by decide) ⟨_, rfl, rfl⟩ ⟨by decide, by decide⟩ (Nat.le_of_ble_eq_true rfl) dX9_drive_6 rfl rfl rfl rfl rfl) ?_
  exact im_ret (fun q => g_iret rfl rfl rfl dX9_drive_9 q)
theorem e_X9_drive (a1 : Int32) (a2 : Int32) (σ : Sg) (τ : Sl) (y : (Int32 × Sg)) (hy : f_X9_drive a1 a2 σ = some y) : EvD M_X9_drive [.ref 0, .int a1, .int a2] (mk σ τ) (some (.int y.1)) (mk y.2 τ) := EvM.of (by decide +kernel) (Nat.le_of_ble_eq_true rfl) (i_X9_drive a1 a2 σ τ _ y hy ⟨rfl, rfl⟩)
def M_X9_lay : Ms := (yX9_lay, cX9_lay, 2, some .int, 3, 62, 0, 0)
theorem mv_X9_lay : MV M_X9_lay 1 := ⟨⟨q638, q1, by decide, by decide, by decide +kernel⟩, q636, q637⟩
def f_X9_lay (a1 : Int32) (σ : Sg) : Option (Int32 × Sg) :=
  (f_X7_addSlug 1 a1 σ).bind fun (y1 : (Int32 × Sg)) =>
  some (y1.1, y1.2)
set_option maxHeartbeats 4000000 in
set_option maxRecDepth 20000 in
theorem i_X9_lay (a1 : Int32) (σ : Sg) (τ : Sl) (Q : Option Value → Hp → Prop) : Imp (f_X9_lay a1 σ) (fun (y : (Int32 × Sg)) => Q (some (.int y.1)) (mk y.2 τ)) (Go M_X9_lay Q 0 0 0 [some (.ref 0), some (.int a1)] [] (mk σ τ)) := by
  unfold f_X9_lay
  refine im_st (r_aload_n (i := 0) dX9_lay_0 rfl rfl rfl) ?_
  refine im_st (s_getR (b := 1) (tag := 9) (j := 0) dX9_lay_1 rfl fl_X9_10 rfl (Nat.le_of_ble_eq_true rfl) rfl rfl) ?_
  refine im_st (r_iload_n (i := 1) dX9_lay_4 rfl rfl rfl) ?_
  refine im_bind (fun y1 hy1 => ?_)
  refine im_st (r_callV (as := [.int a1]) (r := some (.int y1.1)) (kc1 := 0) (ks1 := 0) (st := []) (st1 := [.int y1.1]) (e_X7_addSlug 1 a1 σ τ isSl_1 y1 hy1) mv_X7_addSlug lk_X9_203 ⟨by decide, by decide⟩ rfl (Nat.le_of_ble_eq_true rfl) (by decide) ⟨_, rfl, rfl⟩ ⟨by decide, by decide⟩ (Nat.le_of_ble_eq_true rfl) dX9_lay_5 rfl rfl rfl rfl rfl) ?_
  exact im_ret (fun q => g_iret rfl rfl rfl dX9_lay_8 q)
theorem e_X9_lay (a1 : Int32) (σ : Sg) (τ : Sl) (y : (Int32 × Sg)) (hy : f_X9_lay a1 σ = some y) : EvD M_X9_lay [.ref 0, .int a1] (mk σ τ) (some (.int y.1)) (mk y.2 τ) := EvM.of (by decide +kernel) (Nat.le_of_ble_eq_true rfl) (i_X9_lay a1 σ τ _ y hy ⟨rfl, rfl⟩)
def M_X9_clear : Ms := (yX9_clear, cX9_clear, 3, some .int, 2, 44, 0, 0)
theorem mv_X9_clear : MV M_X9_clear 1 := ⟨⟨q643, q1, by decide, by decide, by decide +kernel⟩, q641, q642⟩
def f_X9_clear (a1 : Int32) (σ : Sg) : Option (Int32 × Sg) :=
  if a1 < 0 then
    some ((-1 : Int32), σ)
  else
    if a1 ≤ (σ 1 4) then
      (f_X7_cutSlugs 1 a1 σ).bind fun (y3 : Sg) =>
      some ((σ 1 4), y3)
    else
      some ((-1 : Int32), σ)
set_option maxHeartbeats 4000000 in
set_option maxRecDepth 20000 in
theorem i_X9_clear (a1 : Int32) (σ : Sg) (τ : Sl) (Q : Option Value → Hp → Prop) : Imp (f_X9_clear a1 σ) (fun (y : (Int32 × Sg)) => Q (some (.int y.1)) (mk y.2 τ)) (Go M_X9_clear Q 0 0 0 [some (.ref 0), some (.int a1), none] [] (mk σ τ)) := by
  unfold f_X9_clear
  refine im_st (r_iload_n (i := 1) dX9_clear_0 rfl rfl rfl) ?_
  refine im_br (r_if_lt (tgt := 15) dX9_clear_1 rfl (by decide)) (fun c1 => ?_) (fun c1 => ?_)
  · refine im_st (r_iconst (v := -1) dX9_clear_15 rfl kI_m1) ?_
    exact im_ret (fun q => g_iret rfl rfl rfl dX9_clear_16 q)
  · refine im_st (r_iload_n (i := 1) dX9_clear_4 rfl rfl rfl) ?_
    refine im_st (r_aload_n (i := 0) dX9_clear_5 rfl rfl rfl) ?_
    refine im_st (s_getR (b := 1) (tag := 9) (j := 0) dX9_clear_6 rfl fl_X9_10 rfl (Nat.le_of_ble_eq_true rfl) rfl rfl) ?_
    refine im_st (s_getI (tag := 7) (j := 4) dX9_clear_9 rfl fl_X9_118 rfl (Nat.le_of_ble_eq_true rfl) rfl) ?_
    refine im_br (r_icmp_le (tgt := 17) dX9_clear_12 rfl (by decide)) (fun c2 => ?_) (fun c2 => ?_)
    · refine im_st (r_aload_n (i := 0) dX9_clear_17 rfl rfl rfl) ?_
      refine im_st (s_getR (b := 1) (tag := 9) (j := 0) dX9_clear_18 rfl fl_X9_10 rfl (Nat.le_of_ble_eq_true rfl) rfl rfl) ?_
      refine im_st (s_getI (tag := 7) (j := 4) dX9_clear_21 rfl fl_X9_118 rfl (Nat.le_of_ble_eq_true rfl) rfl) ?_
      refine im_st (r_istore_n (i := 2) (L1 := [some (.ref 0), some (.int a1), some (.int (σ 1 4))]) dX9_clear_24 rfl rfl (by decide) rfl) ?_
      refine im_st (r_aload_n (i := 0) dX9_clear_25 rfl rfl rfl) ?_
      refine im_st (s_getR (b := 1) (tag := 9) (j := 0) dX9_clear_26 rfl fl_X9_10 rfl (Nat.le_of_ble_eq_true rfl) rfl rfl) ?_
      refine im_st (r_iload_n (i := 1) dX9_clear_29 rfl rfl rfl) ?_
      refine im_bind (fun y3 hy3 => ?_)
      refine im_st (r_callV (as := [.int a1]) (r := none) (kc1 := 0) (ks1 := 0) (st := []) (st1 := []) (e_X7_cutSlugs 1 a1 σ τ isSl_1 y3 hy3) mv_X7_cutSlugs lk_X9_206 ⟨by decide, by decide⟩ rfl (Nat.le_of_ble_eq_true rfl) (by decide) ⟨_, rfl, rfl⟩ ⟨by decide, by decide⟩ (Nat.le_of_ble_eq_true rfl) dX9_clear_30 rfl rfl rfl rfl rfl) ?_
      refine im_st (r_iload_n (i := 2) dX9_clear_33 rfl rfl rfl) ?_
      exact im_ret (fun q => g_iret rfl rfl rfl dX9_clear_34 q)
    · refine im_st (r_iconst (v := -1) dX9_clear_15 rfl kI_m1) ?_
      exact im_ret (fun q => g_iret rfl rfl rfl dX9_clear_16 q)
theorem e_X9_clear (a1 : Int32) (σ : Sg) (τ : Sl) (y : (Int32 × Sg)) (hy : f_X9_clear a1 σ = some y) : EvD M_X9_clear [.ref 0, .int a1] (mk σ τ) (some (.int y.1)) (mk y.2 τ) := EvM.of (by decide +kernel) (Nat.le_of_ble_eq_true rfl) (i_X9_clear a1 σ τ _ y hy ⟨rfl, rfl⟩)
def M_X9_canLetGo : Ms := (yX9_canLetGo, cX9_canLetGo, 3, some .boolean, 1, 21, 0, 0)
theorem mv_X9_canLetGo : MV M_X9_canLetGo 2 := ⟨⟨q657, q1, by decide, by decide, by decide +kernel⟩, q656, p13⟩
def f_X9_canLetGo (a1 : Int32) (a2 : Int32) (σ : Sg) : Int32 :=
  if (f_X7_isHedgehog 1 a1 σ) = 0 then
    (0 : Int32)
  else
    if (f_X7_isColumn a2) = 0 then
      (0 : Int32)
    else
      (1 : Int32)
theorem z_X9_canLetGo (a1 : Int32) (a2 : Int32) (σ : Sg) : isB (f_X9_canLetGo a1 a2 σ) = true := by
  unfold f_X9_canLetGo
  (repeat' split) <;> first | rfl | exact z_X7_isColumn .. | exact z_X7_isHedgehog ..
set_option maxHeartbeats 4000000 in
set_option maxRecDepth 20000 in
theorem i_X9_canLetGo (a1 : Int32) (a2 : Int32) (σ : Sg) (τ : Sl) (Q : Option Value → Hp → Prop) : Imp (some (f_X9_canLetGo a1 a2 σ)) (fun (y : Int32) => Q (some (.int y)) (mk σ τ)) (Go M_X9_canLetGo Q 0 0 0 [some (.ref 0), some (.int a1), some (.int a2)] [] (mk σ τ)) := by
  unfold f_X9_canLetGo
  refine im_st (r_aload_n (i := 0) dX9_canLetGo_0 rfl rfl rfl) ?_
  refine im_st (s_getR (b := 1) (tag := 9) (j := 0) dX9_canLetGo_1 rfl fl_X9_10 rfl (Nat.le_of_ble_eq_true rfl) rfl rfl) ?_
  refine im_st (r_iload_n (i := 1) dX9_canLetGo_4 rfl rfl rfl) ?_
  refine im_st (r_callV (as := [.int a1]) (r := some (.int (f_X7_isHedgehog 1 a1 σ))) (kc1 := 0) (ks1 := 0) (st := []) (st1 := [.int (f_X7_isHedgehog 1 a1 σ)]) (e_X7_isHedgehog 1 a1 σ τ isSl_1) mv_X7_isHedgehog lk_X9_153 ⟨by decide, by decide⟩ rfl (Nat.le_of_ble_eq_true rfl) (by decide) ⟨_, rfl, rfl⟩ ⟨by decide, by decide⟩ (Nat.le_of_ble_eq_true rfl) dX9_canLetGo_5 rfl rfl rfl rfl rfl) ?_
  refine im_brS (r_if_eq (tgt := 22) dX9_canLetGo_8 rfl (by decide)) (fun c1 => ?_) (fun c1 => ?_)
  · refine im_st (r_iconst (v := 0) dX9_canLetGo_22 rfl kI_0) ?_
    exact im_ret (fun q => g_zret (ty := .boolean) rfl rfl rfl rfl dX9_canLetGo_23 q)
  · refine im_st (r_iload_n (i := 2) dX9_canLetGo_11 rfl rfl rfl) ?_
    refine im_st (r_callS (as := [.int a2]) (r := some (.int (f_X7_isColumn a2))) (kc1 := 0) (ks1 := 0) (st := []) (st1 := [.int (f_X7_isColumn a2)]) (e_X7_isColumn a2 σ τ) ms_X7_isColumn lk_X9_352 ⟨by decide, by decide⟩ ⟨by decide, by decide⟩ (Nat.le_of_ble_eq_true rfl) dX9_canLetGo_12 rfl rfl rfl rfl rfl) ?_
    refine im_brS (r_if_eq (tgt := 22) dX9_canLetGo_15 rfl (by decide)) (fun c2 => ?_) (fun c2 => ?_)
    · refine im_st (r_iconst (v := 0) dX9_canLetGo_22 rfl kI_0) ?_
      exact im_ret (fun q => g_zret (ty := .boolean) rfl rfl rfl rfl dX9_canLetGo_23 q)
    · refine im_st (r_iconst (v := 1) dX9_canLetGo_18 rfl kI_1) ?_
      refine im_st (r_goto (pc1 := 23) dX9_canLetGo_19 (by decide)) ?_
      exact im_ret (fun q => g_zret (ty := .boolean) rfl rfl rfl rfl dX9_canLetGo_23 q)
theorem e_X9_canLetGo (a1 : Int32) (a2 : Int32) (σ : Sg) (τ : Sl) : EvD M_X9_canLetGo [.ref 0, .int a1, .int a2] (mk σ τ) (some (.int (f_X9_canLetGo a1 a2 σ))) (mk σ τ) := EvM.of (by decide +kernel) (Nat.le_of_ble_eq_true rfl) (i_X9_canLetGo a1 a2 σ τ _ _ rfl ⟨rfl, rfl⟩)
def M_X9_sue : Ms := (yX9_sue, cX9_sue, 3, some .int, 2, 43, 0, 0)
theorem mv_X9_sue : MV M_X9_sue 2 := ⟨⟨q653, q1, by decide, by decide, by decide +kernel⟩, q651, q652⟩
def f_X9_sue (a1 : Int32) (a2 : Int32) (σ : Sg) : Option (Int32 × Sg) :=
  if (f_X9_canLetGo a1 a2 σ) = 0 then
    some ((-1 : Int32), σ)
  else
    (f_X7_addSuit 1 a1 a2 σ).bind fun (y2 : (Int32 × Sg)) =>
    some (y2.1, y2.2)
set_option maxHeartbeats 4000000 in
set_option maxRecDepth 20000 in
theorem i_X9_sue (a1 : Int32) (a2 : Int32) (σ : Sg) (τ : Sl) (Q : Option Value → Hp → Prop) : Imp (f_X9_sue a1 a2 σ) (fun (y : (Int32 × Sg)) => Q (some (.int y.1)) (mk y.2 τ)) (Go M_X9_sue Q 0 0 0 [some (.ref 0), some (.int a1), some (.int a2)] [] (mk σ τ)) := by
  unfold f_X9_sue
  refine im_st (r_aload_n (i := 0) dX9_sue_0 rfl rfl rfl) ?_
  refine im_st (r_iload_n (i := 1) dX9_sue_1 rfl rfl rfl) ?_
  refine im_st (r_iload_n (i := 2) dX9_sue_2 rfl rfl rfl) ?_
  refine im_st (r_callV (as := [.int a1, .int a2]) (r := some (.int (f_X9_canLetGo a1 a2 σ))) (kc1 := 0) (ks1 := 0) (st := []) (st1 := [.int (f_X9_canLetGo a1 a2 σ)]) (e_X9_canLetGo a1 a2 σ τ) mv_X9_canLetGo lk_X9_210 ⟨by decide, by decide⟩ rfl (Nat.le_of_ble_eq_true rfl) (by decide) ⟨_, rfl, rfl⟩ ⟨by decide, by decide⟩ (Nat.le_of_ble_eq_true rfl) dX9_sue_3 rfl rfl rfl rfl rfl) ?_
  refine im_br (r_if_ne (tgt := 11) dX9_sue_6 rfl (by decide)) (fun c1 => ?_) (fun c1 => ?_)
  · refine im_st (r_iconst (v := -1) dX9_sue_9 rfl kI_m1) ?_
    exact im_ret (fun q => g_iret rfl rfl rfl dX9_sue_10 q)
  · refine im_st (r_aload_n (i := 0) dX9_sue_11 rfl rfl rfl) ?_
    refine im_st (s_getR (b := 1) (tag := 9) (j := 0) dX9_sue_12 rfl fl_X9_10 rfl (Nat.le_of_ble_eq_true rfl) rfl rfl) ?_
    refine im_st (r_iload_n (i := 1) dX9_sue_15 rfl rfl rfl) ?_
    refine im_st (r_iload_n (i := 2) dX9_sue_16 rfl rfl rfl) ?_
    refine im_bind (fun y2 hy2 => ?_)
    refine im_st (r_callV (as := [.int a1, .int a2]) (r := some (.int y2.1)) (kc1 := 0) (ks1 := 0) (st := []) (st1 := [.int y2.1]) (e_X7_addSuit 1 a1 a2 σ τ isSl_1 y2 hy2) mv_X7_addSuit lk_X9_214 ⟨by decide, by decide⟩ rfl (Nat.le_of_ble_eq_true rfl) (by decide) ⟨_, rfl, rfl⟩ ⟨by decide, by decide⟩ (Nat.le_of_ble_eq_true rfl) dX9_sue_17 rfl rfl rfl rfl rfl) ?_
    exact im_ret (fun q => g_iret rfl rfl rfl dX9_sue_20 q)
theorem e_X9_sue (a1 : Int32) (a2 : Int32) (σ : Sg) (τ : Sl) (y : (Int32 × Sg)) (hy : f_X9_sue a1 a2 σ = some y) : EvD M_X9_sue [.ref 0, .int a1, .int a2] (mk σ τ) (some (.int y.1)) (mk y.2 τ) := EvM.of (by decide +kernel) (Nat.le_of_ble_eq_true rfl) (i_X9_sue a1 a2 σ τ _ y hy ⟨rfl, rfl⟩)
def M_X9_drop : Ms := (yX9_drop, cX9_drop, 3, some .int, 0, 0, 0, 0)
theorem mv_X9_drop : MV M_X9_drop 1 := ⟨⟨q665, q1, by decide, by decide, by decide +kernel⟩, q663, q664⟩
def f_X9_drop (a1 : Int32) (σ : Sg) : (Int32 × Sg) :=
  if a1 < 0 then
    ((-1 : Int32), σ)
  else
    if a1 ≤ (σ 1 10) then
      ((σ 1 10), (up2 σ 1 10 a1))
    else
      ((-1 : Int32), σ)
set_option maxHeartbeats 4000000 in
set_option maxRecDepth 20000 in
theorem i_X9_drop (a1 : Int32) (σ : Sg) (τ : Sl) (Q : Option Value → Hp → Prop) : Imp (some (f_X9_drop a1 σ)) (fun (y : (Int32 × Sg)) => Q (some (.int y.1)) (mk y.2 τ)) (Go M_X9_drop Q 0 0 0 [some (.ref 0), some (.int a1), none] [] (mk σ τ)) := by
  unfold f_X9_drop
  refine im_st (r_iload_n (i := 1) dX9_drop_0 rfl rfl rfl) ?_
  refine im_brS (r_if_lt (tgt := 15) dX9_drop_1 rfl (by decide)) (fun c1 => ?_) (fun c1 => ?_)
  · refine im_st (r_iconst (v := -1) dX9_drop_15 rfl kI_m1) ?_
    exact im_ret (fun q => g_iret rfl rfl rfl dX9_drop_16 q)
  · refine im_st (r_iload_n (i := 1) dX9_drop_4 rfl rfl rfl) ?_
    refine im_st (r_aload_n (i := 0) dX9_drop_5 rfl rfl rfl) ?_
    refine im_st (s_getR (b := 1) (tag := 9) (j := 0) dX9_drop_6 rfl fl_X9_10 rfl (Nat.le_of_ble_eq_true rfl) rfl rfl) ?_
    refine im_st (s_getI (tag := 7) (j := 10) dX9_drop_9 rfl fl_X9_124 rfl (Nat.le_of_ble_eq_true rfl) rfl) ?_
    refine im_brS (r_icmp_le (tgt := 17) dX9_drop_12 rfl (by decide)) (fun c2 => ?_) (fun c2 => ?_)
    · refine im_st (r_aload_n (i := 0) dX9_drop_17 rfl rfl rfl) ?_
      refine im_st (s_getR (b := 1) (tag := 9) (j := 0) dX9_drop_18 rfl fl_X9_10 rfl (Nat.le_of_ble_eq_true rfl) rfl rfl) ?_
      refine im_st (s_getI (tag := 7) (j := 10) dX9_drop_21 rfl fl_X9_124 rfl (Nat.le_of_ble_eq_true rfl) rfl) ?_
      refine im_st (r_istore_n (i := 2) (L1 := [some (.ref 0), some (.int a1), some (.int (σ 1 10))]) dX9_drop_24 rfl rfl (by decide) rfl) ?_
      refine im_st (r_aload_n (i := 0) dX9_drop_25 rfl rfl rfl) ?_
      refine im_st (s_getR (b := 1) (tag := 9) (j := 0) dX9_drop_26 rfl fl_X9_10 rfl (Nat.le_of_ble_eq_true rfl) rfl rfl) ?_
      refine im_st (r_iload_n (i := 1) dX9_drop_29 rfl rfl rfl) ?_
      refine im_st (s_putI (tag := 7) (j := 10) dX9_drop_30 rfl fl_X9_124 rfl (Nat.le_of_ble_eq_true rfl) rfl fw_7_10) ?_
      refine im_st (r_iload_n (i := 2) dX9_drop_33 rfl rfl rfl) ?_
      exact im_ret (fun q => g_iret rfl rfl rfl dX9_drop_34 q)
    · refine im_st (r_iconst (v := -1) dX9_drop_15 rfl kI_m1) ?_
      exact im_ret (fun q => g_iret rfl rfl rfl dX9_drop_16 q)
theorem e_X9_drop (a1 : Int32) (σ : Sg) (τ : Sl) : EvD M_X9_drop [.ref 0, .int a1] (mk σ τ) (some (.int (f_X9_drop a1 σ).1)) (mk (f_X9_drop a1 σ).2 τ) := EvM.of (by decide +kernel) (Nat.le_of_ble_eq_true rfl) (i_X9_drop a1 σ τ _ _ rfl ⟨rfl, rfl⟩)
def M_X9_run : Ms := (yX9_run, cX9_run, 5, some .int, 4, 85, 0, 0)
theorem mv_X9_run : MV M_X9_run 3 := ⟨⟨q669, q1, by decide, by decide, by decide +kernel⟩, q667, q668⟩
def f_X9_run (a1 : Int32) (a2 : Int32) (a3 : Int32) (σ : Sg) : Option (Int32 × Sg) :=
  if (f_X9_canLetGo a1 a2 σ) = 0 then
    some ((-1 : Int32), σ)
  else
    (f_X2_letGo 1 a1 a2 σ).bind fun (y2 : Sg) =>
    if a3 = 0 then
      some ((y2 11 0), y2)
    else
      if a3 = 1 then
        some ((y2 11 1), y2)
      else
        if a3 = 2 then
          some ((y2 11 2), y2)
        else
          if a3 = 3 then
            some ((y2 11 3), y2)
          else
            if a3 = 4 then
              if (y2 11 4) = 0 then
                some ((0 : Int32), y2)
              else
                some ((1 : Int32), y2)
            else
              some ((-1 : Int32), y2)
set_option maxHeartbeats 4000000 in
set_option maxRecDepth 20000 in
theorem i_X9_run (a1 : Int32) (a2 : Int32) (a3 : Int32) (σ : Sg) (τ : Sl) (Q : Option Value → Hp → Prop) : Imp (f_X9_run a1 a2 a3 σ) (fun (y : (Int32 × Sg)) => Q (some (.int y.1)) (mk y.2 τ)) (Go M_X9_run Q 0 0 0 [some (.ref 0), some (.int a1), some (.int a2), some (.int a3), none] [] (mk σ τ)) := by
  unfold f_X9_run
  refine im_st (r_aload_n (i := 0) dX9_run_0 rfl rfl rfl) ?_
  refine im_st (r_iload_n (i := 1) dX9_run_1 rfl rfl rfl) ?_
  refine im_st (r_iload_n (i := 2) dX9_run_2 rfl rfl rfl) ?_
  refine im_st (r_callV (as := [.int a1, .int a2]) (r := some (.int (f_X9_canLetGo a1 a2 σ))) (kc1 := 0) (ks1 := 0) (st := []) (st1 := [.int (f_X9_canLetGo a1 a2 σ)]) (e_X9_canLetGo a1 a2 σ τ) mv_X9_canLetGo lk_X9_210 ⟨by decide, by decide⟩ rfl (Nat.le_of_ble_eq_true rfl) (by decide) ⟨_, rfl, rfl⟩ ⟨by decide, by decide⟩ (Nat.le_of_ble_eq_true rfl) dX9_run_3 rfl rfl rfl rfl rfl) ?_
  refine im_br (r_if_ne (tgt := 11) dX9_run_6 rfl (by decide)) (fun c1 => ?_) (fun c1 => ?_)
  · refine im_st (r_iconst (v := -1) dX9_run_9 rfl kI_m1) ?_
    exact im_ret (fun q => g_iret rfl rfl rfl dX9_run_10 q)
  · refine im_st (r_aload_n (i := 0) dX9_run_11 rfl rfl rfl) ?_
    refine im_st (s_getR (b := 10) (tag := 9) (j := 1) dX9_run_12 rfl fl_X9_21 rfl (Nat.le_of_ble_eq_true rfl) rfl rfl) ?_
    refine im_st (r_iload_n (i := 1) dX9_run_15 rfl rfl rfl) ?_
    refine im_st (r_iload_n (i := 2) dX9_run_16 rfl rfl rfl) ?_
    refine im_bind (fun y2 hy2 => ?_)
    refine im_st (r_callV (as := [.int a1, .int a2]) (r := some (.ref 11)) (kc1 := 0) (ks1 := 0) (st := []) (st1 := [.ref 11]) (e_X2_letGo 1 a1 a2 σ τ isCt_1 y2 hy2) mv_X2_letGo lk_X9_217 ⟨by decide, by decide⟩ rfl (Nat.le_of_ble_eq_true rfl) (by decide) ⟨_, rfl, rfl⟩ ⟨by decide, by decide⟩ (Nat.le_of_ble_eq_true rfl) dX9_run_17 rfl rfl rfl rfl rfl) ?_
    refine im_st (r_astore (i := 4) (L1 := [some (.ref 0), some (.int a1), some (.int a2), some (.int a3), some (.ref 11)]) dX9_run_20 rfl (by decide) rfl) ?_
    refine im_st (r_iload_n (i := 3) dX9_run_22 rfl rfl rfl) ?_
    refine im_if (fun c3 => ?_) (fun c3 => ?_)
    · refine im_st (r_tin (off := 33) (pc1 := 56) dX9_run_23 (by rw [c3]; decide) (by rw [c3]; decide) (by rw [c3]; rfl) (by decide)) ?_
      refine im_st (r_aload (i := 4) dX9_run_56 rfl rfl) ?_
      refine im_st (s_getI (tag := 1) (j := 0) dX9_run_58 rfl fl_X9_221 rfl (Nat.le_of_ble_eq_true rfl) rfl) ?_
      exact im_ret (fun q => g_iret rfl rfl rfl dX9_run_61 q)
    · refine im_if (fun c4 => ?_) (fun c4 => ?_)
      · refine im_st (r_tin (off := 39) (pc1 := 62) dX9_run_23 (by rw [c4]; decide) (by rw [c4]; decide) (by rw [c4]; rfl) (by decide)) ?_
        refine im_st (r_aload (i := 4) dX9_run_62 rfl rfl) ?_
        refine im_st (s_getI (tag := 1) (j := 1) dX9_run_64 rfl fl_X9_183 rfl (Nat.le_of_ble_eq_true rfl) rfl) ?_
        exact im_ret (fun q => g_iret rfl rfl rfl dX9_run_67 q)
      · refine im_if (fun c5 => ?_) (fun c5 => ?_)
        · refine im_st (r_tin (off := 45) (pc1 := 68) dX9_run_23 (by rw [c5]; decide) (by rw [c5]; decide) (by rw [c5]; rfl) (by decide)) ?_
          refine im_st (r_aload (i := 4) dX9_run_68 rfl rfl) ?_
          refine im_st (s_getI (tag := 1) (j := 2) dX9_run_70 rfl fl_X9_224 rfl (Nat.le_of_ble_eq_true rfl) rfl) ?_
          exact im_ret (fun q => g_iret rfl rfl rfl dX9_run_73 q)
        · refine im_if (fun c6 => ?_) (fun c6 => ?_)
          · refine im_st (r_tin (off := 51) (pc1 := 74) dX9_run_23 (by rw [c6]; decide) (by rw [c6]; decide) (by rw [c6]; rfl) (by decide)) ?_
            refine im_st (r_aload (i := 4) dX9_run_74 rfl rfl) ?_
            refine im_st (s_getI (tag := 1) (j := 3) dX9_run_76 rfl fl_X9_227 rfl (Nat.le_of_ble_eq_true rfl) rfl) ?_
            exact im_ret (fun q => g_iret rfl rfl rfl dX9_run_79 q)
          · refine im_if (fun c7 => ?_) (fun c7 => ?_)
            · refine im_st (r_tin (off := 57) (pc1 := 80) dX9_run_23 (by rw [c7]; decide) (by rw [c7]; decide) (by rw [c7]; rfl) (by decide)) ?_
              refine im_st (r_aload (i := 4) dX9_run_80 rfl rfl) ?_
              refine im_st (s_getI (tag := 1) (j := 4) dX9_run_82 rfl fl_X9_230 rfl (Nat.le_of_ble_eq_true rfl) rfl) ?_
              refine im_br (r_if_eq (tgt := 92) dX9_run_85 rfl (by decide)) (fun c8 => ?_) (fun c8 => ?_)
              · refine im_st (r_iconst (v := 0) dX9_run_92 rfl kI_0) ?_
                exact im_ret (fun q => g_iret rfl rfl rfl dX9_run_93 q)
              · refine im_st (r_iconst (v := 1) dX9_run_88 rfl kI_1) ?_
                refine im_st (r_goto (pc1 := 93) dX9_run_89 (by decide)) ?_
                exact im_ret (fun q => g_iret rfl rfl rfl dX9_run_93 q)
            · refine im_st (r_tout (pc1 := 94) dX9_run_23 (by have h0 := tsw_not c3 (a := 0) (by decide); have h1 := tsw_not c4 (a := 1) (by decide); have h2 := tsw_not c5 (a := 2) (by decide); have h3 := tsw_not c6 (a := 3) (by decide); have h4 := tsw_not c7 (a := 4) (by decide); omega) (by decide)) ?_
              refine im_st (r_iconst (v := -1) dX9_run_94 rfl kI_m1) ?_
              exact im_ret (fun q => g_iret rfl rfl rfl dX9_run_95 q)
theorem e_X9_run (a1 : Int32) (a2 : Int32) (a3 : Int32) (σ : Sg) (τ : Sl) (y : (Int32 × Sg)) (hy : f_X9_run a1 a2 a3 σ = some y) : EvD M_X9_run [.ref 0, .int a1, .int a2, .int a3] (mk σ τ) (some (.int y.1)) (mk y.2 τ) := EvM.of (by decide +kernel) (Nat.le_of_ble_eq_true rfl) (i_X9_run a1 a2 a3 σ τ _ y hy ⟨rfl, rfl⟩)
def M_X9_way : Ms := (yX9_way, cX9_way, 5, some .int, 4, 85, 0, 0)
theorem mv_X9_way : MV M_X9_way 3 := ⟨⟨q674, q1, by decide, by decide, by decide +kernel⟩, q672, q673⟩
def f_X9_way (a1 : Int32) (a2 : Int32) (a3 : Int32) (σ : Sg) : Option (Int32 × Sg) :=
  if (f_X9_canLetGo a1 a2 σ) = 0 then
    some ((-1 : Int32), σ)
  else
    if a3 < 0 then
      some ((-1 : Int32), σ)
    else
      if a3 < (10 : Int32) then
        (f_X2_letGo 1 a1 a2 σ).bind fun (y4 : Sg) =>
        if a3 ≤ (y4 11 2) then
          if inR a3 10 then
          some ((y4 12 a3.toNatClampNeg), y4)
          else none
        else
          some ((-4 : Int32), y4)
      else
        some ((-1 : Int32), σ)
set_option maxHeartbeats 4000000 in
set_option maxRecDepth 20000 in
theorem i_X9_way (a1 : Int32) (a2 : Int32) (a3 : Int32) (σ : Sg) (τ : Sl) (Q : Option Value → Hp → Prop) : Imp (f_X9_way a1 a2 a3 σ) (fun (y : (Int32 × Sg)) => Q (some (.int y.1)) (mk y.2 τ)) (Go M_X9_way Q 0 0 0 [some (.ref 0), some (.int a1), some (.int a2), some (.int a3), none] [] (mk σ τ)) := by
  unfold f_X9_way
  refine im_st (r_aload_n (i := 0) dX9_way_0 rfl rfl rfl) ?_
  refine im_st (r_iload_n (i := 1) dX9_way_1 rfl rfl rfl) ?_
  refine im_st (r_iload_n (i := 2) dX9_way_2 rfl rfl rfl) ?_
  refine im_st (r_callV (as := [.int a1, .int a2]) (r := some (.int (f_X9_canLetGo a1 a2 σ))) (kc1 := 0) (ks1 := 0) (st := []) (st1 := [.int (f_X9_canLetGo a1 a2 σ)]) (e_X9_canLetGo a1 a2 σ τ) mv_X9_canLetGo lk_X9_210 ⟨by decide, by decide⟩ rfl (Nat.le_of_ble_eq_true rfl) (by decide) ⟨_, rfl, rfl⟩ ⟨by decide, by decide⟩ (Nat.le_of_ble_eq_true rfl) dX9_way_3 rfl rfl rfl rfl rfl) ?_
  refine im_br (r_if_eq (tgt := 19) dX9_way_6 rfl (by decide)) (fun c1 => ?_) (fun c1 => ?_)
  · refine im_st (r_iconst (v := -1) dX9_way_19 rfl kI_m1) ?_
    exact im_ret (fun q => g_iret rfl rfl rfl dX9_way_20 q)
  · refine im_st (r_iload_n (i := 3) dX9_way_9 rfl rfl rfl) ?_
    refine im_br (r_if_lt (tgt := 19) dX9_way_10 rfl (by decide)) (fun c2 => ?_) (fun c2 => ?_)
    · refine im_st (r_iconst (v := -1) dX9_way_19 rfl kI_m1) ?_
      exact im_ret (fun q => g_iret rfl rfl rfl dX9_way_20 q)
    · refine im_st (r_iload_n (i := 3) dX9_way_13 rfl rfl rfl) ?_
      refine im_st (r_bipush (v := 10) dX9_way_14 rfl kB_10) ?_
      refine im_br (r_icmp_lt (tgt := 21) dX9_way_16 rfl (by decide)) (fun c3 => ?_) (fun c3 => ?_)
      · refine im_st (r_aload_n (i := 0) dX9_way_21 rfl rfl rfl) ?_
        refine im_st (s_getR (b := 10) (tag := 9) (j := 1) dX9_way_22 rfl fl_X9_21 rfl (Nat.le_of_ble_eq_true rfl) rfl rfl) ?_
        refine im_st (r_iload_n (i := 1) dX9_way_25 rfl rfl rfl) ?_
        refine im_st (r_iload_n (i := 2) dX9_way_26 rfl rfl rfl) ?_
        refine im_bind (fun y4 hy4 => ?_)
        refine im_st (r_callV (as := [.int a1, .int a2]) (r := some (.ref 11)) (kc1 := 0) (ks1 := 0) (st := []) (st1 := [.ref 11]) (e_X2_letGo 1 a1 a2 σ τ isCt_1 y4 hy4) mv_X2_letGo lk_X9_217 ⟨by decide, by decide⟩ rfl (Nat.le_of_ble_eq_true rfl) (by decide) ⟨_, rfl, rfl⟩ ⟨by decide, by decide⟩ (Nat.le_of_ble_eq_true rfl) dX9_way_27 rfl rfl rfl rfl rfl) ?_
        refine im_st (r_astore (i := 4) (L1 := [some (.ref 0), some (.int a1), some (.int a2), some (.int a3), some (.ref 11)]) dX9_way_30 rfl (by decide) rfl) ?_
        refine im_st (r_iload_n (i := 3) dX9_way_32 rfl rfl rfl) ?_
        refine im_st (r_aload (i := 4) dX9_way_33 rfl rfl) ?_
        refine im_st (s_getI (tag := 1) (j := 2) dX9_way_35 rfl fl_X9_224 rfl (Nat.le_of_ble_eq_true rfl) rfl) ?_
        refine im_br (r_icmp_le (tgt := 46) dX9_way_38 rfl (by decide)) (fun c5 => ?_) (fun c5 => ?_)
        · refine im_st (r_aload (i := 4) dX9_way_46 rfl rfl) ?_
          refine im_st (s_getR (b := 12) (tag := 1) (j := 5) dX9_way_48 rfl fl_X9_234 rfl (Nat.le_of_ble_eq_true rfl) rfl rfl) ?_
          refine im_st (r_iload_n (i := 3) dX9_way_51 rfl rfl rfl) ?_
          refine im_grd (fun g6 => ?_)
          refine im_st (s_iaload dX9_way_52 rfl rfl (Nat.le_of_ble_eq_true rfl) (inR_in g6)) ?_
          exact im_ret (fun q => g_iret rfl rfl rfl dX9_way_53 q)
        · refine im_st (r_bipush (v := -4) dX9_way_41 rfl kB_m4) ?_
          refine im_st (r_goto (pc1 := 53) dX9_way_43 (by decide)) ?_
          exact im_ret (fun q => g_iret rfl rfl rfl dX9_way_53 q)
      · refine im_st (r_iconst (v := -1) dX9_way_19 rfl kI_m1) ?_
        exact im_ret (fun q => g_iret rfl rfl rfl dX9_way_20 q)
theorem e_X9_way (a1 : Int32) (a2 : Int32) (a3 : Int32) (σ : Sg) (τ : Sl) (y : (Int32 × Sg)) (hy : f_X9_way a1 a2 a3 σ = some y) : EvD M_X9_way [.ref 0, .int a1, .int a2, .int a3] (mk σ τ) (some (.int y.1)) (mk y.2 τ) := EvM.of (by decide +kernel) (Nat.le_of_ble_eq_true rfl) (i_X9_way a1 a2 a3 σ τ _ y hy ⟨rfl, rfl⟩)
def M_X9_wins : Ms := (yX9_wins, cX9_wins, 2, some .int, 5, 108, 0, 0)
theorem mv_X9_wins : MV M_X9_wins 1 := ⟨⟨q678, q1, by decide, by decide, by decide +kernel⟩, q676, q677⟩
def f_X9_wins (a1 : Int32) (σ : Sg) : Option (Int32 × Sg) :=
  if (f_X9_isRag a1) = 0 then
    some ((-1 : Int32), σ)
  else
    (f_X2_wonBy 1 a1 σ).bind fun (y2 : (Int32 × Sg)) =>
    some (y2.1, y2.2)
set_option maxHeartbeats 4000000 in
set_option maxRecDepth 20000 in
theorem i_X9_wins (a1 : Int32) (σ : Sg) (τ : Sl) (Q : Option Value → Hp → Prop) : Imp (f_X9_wins a1 σ) (fun (y : (Int32 × Sg)) => Q (some (.int y.1)) (mk y.2 τ)) (Go M_X9_wins Q 0 0 0 [some (.ref 0), some (.int a1)] [] (mk σ τ)) := by
  unfold f_X9_wins
  refine im_st (r_iload_n (i := 1) dX9_wins_0 rfl rfl rfl) ?_
  refine im_st (r_callS (as := [.int a1]) (r := some (.int (f_X9_isRag a1))) (kc1 := 0) (ks1 := 0) (st := []) (st1 := [.int (f_X9_isRag a1)]) (e_X9_isRag a1 σ τ) ms_X9_isRag lk_X9_196 ⟨by decide, by decide⟩ ⟨by decide, by decide⟩ (Nat.le_of_ble_eq_true rfl) dX9_wins_1 rfl rfl rfl rfl rfl) ?_
  refine im_br (r_if_eq (tgt := 18) dX9_wins_4 rfl (by decide)) (fun c1 => ?_) (fun c1 => ?_)
  · refine im_st (r_iconst (v := -1) dX9_wins_18 rfl kI_m1) ?_
    exact im_ret (fun q => g_iret rfl rfl rfl dX9_wins_19 q)
  · refine im_st (r_aload_n (i := 0) dX9_wins_7 rfl rfl rfl) ?_
    refine im_st (s_getR (b := 10) (tag := 9) (j := 1) dX9_wins_8 rfl fl_X9_21 rfl (Nat.le_of_ble_eq_true rfl) rfl rfl) ?_
    refine im_st (r_iload_n (i := 1) dX9_wins_11 rfl rfl rfl) ?_
    refine im_bind (fun y2 hy2 => ?_)
    refine im_st (r_callV (as := [.int a1]) (r := some (.int y2.1)) (kc1 := 0) (ks1 := 0) (st := []) (st1 := [.int y2.1]) (e_X2_wonBy 1 a1 σ τ isCt_1 y2 hy2) mv_X2_wonBy lk_X9_237 ⟨by decide, by decide⟩ rfl (Nat.le_of_ble_eq_true rfl) (by decide) ⟨_, rfl, rfl⟩ ⟨by decide, by decide⟩ (Nat.le_of_ble_eq_true rfl) dX9_wins_12 rfl rfl rfl rfl rfl) ?_
    refine im_st (r_goto (pc1 := 19) dX9_wins_15 (by decide)) ?_
    exact im_ret (fun q => g_iret rfl rfl rfl dX9_wins_19 q)
theorem e_X9_wins (a1 : Int32) (σ : Sg) (τ : Sl) (y : (Int32 × Sg)) (hy : f_X9_wins a1 σ = some y) : EvD M_X9_wins [.ref 0, .int a1] (mk σ τ) (some (.int y.1)) (mk y.2 τ) := EvM.of (by decide +kernel) (Nat.le_of_ble_eq_true rfl) (i_X9_wins a1 σ τ _ y hy ⟨rfl, rfl⟩)
def M_X9_share : Ms := (yX9_share, cX9_share, 3, some .int, 5, 109, 0, 0)
theorem mv_X9_share : MV M_X9_share 2 := ⟨⟨q686, q1, by decide, by decide, by decide +kernel⟩, q684, q685⟩
def f_X9_share (a1 : Int32) (a2 : Int32) (σ : Sg) : Option (Int32 × Sg) :=
  if (f_X7_isHedgehog 1 a1 σ) = 0 then
    some ((-1 : Int32), σ)
  else
    if (f_X9_isRag a2) = 0 then
      some ((-1 : Int32), σ)
    else
      (f_X2_winningColumns 1 a1 a2 σ).bind fun (y3 : (Int32 × Sg)) =>
      some ((f_J6_bitCount_0f7a4 y3.1), y3.2)
set_option maxHeartbeats 4000000 in
set_option maxRecDepth 20000 in
theorem i_X9_share (a1 : Int32) (a2 : Int32) (σ : Sg) (τ : Sl) (Q : Option Value → Hp → Prop) : Imp (f_X9_share a1 a2 σ) (fun (y : (Int32 × Sg)) => Q (some (.int y.1)) (mk y.2 τ)) (Go M_X9_share Q 0 0 0 [some (.ref 0), some (.int a1), some (.int a2)] [] (mk σ τ)) := by
  unfold f_X9_share
  refine im_st (r_aload_n (i := 0) dX9_share_0 rfl rfl rfl) ?_
  refine im_st (s_getR (b := 1) (tag := 9) (j := 0) dX9_share_1 rfl fl_X9_10 rfl (Nat.le_of_ble_eq_true rfl) rfl rfl) ?_
  refine im_st (r_iload_n (i := 1) dX9_share_4 rfl rfl rfl) ?_
  refine im_st (r_callV (as := [.int a1]) (r := some (.int (f_X7_isHedgehog 1 a1 σ))) (kc1 := 0) (ks1 := 0) (st := []) (st1 := [.int (f_X7_isHedgehog 1 a1 σ)]) (e_X7_isHedgehog 1 a1 σ τ isSl_1) mv_X7_isHedgehog lk_X9_153 ⟨by decide, by decide⟩ rfl (Nat.le_of_ble_eq_true rfl) (by decide) ⟨_, rfl, rfl⟩ ⟨by decide, by decide⟩ (Nat.le_of_ble_eq_true rfl) dX9_share_5 rfl rfl rfl rfl rfl) ?_
  refine im_br (r_if_eq (tgt := 18) dX9_share_8 rfl (by decide)) (fun c1 => ?_) (fun c1 => ?_)
  · refine im_st (r_iconst (v := -1) dX9_share_18 rfl kI_m1) ?_
    exact im_ret (fun q => g_iret rfl rfl rfl dX9_share_19 q)
  · refine im_st (r_iload_n (i := 2) dX9_share_11 rfl rfl rfl) ?_
    refine im_st (r_callS (as := [.int a2]) (r := some (.int (f_X9_isRag a2))) (kc1 := 0) (ks1 := 0) (st := []) (st1 := [.int (f_X9_isRag a2)]) (e_X9_isRag a2 σ τ) ms_X9_isRag lk_X9_196 ⟨by decide, by decide⟩ ⟨by decide, by decide⟩ (Nat.le_of_ble_eq_true rfl) dX9_share_12 rfl rfl rfl rfl rfl) ?_
    refine im_br (r_if_ne (tgt := 20) dX9_share_15 rfl (by decide)) (fun c2 => ?_) (fun c2 => ?_)
    · refine im_st (r_iconst (v := -1) dX9_share_18 rfl kI_m1) ?_
      exact im_ret (fun q => g_iret rfl rfl rfl dX9_share_19 q)
    · refine im_st (r_aload_n (i := 0) dX9_share_20 rfl rfl rfl) ?_
      refine im_st (s_getR (b := 10) (tag := 9) (j := 1) dX9_share_21 rfl fl_X9_21 rfl (Nat.le_of_ble_eq_true rfl) rfl rfl) ?_
      refine im_st (r_iload_n (i := 1) dX9_share_24 rfl rfl rfl) ?_
      refine im_st (r_iload_n (i := 2) dX9_share_25 rfl rfl rfl) ?_
      refine im_bind (fun y3 hy3 => ?_)
      refine im_st (r_callV (as := [.int a1, .int a2]) (r := some (.int y3.1)) (kc1 := 0) (ks1 := 0) (st := []) (st1 := [.int y3.1]) (e_X2_winningColumns 1 a1 a2 σ τ isCt_1 y3 hy3) mv_X2_winningColumns lk_X9_240 ⟨by decide, by decide⟩ rfl (Nat.le_of_ble_eq_true rfl) (by decide) ⟨_, rfl, rfl⟩ ⟨by decide, by decide⟩ (Nat.le_of_ble_eq_true rfl) dX9_share_26 rfl rfl rfl rfl rfl) ?_
      refine im_st (r_callS (as := [.int y3.1]) (r := some (.int (f_J6_bitCount_0f7a4 y3.1))) (kc1 := 0) (ks1 := 0) (st := []) (st1 := [.int (f_J6_bitCount_0f7a4 y3.1)]) (e_J6_bitCount_0f7a4 y3.1 y3.2 τ) ms_J6_bitCount_0f7a4 lk_X9_243 ⟨by decide, by decide⟩ ⟨by decide, by decide⟩ (Nat.le_of_ble_eq_true rfl) dX9_share_29 rfl rfl rfl rfl rfl) ?_
      exact im_ret (fun q => g_iret rfl rfl rfl dX9_share_32 q)
theorem e_X9_share (a1 : Int32) (a2 : Int32) (σ : Sg) (τ : Sl) (y : (Int32 × Sg)) (hy : f_X9_share a1 a2 σ = some y) : EvD M_X9_share [.ref 0, .int a1, .int a2] (mk σ τ) (some (.int y.1)) (mk y.2 τ) := EvM.of (by decide +kernel) (Nat.le_of_ble_eq_true rfl) (i_X9_share a1 a2 σ τ _ y hy ⟨rfl, rfl⟩)
def M_X9_first : Ms := (yX9_first, cX9_first, 4, some .int, 5, 109, 0, 0)
theorem mv_X9_first : MV M_X9_first 2 := ⟨⟨q700, q1, by decide, by decide, by decide +kernel⟩, q698, q699⟩
def f_X9_first (a1 : Int32) (a2 : Int32) (σ : Sg) : Option (Int32 × Sg) :=
  if (f_X7_isHedgehog 1 a1 σ) = 0 then
    some ((-1 : Int32), σ)
  else
    if (f_X9_isRag a2) = 0 then
      some ((-1 : Int32), σ)
    else
      (f_X2_winningColumns 1 a1 a2 σ).bind fun (y3 : (Int32 × Sg)) =>
      if y3.1 = 0 then
        some ((-4 : Int32), y3.2)
      else
        some ((f_J6_numberOfTrailingZeros_0f7a4 y3.1), y3.2)
set_option maxHeartbeats 4000000 in
set_option maxRecDepth 20000 in
theorem i_X9_first (a1 : Int32) (a2 : Int32) (σ : Sg) (τ : Sl) (Q : Option Value → Hp → Prop) : Imp (f_X9_first a1 a2 σ) (fun (y : (Int32 × Sg)) => Q (some (.int y.1)) (mk y.2 τ)) (Go M_X9_first Q 0 0 0 [some (.ref 0), some (.int a1), some (.int a2), none] [] (mk σ τ)) := by
  unfold f_X9_first
  refine im_st (r_aload_n (i := 0) dX9_first_0 rfl rfl rfl) ?_
  refine im_st (s_getR (b := 1) (tag := 9) (j := 0) dX9_first_1 rfl fl_X9_10 rfl (Nat.le_of_ble_eq_true rfl) rfl rfl) ?_
  refine im_st (r_iload_n (i := 1) dX9_first_4 rfl rfl rfl) ?_
  refine im_st (r_callV (as := [.int a1]) (r := some (.int (f_X7_isHedgehog 1 a1 σ))) (kc1 := 0) (ks1 := 0) (st := []) (st1 := [.int (f_X7_isHedgehog 1 a1 σ)]) (e_X7_isHedgehog 1 a1 σ τ isSl_1) mv_X7_isHedgehog lk_X9_153 ⟨by decide, by decide⟩ rfl (Nat.le_of_ble_eq_true rfl) (by decide) ⟨_, rfl, rfl⟩ ⟨by decide, by decide⟩ (Nat.le_of_ble_eq_true rfl) dX9_first_5 rfl rfl rfl rfl rfl) ?_
  refine im_br (r_if_eq (tgt := 18) dX9_first_8 rfl (by decide)) (fun c1 => ?_) (fun c1 => ?_)
  · refine im_st (r_iconst (v := -1) dX9_first_18 rfl kI_m1) ?_
    exact im_ret (fun q => g_iret rfl rfl rfl dX9_first_19 q)
  · refine im_st (r_iload_n (i := 2) dX9_first_11 rfl rfl rfl) ?_
    refine im_st (r_callS (as := [.int a2]) (r := some (.int (f_X9_isRag a2))) (kc1 := 0) (ks1 := 0) (st := []) (st1 := [.int (f_X9_isRag a2)]) (e_X9_isRag a2 σ τ) ms_X9_isRag lk_X9_196 ⟨by decide, by decide⟩ ⟨by decide, by decide⟩ (Nat.le_of_ble_eq_true rfl) dX9_first_12 rfl rfl rfl rfl rfl) ?_
    refine im_br (r_if_ne (tgt := 20) dX9_first_15 rfl (by decide)) (fun c2 => ?_) (fun c2 => ?_)
    · refine im_st (r_iconst (v := -1) dX9_first_18 rfl kI_m1) ?_
      exact im_ret (fun q => g_iret rfl rfl rfl dX9_first_19 q)
    · refine im_st (r_aload_n (i := 0) dX9_first_20 rfl rfl rfl) ?_
      refine im_st (s_getR (b := 10) (tag := 9) (j := 1) dX9_first_21 rfl fl_X9_21 rfl (Nat.le_of_ble_eq_true rfl) rfl rfl) ?_
      refine im_st (r_iload_n (i := 1) dX9_first_24 rfl rfl rfl) ?_
      refine im_st (r_iload_n (i := 2) dX9_first_25 rfl rfl rfl) ?_
      refine im_bind (fun y3 hy3 => ?_)
      refine im_st (r_callV (as := [.int a1, .int a2]) (r := some (.int y3.1)) (kc1 := 0) (ks1 := 0) (st := []) (st1 := [.int y3.1]) (e_X2_winningColumns 1 a1 a2 σ τ isCt_1 y3 hy3) mv_X2_winningColumns lk_X9_240 ⟨by decide, by decide⟩ rfl (Nat.le_of_ble_eq_true rfl) (by decide) ⟨_, rfl, rfl⟩ ⟨by decide, by decide⟩ (Nat.le_of_ble_eq_true rfl) dX9_first_26 rfl rfl rfl rfl rfl) ?_
      refine im_st (r_istore_n (i := 3) (L1 := [some (.ref 0), some (.int a1), some (.int a2), some (.int y3.1)]) dX9_first_29 rfl rfl (by decide) rfl) ?_
      refine im_st (r_iload_n (i := 3) dX9_first_30 rfl rfl rfl) ?_
      refine im_br (r_if_ne (tgt := 39) dX9_first_31 rfl (by decide)) (fun c4 => ?_) (fun c4 => ?_)
      · refine im_st (r_bipush (v := -4) dX9_first_34 rfl kB_m4) ?_
        refine im_st (r_goto (pc1 := 43) dX9_first_36 (by decide)) ?_
        exact im_ret (fun q => g_iret rfl rfl rfl dX9_first_43 q)
      · refine im_st (r_iload_n (i := 3) dX9_first_39 rfl rfl rfl) ?_
        refine im_st (r_callS (as := [.int y3.1]) (r := some (.int (f_J6_numberOfTrailingZeros_0f7a4 y3.1))) (kc1 := 0) (ks1 := 0) (st := []) (st1 := [.int (f_J6_numberOfTrailingZeros_0f7a4 y3.1)]) (e_J6_numberOfTrailingZeros_0f7a4 y3.1 y3.2 τ) ms_J6_numberOfTrailingZeros_0f7a4 lk_X9_248 ⟨by decide, by decide⟩ ⟨by decide, by decide⟩ (Nat.le_of_ble_eq_true rfl) dX9_first_40 rfl rfl rfl rfl rfl) ?_
        exact im_ret (fun q => g_iret rfl rfl rfl dX9_first_43 q)
theorem e_X9_first (a1 : Int32) (a2 : Int32) (σ : Sg) (τ : Sl) (y : (Int32 × Sg)) (hy : f_X9_first a1 a2 σ = some y) : EvD M_X9_first [.ref 0, .int a1, .int a2] (mk σ τ) (some (.int y.1)) (mk y.2 τ) := EvM.of (by decide +kernel) (Nat.le_of_ble_eq_true rfl) (i_X9_first a1 a2 σ τ _ y hy ⟨rfl, rfl⟩)
def M_X9_kindly : Ms := (yX9_kindly, cX9_kindly, 6, some .int, 4, 86, 0, 0)
theorem mv_X9_kindly : MV M_X9_kindly 3 := ⟨⟨q708, q1, by decide, by decide, by decide +kernel⟩, q706, q707⟩
def b_X9_kindly_24 (a1 : Int32) (a2 : Int32) (a3 : Int32) : (Int32 × Int32 × Sg) → Option ((Int32 × Int32 × Sg) ⊕ (Int32 × Int32 × Sg)) := fun (s3 : (Int32 × Int32 × Sg)) =>
  if (4 : Int32) ≤ s3.2.1 then
    some (.inr (s3.1, s3.2.1, s3.2.2))
  else
    if inR a1 4 then
    (f_X2_letGoAs 1 s3.2.1 (s3.2.2 6 a1.toNatClampNeg) a2 s3.2.2).bind fun (y6 : Sg) =>
    app (if (y6 11 1) = a3 then
      app (s3.1 ||| ((1 : Int32) <<< (s3.2.1 &&& 31))) fun (v9 : Int32) =>
      v9
    else
      s3.1) fun (j7 : Int32) =>
    some (.inl (j7, (s3.2.1 + 1), y6))
    else none
def f_X9_kindly (a1 : Int32) (a2 : Int32) (a3 : Int32) (σ : Sg) : Option (Int32 × Sg) :=
  if (f_X9_canLetGo a1 a2 σ) = 0 then
    some ((-1 : Int32), σ)
  else
    if (f_X9_isRag a3) = 0 then
      some ((-1 : Int32), σ)
    else
      (wh (b_X9_kindly_24 a1 a2 a3) 4096 ((0 : Int32), (0 : Int32), σ)).bind fun (e10 : (Int32 × Int32 × Sg)) =>
      some (e10.1, e10.2.2)
set_option maxHeartbeats 4000000 in
set_option maxRecDepth 20000 in
theorem i_X9_kindly (a1 : Int32) (a2 : Int32) (a3 : Int32) (σ : Sg) (τ : Sl) (Q : Option Value → Hp → Prop) : Imp (f_X9_kindly a1 a2 a3 σ) (fun (y : (Int32 × Sg)) => Q (some (.int y.1)) (mk y.2 τ)) (Go M_X9_kindly Q 0 0 0 [some (.ref 0), some (.int a1), some (.int a2), some (.int a3), none, none] [] (mk σ τ)) := by
  unfold f_X9_kindly
  refine im_st (r_aload_n (i := 0) dX9_kindly_0 rfl rfl rfl) ?_
  refine im_st (r_iload_n (i := 1) dX9_kindly_1 rfl rfl rfl) ?_
  refine im_st (r_iload_n (i := 2) dX9_kindly_2 rfl rfl rfl) ?_
  refine im_st (r_callV (as := [.int a1, .int a2]) (r := some (.int (f_X9_canLetGo a1 a2 σ))) (kc1 := 0) (ks1 := 0) (st := []) (st1 := [.int (f_X9_canLetGo a1 a2 σ)]) (e_X9_canLetGo a1 a2 σ τ) mv_X9_canLetGo lk_X9_210 ⟨by decide, by decide⟩ rfl (Nat.le_of_ble_eq_true rfl) (by decide) ⟨_, rfl, rfl⟩ ⟨by decide, by decide⟩ (Nat.le_of_ble_eq_true rfl) dX9_kindly_3 rfl rfl rfl rfl rfl) ?_
  refine im_br (r_if_eq (tgt := 16) dX9_kindly_6 rfl (by decide)) (fun c1 => ?_) (fun c1 => ?_)
  · refine im_st (r_iconst (v := -1) dX9_kindly_16 rfl kI_m1) ?_
    exact im_ret (fun q => g_iret rfl rfl rfl dX9_kindly_17 q)
  · refine im_st (r_iload_n (i := 3) dX9_kindly_9 rfl rfl rfl) ?_
    refine im_st (r_callS (as := [.int a3]) (r := some (.int (f_X9_isRag a3))) (kc1 := 0) (ks1 := 0) (st := []) (st1 := [.int (f_X9_isRag a3)]) (e_X9_isRag a3 σ τ) ms_X9_isRag lk_X9_196 ⟨by decide, by decide⟩ ⟨by decide, by decide⟩ (Nat.le_of_ble_eq_true rfl) dX9_kindly_10 rfl rfl rfl rfl rfl) ?_
    refine im_br (r_if_ne (tgt := 18) dX9_kindly_13 rfl (by decide)) (fun c2 => ?_) (fun c2 => ?_)
    · refine im_st (r_iconst (v := -1) dX9_kindly_16 rfl kI_m1) ?_
      exact im_ret (fun q => g_iret rfl rfl rfl dX9_kindly_17 q)
    · refine im_st (r_iconst (v := 0) dX9_kindly_18 rfl kI_0) ?_
      refine im_st (r_istore (i := 4) (L1 := [some (.ref 0), some (.int a1), some (.int a2), some (.int a3), some (.int (0 : Int32)), none]) dX9_kindly_19 rfl (by decide) rfl) ?_
      refine im_st (r_iconst (v := 0) dX9_kindly_21 rfl kI_0) ?_
      refine im_st (r_istore (i := 5) (L1 := [some (.ref 0), some (.int a1), some (.int a2), some (.int a3), some (.int (0 : Int32)), some (.int (0 : Int32))]) dX9_kindly_22 rfl (by decide) rfl) ?_
      refine im_seq (Gm := fun (e10 : (Int32 × Int32 × Sg)) => Go M_X9_kindly Q 0 0 71 [none, none, none, none, some (.int e10.1), none] [] (mk e10.2.2 τ)) ?_ (fun e10 => ?_)
      · refine im_wh (G := fun (s3 : (Int32 × Int32 × Sg)) => Go M_X9_kindly Q 0 0 24 [some (.ref 0), some (.int a1), some (.int a2), some (.int a3), some (.int s3.1), some (.int s3.2.1)] [] (mk s3.2.2 τ)) (fun s3 => ?_) _ _
        unfold b_X9_kindly_24
        refine im_st (r_iload (i := 5) dX9_kindly_24 rfl rfl) ?_
        refine im_st (r_iconst (v := 4) dX9_kindly_26 rfl kI_4) ?_
        refine im_br (r_icmp_ge (tgt := 71) dX9_kindly_27 rfl (by decide)) (fun c4 => ?_) (fun c4 => ?_)
        · refine im_st (r_fgt (L1 := [none, none, none, none, some (.int s3.1), none]) [0, 1, 2, 3, 5] rfl) ?_
          exact im_ret id
        · refine im_st (r_aload_n (i := 0) dX9_kindly_30 rfl rfl rfl) ?_
          refine im_st (s_getR (b := 10) (tag := 9) (j := 1) dX9_kindly_31 rfl fl_X9_21 rfl (Nat.le_of_ble_eq_true rfl) rfl rfl) ?_
          refine im_st (r_iload (i := 5) dX9_kindly_34 rfl rfl) ?_
          refine im_st (r_aload_n (i := 0) dX9_kindly_36 rfl rfl rfl) ?_
          refine im_st (s_getR (b := 1) (tag := 9) (j := 0) dX9_kindly_37 rfl fl_X9_10 rfl (Nat.le_of_ble_eq_true rfl) rfl rfl) ?_
          refine im_st (s_getR (b := 6) (tag := 7) (j := 6) dX9_kindly_40 rfl fl_X9_159 rfl (Nat.le_of_ble_eq_true rfl) rfl rfl) ?_
          refine im_st (r_iload_n (i := 1) dX9_kindly_43 rfl rfl rfl) ?_
          refine im_grd (fun g5 => ?_)
          refine im_st (s_iaload dX9_kindly_44 rfl rfl (Nat.le_of_ble_eq_true rfl) (inR_in g5)) ?_
          refine im_st (r_iload_n (i := 2) dX9_kindly_45 rfl rfl rfl) ?_
          refine im_bind (fun y6 hy6 => ?_)
          refine im_st (r_callV (as := [.int s3.2.1, .int (s3.2.2 6 a1.toNatClampNeg), .int a2]) (r := some (.ref 11)) (kc1 := 0) (ks1 := 0) (st := []) (st1 := [.ref 11]) (e_X2_letGoAs 1 s3.2.1 (s3.2.2 6 a1.toNatClampNeg) a2 s3.2.2 τ isCt_1 y6 hy6) mv_X2_letGoAs lk_X9_251 ⟨by decide, by decide⟩ rfl (Nat.le_of_ble_eq_true rfl) (by decide) ⟨_, rfl, rfl⟩ ⟨by decide, by decide⟩ (Nat.le_of_ble_eq_true rfl) dX9_kindly_46 rfl rfl rfl rfl rfl) ?_
          refine im_st (s_getI (tag := 1) (j := 1) dX9_kindly_49 rfl fl_X9_183 rfl (Nat.le_of_ble_eq_true rfl) rfl) ?_
          refine im_st (r_iload_n (i := 3) dX9_kindly_52 rfl rfl rfl) ?_
          refine im_seqT (Gm := fun (j7 : Int32) => Go M_X9_kindly Q 0 0 65 [some (.ref 0), some (.int a1), some (.int a2), some (.int a3), some (.int j7), some (.int s3.2.1)] [] (mk y6 τ)) ?_ (fun j7 => ?_)
          · refine im_brS (r_icmp_ne (tgt := 65) dX9_kindly_53 rfl (by decide)) (fun c8 => ?_) (fun c8 => ?_)
            · refine im_st (r_iload (i := 4) dX9_kindly_56 rfl rfl) ?_
              refine im_st (r_iconst (v := 1) dX9_kindly_58 rfl kI_1) ?_
              refine im_st (r_iload (i := 5) dX9_kindly_59 rfl rfl) ?_
              refine im_st (r_ishl dX9_kindly_61 rfl) ?_
              refine im_st (r_ior dX9_kindly_62 rfl) ?_
              refine im_appS (Gm := fun (v9 : Int32) => Go M_X9_kindly Q 0 0 63 [some (.ref 0), some (.int a1), some (.int a2), some (.int a3), some (.int s3.1), some (.int s3.2.1)] [.int v9] (mk y6 τ)) (fun v9 => ?_)
              refine im_st (r_istore (i := 4) (L1 := [some (.ref 0), some (.int a1), some (.int a2), some (.int a3), some (.int v9), some (.int s3.2.1)]) dX9_kindly_63 rfl (by decide) rfl) ?_
              exact im_ret id
            · exact im_ret id
          refine im_st (r_iinc (i := 5) (x := s3.2.1) (v := (s3.2.1 + 1)) (L1 := [some (.ref 0), some (.int a1), some (.int a2), some (.int a3), some (.int j7), some (.int (s3.2.1 + 1))]) dX9_kindly_65 rfl rfl rfl (by decide) rfl) ?_
          refine im_st (r_goto (pc1 := 24) dX9_kindly_68 (by decide)) ?_
          exact im_ret id
      refine im_st (r_iload (i := 4) dX9_kindly_71 rfl rfl) ?_
      exact im_ret (fun q => g_iret rfl rfl rfl dX9_kindly_73 q)
theorem e_X9_kindly (a1 : Int32) (a2 : Int32) (a3 : Int32) (σ : Sg) (τ : Sl) (y : (Int32 × Sg)) (hy : f_X9_kindly a1 a2 a3 σ = some y) : EvD M_X9_kindly [.ref 0, .int a1, .int a2, .int a3] (mk σ τ) (some (.int y.1)) (mk y.2 τ) := EvM.of (by decide +kernel) (Nat.le_of_ble_eq_true rfl) (i_X9_kindly a1 a2 a3 σ τ _ y hy ⟨rfl, rfl⟩)
def M_X9_isHalf : Ms := (yX9_isHalf, cX9_isHalf, 1, some .boolean, 0, 0, 0, 0)
theorem ms_X9_isHalf : MS M_X9_isHalf 1 := ⟨⟨q719, q1, by decide, by decide, by decide +kernel⟩, q718⟩
def f_X9_isHalf (a0 : Int32) : Int32 :=
  if a0 = 0 then
    (1 : Int32)
  else
    if a0 = (1 : Int32) then
      (1 : Int32)
    else
      (0 : Int32)
theorem z_X9_isHalf (a0 : Int32) : isB (f_X9_isHalf a0) = true := by
  unfold f_X9_isHalf
  (repeat' split) <;> first | rfl
set_option maxHeartbeats 4000000 in
set_option maxRecDepth 20000 in
theorem i_X9_isHalf (a0 : Int32) (σ : Sg) (τ : Sl) (Q : Option Value → Hp → Prop) : Imp (some (f_X9_isHalf a0)) (fun (y : Int32) => Q (some (.int y)) (mk σ τ)) (Go M_X9_isHalf Q 0 0 0 [some (.int a0)] [] (mk σ τ)) := by
  unfold f_X9_isHalf
  refine im_st (r_iload_n (i := 0) dX9_isHalf_0 rfl rfl rfl) ?_
  refine im_brS (r_if_eq (tgt := 9) dX9_isHalf_1 rfl (by decide)) (fun c1 => ?_) (fun c1 => ?_)
  · refine im_st (r_iconst (v := 1) dX9_isHalf_9 rfl kI_1) ?_
    refine im_st (r_goto (pc1 := 14) dX9_isHalf_10 (by decide)) ?_
    exact im_ret (fun q => g_zret (ty := .boolean) rfl rfl rfl rfl dX9_isHalf_14 q)
  · refine im_st (r_iload_n (i := 0) dX9_isHalf_4 rfl rfl rfl) ?_
    refine im_st (r_iconst (v := 1) dX9_isHalf_5 rfl kI_1) ?_
    refine im_brS (r_icmp_ne (tgt := 13) dX9_isHalf_6 rfl (by decide)) (fun c2 => ?_) (fun c2 => ?_)
    · refine im_st (r_iconst (v := 1) dX9_isHalf_9 rfl kI_1) ?_
      refine im_st (r_goto (pc1 := 14) dX9_isHalf_10 (by decide)) ?_
      exact im_ret (fun q => g_zret (ty := .boolean) rfl rfl rfl rfl dX9_isHalf_14 q)
    · refine im_st (r_iconst (v := 0) dX9_isHalf_13 rfl kI_0) ?_
      exact im_ret (fun q => g_zret (ty := .boolean) rfl rfl rfl rfl dX9_isHalf_14 q)
theorem e_X9_isHalf (a0 : Int32) (σ : Sg) (τ : Sl) : EvD M_X9_isHalf [.int a0] (mk σ τ) (some (.int (f_X9_isHalf a0))) (mk σ τ) := EvM.of (by decide +kernel) (Nat.le_of_ble_eq_true rfl) (i_X9_isHalf a0 σ τ _ _ rfl ⟨rfl, rfl⟩)
def M_X9_place : Ms := (yX9_place, cX9_place, 3, some .int, 6, 131, 0, 0)
theorem mv_X9_place : MV M_X9_place 2 := ⟨⟨q716, q1, by decide, by decide, by decide +kernel⟩, q714, q715⟩
def f_X9_place (a1 : Int32) (a2 : Int32) (σ : Sg) : Option (Int32 × Sg) :=
  if (f_X9_isRag a1) = 0 then
    some ((-1 : Int32), σ)
  else
    if (f_X9_isHalf a2) = 0 then
      some ((-1 : Int32), σ)
    else
      if (σ 1 2) < (7 : Int32) then
        app (f_X7_copyFrom 13 1 σ) fun (σ4 : Sg) =>
        (f_X0_seekNewPeg a1 σ4).bind fun (y5 : Sg) =>
        some ((f_X0_told a2 y5), y5)
      else
        some ((-3 : Int32), σ)
set_option maxHeartbeats 4000000 in
set_option maxRecDepth 20000 in
theorem i_X9_place (a1 : Int32) (a2 : Int32) (σ : Sg) (τ : Sl) (Q : Option Value → Hp → Prop) : Imp (f_X9_place a1 a2 σ) (fun (y : (Int32 × Sg)) => Q (some (.int y.1)) (mk y.2 τ)) (Go M_X9_place Q 0 0 0 [some (.ref 0), some (.int a1), some (.int a2)] [] (mk σ τ)) := by
  unfold f_X9_place
  refine im_st (r_iload_n (i := 1) dX9_place_0 rfl rfl rfl) ?_
  refine im_st (r_callS (as := [.int a1]) (r := some (.int (f_X9_isRag a1))) (kc1 := 0) (ks1 := 0) (st := []) (st1 := [.int (f_X9_isRag a1)]) (e_X9_isRag a1 σ τ) ms_X9_isRag lk_X9_196 ⟨by decide, by decide⟩ ⟨by decide, by decide⟩ (Nat.le_of_ble_eq_true rfl) dX9_place_1 rfl rfl rfl rfl rfl) ?_
  refine im_br (r_if_eq (tgt := 14) dX9_place_4 rfl (by decide)) (fun c1 => ?_) (fun c1 => ?_)
  · refine im_st (r_iconst (v := -1) dX9_place_14 rfl kI_m1) ?_
    exact im_ret (fun q => g_iret rfl rfl rfl dX9_place_15 q)
  · refine im_st (r_iload_n (i := 2) dX9_place_7 rfl rfl rfl) ?_
    refine im_st (r_callS (as := [.int a2]) (r := some (.int (f_X9_isHalf a2))) (kc1 := 0) (ks1 := 0) (st := []) (st1 := [.int (f_X9_isHalf a2)]) (e_X9_isHalf a2 σ τ) ms_X9_isHalf lk_X9_255 ⟨by decide, by decide⟩ ⟨by decide, by decide⟩ (Nat.le_of_ble_eq_true rfl) dX9_place_8 rfl rfl rfl rfl rfl) ?_
    refine im_br (r_if_ne (tgt := 16) dX9_place_11 rfl (by decide)) (fun c2 => ?_) (fun c2 => ?_)
    · refine im_st (r_iconst (v := -1) dX9_place_14 rfl kI_m1) ?_
      exact im_ret (fun q => g_iret rfl rfl rfl dX9_place_15 q)
    · refine im_st (r_aload_n (i := 0) dX9_place_16 rfl rfl rfl) ?_
      refine im_st (s_getR (b := 1) (tag := 9) (j := 0) dX9_place_17 rfl fl_X9_10 rfl (Nat.le_of_ble_eq_true rfl) rfl rfl) ?_
      refine im_st (s_getI (tag := 7) (j := 2) dX9_place_20 rfl fl_X9_115 rfl (Nat.le_of_ble_eq_true rfl) rfl) ?_
      refine im_st (r_bipush (v := 7) dX9_place_23 rfl kB_7) ?_
      refine im_br (r_icmp_lt (tgt := 31) dX9_place_25 rfl (by decide)) (fun c3 => ?_) (fun c3 => ?_)
      · refine im_st (r_aload_n (i := 0) dX9_place_31 rfl rfl rfl) ?_
        refine im_st (s_getR (b := 13) (tag := 9) (j := 2) dX9_place_32 rfl fl_X9_25 rfl (Nat.le_of_ble_eq_true rfl) rfl rfl) ?_
        refine im_st (r_aload_n (i := 0) dX9_place_35 rfl rfl rfl) ?_
        refine im_st (s_getR (b := 1) (tag := 9) (j := 0) dX9_place_36 rfl fl_X9_10 rfl (Nat.le_of_ble_eq_true rfl) rfl rfl) ?_
        refine im_st (r_callV (as := [.ref 1]) (r := none) (kc1 := 0) (ks1 := 0) (st := []) (st1 := []) (e_X7_copyFrom 13 1 σ τ isSl_13 isSl_1) mv_X7_copyFrom lk_X9_109 ⟨by decide, by decide⟩ rfl (Nat.le_of_ble_eq_true rfl) (by decide) ⟨_, rfl, rfl⟩ ⟨by decide, by decide⟩ (Nat.le_of_ble_eq_true rfl) dX9_place_39 rfl rfl rfl rfl rfl) ?_
        refine im_st (r_aload_n (i := 0) dX9_place_42 rfl rfl rfl) ?_
        refine im_st (s_getR (b := 25) (tag := 9) (j := 4) dX9_place_43 rfl fl_X9_36 rfl (Nat.le_of_ble_eq_true rfl) rfl rfl) ?_
        refine im_st (r_iload_n (i := 1) dX9_place_46 rfl rfl rfl) ?_
        refine im_app (Gm := fun (σ4 : Sg) => Go M_X9_place Q 0 0 47 [some (.ref 0), some (.int a1), some (.int a2)] [.int a1, .ref 25] (mk σ4 τ)) (fun σ4 => ?_)
        refine im_bind (fun y5 hy5 => ?_)
        refine im_st (r_callV (as := [.int a1]) (r := none) (kc1 := 0) (ks1 := 0) (st := []) (st1 := []) (e_X0_seekNewPeg a1 σ4 τ y5 hy5) mv_X0_seekNewPeg lk_X9_258 ⟨by decide, by decide⟩ rfl (Nat.le_of_ble_eq_true rfl) (by decide) ⟨_, rfl, rfl⟩ ⟨by decide, by decide⟩ (Nat.le_of_ble_eq_true rfl) dX9_place_47 rfl rfl rfl rfl rfl) ?_
        refine im_st (r_aload_n (i := 0) dX9_place_50 rfl rfl rfl) ?_
        refine im_st (s_getR (b := 25) (tag := 9) (j := 4) dX9_place_51 rfl fl_X9_36 rfl (Nat.le_of_ble_eq_true rfl) rfl rfl) ?_
        refine im_st (r_iload_n (i := 2) dX9_place_54 rfl rfl rfl) ?_
        refine im_st (r_callV (as := [.int a2]) (r := some (.int (f_X0_told a2 y5))) (kc1 := 0) (ks1 := 0) (st := []) (st1 := [.int (f_X0_told a2 y5)]) (e_X0_told a2 y5 τ) mv_X0_told lk_X9_261 ⟨by decide, by decide⟩ rfl (Nat.le_of_ble_eq_true rfl) (by decide) ⟨_, rfl, rfl⟩ ⟨by decide, by decide⟩ (Nat.le_of_ble_eq_true rfl) dX9_place_55 rfl rfl rfl rfl rfl) ?_
        exact im_ret (fun q => g_iret rfl rfl rfl dX9_place_58 q)
      · refine im_st (r_bipush (v := -3) dX9_place_28 rfl kB_m3) ?_
        exact im_ret (fun q => g_iret rfl rfl rfl dX9_place_30 q)
theorem e_X9_place (a1 : Int32) (a2 : Int32) (σ : Sg) (τ : Sl) (y : (Int32 × Sg)) (hy : f_X9_place a1 a2 σ = some y) : EvD M_X9_place [.ref 0, .int a1, .int a2] (mk σ τ) (some (.int y.1)) (mk y.2 τ) := EvM.of (by decide +kernel) (Nat.le_of_ble_eq_true rfl) (i_X9_place a1 a2 σ τ _ y hy ⟨rfl, rfl⟩)
def M_X9_move : Ms := (yX9_move, cX9_move, 3, some .int, 6, 132, 0, 0)
theorem mv_X9_move : MV M_X9_move 2 := ⟨⟨q746, q1, by decide, by decide, by decide +kernel⟩, q744, q745⟩
def f_X9_move (a1 : Int32) (a2 : Int32) (σ : Sg) : Option (Int32 × Sg) :=
  if (f_X7_isPeg 1 a1 σ) = 0 then
    some ((-1 : Int32), σ)
  else
    if (f_X9_isHalf a2) = 0 then
      some ((-1 : Int32), σ)
    else
      app (f_X7_copyFrom 13 1 σ) fun (σ3 : Sg) =>
      (f_X0_seekCellOf a1 σ3).bind fun (y4 : Sg) =>
      some ((f_X0_told a2 y4), y4)
set_option maxHeartbeats 4000000 in
set_option maxRecDepth 20000 in
theorem i_X9_move (a1 : Int32) (a2 : Int32) (σ : Sg) (τ : Sl) (Q : Option Value → Hp → Prop) : Imp (f_X9_move a1 a2 σ) (fun (y : (Int32 × Sg)) => Q (some (.int y.1)) (mk y.2 τ)) (Go M_X9_move Q 0 0 0 [some (.ref 0), some (.int a1), some (.int a2)] [] (mk σ τ)) := by
  unfold f_X9_move
  refine im_st (r_aload_n (i := 0) dX9_move_0 rfl rfl rfl) ?_
  refine im_st (s_getR (b := 1) (tag := 9) (j := 0) dX9_move_1 rfl fl_X9_10 rfl (Nat.le_of_ble_eq_true rfl) rfl rfl) ?_
  refine im_st (r_iload_n (i := 1) dX9_move_4 rfl rfl rfl) ?_
  refine im_st (r_callV (as := [.int a1]) (r := some (.int (f_X7_isPeg 1 a1 σ))) (kc1 := 0) (ks1 := 0) (st := []) (st1 := [.int (f_X7_isPeg 1 a1 σ)]) (e_X7_isPeg 1 a1 σ τ isSl_1) mv_X7_isPeg lk_X9_133 ⟨by decide, by decide⟩ rfl (Nat.le_of_ble_eq_true rfl) (by decide) ⟨_, rfl, rfl⟩ ⟨by decide, by decide⟩ (Nat.le_of_ble_eq_true rfl) dX9_move_5 rfl rfl rfl rfl rfl) ?_
  refine im_br (r_if_eq (tgt := 18) dX9_move_8 rfl (by decide)) (fun c1 => ?_) (fun c1 => ?_)
  · refine im_st (r_iconst (v := -1) dX9_move_18 rfl kI_m1) ?_
    exact im_ret (fun q => g_iret rfl rfl rfl dX9_move_19 q)
  · refine im_st (r_iload_n (i := 2) dX9_move_11 rfl rfl rfl) ?_
    refine im_st (r_callS (as := [.int a2]) (r := some (.int (f_X9_isHalf a2))) (kc1 := 0) (ks1 := 0) (st := []) (st1 := [.int (f_X9_isHalf a2)]) (e_X9_isHalf a2 σ τ) ms_X9_isHalf lk_X9_255 ⟨by decide, by decide⟩ ⟨by decide, by decide⟩ (Nat.le_of_ble_eq_true rfl) dX9_move_12 rfl rfl rfl rfl rfl) ?_
    refine im_br (r_if_ne (tgt := 20) dX9_move_15 rfl (by decide)) (fun c2 => ?_) (fun c2 => ?_)
    · refine im_st (r_iconst (v := -1) dX9_move_18 rfl kI_m1) ?_
      exact im_ret (fun q => g_iret rfl rfl rfl dX9_move_19 q)
    · refine im_st (r_aload_n (i := 0) dX9_move_20 rfl rfl rfl) ?_
      refine im_st (s_getR (b := 13) (tag := 9) (j := 2) dX9_move_21 rfl fl_X9_25 rfl (Nat.le_of_ble_eq_true rfl) rfl rfl) ?_
      refine im_st (r_aload_n (i := 0) dX9_move_24 rfl rfl rfl) ?_
      refine im_st (s_getR (b := 1) (tag := 9) (j := 0) dX9_move_25 rfl fl_X9_10 rfl (Nat.le_of_ble_eq_true rfl) rfl rfl) ?_
      refine im_st (r_callV (as := [.ref 1]) (r := none) (kc1 := 0) (ks1 := 0) (st := []) (st1 := []) (e_X7_copyFrom 13 1 σ τ isSl_13 isSl_1) mv_X7_copyFrom lk_X9_109 ⟨by decide, by decide⟩ rfl (Nat.le_of_ble_eq_true rfl) (by decide) ⟨_, rfl, rfl⟩ ⟨by decide, by decide⟩ (Nat.le_of_ble_eq_true rfl) dX9_move_28 rfl rfl rfl rfl rfl) ?_
      refine im_st (r_aload_n (i := 0) dX9_move_31 rfl rfl rfl) ?_
      refine im_st (s_getR (b := 25) (tag := 9) (j := 4) dX9_move_32 rfl fl_X9_36 rfl (Nat.le_of_ble_eq_true rfl) rfl rfl) ?_
      refine im_st (r_iload_n (i := 1) dX9_move_35 rfl rfl rfl) ?_
      refine im_app (Gm := fun (σ3 : Sg) => Go M_X9_move Q 0 0 36 [some (.ref 0), some (.int a1), some (.int a2)] [.int a1, .ref 25] (mk σ3 τ)) (fun σ3 => ?_)
      refine im_bind (fun y4 hy4 => ?_)
      refine im_st (r_callV (as := [.int a1]) (r := none) (kc1 := 0) (ks1 := 0) (st := []) (st1 := []) (e_X0_seekCellOf a1 σ3 τ y4 hy4) mv_X0_seekCellOf lk_X9_264 ⟨by decide, by decide⟩ rfl (Nat.le_of_ble_eq_true rfl) (by decide) ⟨_, rfl, rfl⟩ ⟨by decide, by decide⟩ (Nat.le_of_ble_eq_true rfl) dX9_move_36 rfl rfl rfl rfl rfl) ?_
      refine im_st (r_aload_n (i := 0) dX9_move_39 rfl rfl rfl) ?_
      refine im_st (s_getR (b := 25) (tag := 9) (j := 4) dX9_move_40 rfl fl_X9_36 rfl (Nat.le_of_ble_eq_true rfl) rfl rfl) ?_
      refine im_st (r_iload_n (i := 2) dX9_move_43 rfl rfl rfl) ?_
      refine im_st (r_callV (as := [.int a2]) (r := some (.int (f_X0_told a2 y4))) (kc1 := 0) (ks1 := 0) (st := []) (st1 := [.int (f_X0_told a2 y4)]) (e_X0_told a2 y4 τ) mv_X0_told lk_X9_261 ⟨by decide, by decide⟩ rfl (Nat.le_of_ble_eq_true rfl) (by decide) ⟨_, rfl, rfl⟩ ⟨by decide, by decide⟩ (Nat.le_of_ble_eq_true rfl) dX9_move_44 rfl rfl rfl rfl rfl) ?_
      exact im_ret (fun q => g_iret rfl rfl rfl dX9_move_47 q)
theorem e_X9_move (a1 : Int32) (a2 : Int32) (σ : Sg) (τ : Sl) (y : (Int32 × Sg)) (hy : f_X9_move a1 a2 σ = some y) : EvD M_X9_move [.ref 0, .int a1, .int a2] (mk σ τ) (some (.int y.1)) (mk y.2 τ) := EvM.of (by decide +kernel) (Nat.le_of_ble_eq_true rfl) (i_X9_move a1 a2 σ τ _ y hy ⟨rfl, rfl⟩)
def M_X9_bribe : Ms := (yX9_bribe, cX9_bribe, 3, some .int, 6, 132, 0, 0)
theorem mv_X9_bribe : MV M_X9_bribe 2 := ⟨⟨q757, q1, by decide, by decide, by decide +kernel⟩, q755, q756⟩
def f_X9_bribe (a1 : Int32) (a2 : Int32) (σ : Sg) : Option (Int32 × Sg) :=
  if (f_X9_isRag a1) = 0 then
    some ((-1 : Int32), σ)
  else
    if (f_X9_isHalf a2) = 0 then
      some ((-1 : Int32), σ)
    else
      if (σ 1 4) < (4 : Int32) then
        app (f_X7_copyFrom 13 1 σ) fun (σ4 : Sg) =>
        (f_X0_seekNewSlug a1 σ4).bind fun (y5 : Sg) =>
        some ((f_X0_told a2 y5), y5)
      else
        some ((-3 : Int32), σ)
set_option maxHeartbeats 4000000 in
set_option maxRecDepth 20000 in
theorem i_X9_bribe (a1 : Int32) (a2 : Int32) (σ : Sg) (τ : Sl) (Q : Option Value → Hp → Prop) : Imp (f_X9_bribe a1 a2 σ) (fun (y : (Int32 × Sg)) => Q (some (.int y.1)) (mk y.2 τ)) (Go M_X9_bribe Q 0 0 0 [some (.ref 0), some (.int a1), some (.int a2)] [] (mk σ τ)) := by
  unfold f_X9_bribe
  refine im_st (r_iload_n (i := 1) dX9_bribe_0 rfl rfl rfl) ?_
  refine im_st (r_callS (as := [.int a1]) (r := some (.int (f_X9_isRag a1))) (kc1 := 0) (ks1 := 0) (st := []) (st1 := [.int (f_X9_isRag a1)]) (e_X9_isRag a1 σ τ) ms_X9_isRag lk_X9_196 ⟨by decide, by decide⟩ ⟨by decide, by decide⟩ (Nat.le_of_ble_eq_true rfl) dX9_bribe_1 rfl rfl rfl rfl rfl) ?_
  refine im_br (r_if_eq (tgt := 14) dX9_bribe_4 rfl (by decide)) (fun c1 => ?_) (fun c1 => ?_)
  · refine im_st (r_iconst (v := -1) dX9_bribe_14 rfl kI_m1) ?_
    exact im_ret (fun q => g_iret rfl rfl rfl dX9_bribe_15 q)
  · refine im_st (r_iload_n (i := 2) dX9_bribe_7 rfl rfl rfl) ?_
    refine im_st (r_callS (as := [.int a2]) (r := some (.int (f_X9_isHalf a2))) (kc1 := 0) (ks1 := 0) (st := []) (st1 := [.int (f_X9_isHalf a2)]) (e_X9_isHalf a2 σ τ) ms_X9_isHalf lk_X9_255 ⟨by decide, by decide⟩ ⟨by decide, by decide⟩ (Nat.le_of_ble_eq_true rfl) dX9_bribe_8 rfl rfl rfl rfl rfl) ?_
    refine im_br (r_if_ne (tgt := 16) dX9_bribe_11 rfl (by decide)) (fun c2 => ?_) (fun c2 => ?_)
    · refine im_st (r_iconst (v := -1) dX9_bribe_14 rfl kI_m1) ?_
      exact im_ret (fun q => g_iret rfl rfl rfl dX9_bribe_15 q)
    · refine im_st (r_aload_n (i := 0) dX9_bribe_16 rfl rfl rfl) ?_
      refine im_st (s_getR (b := 1) (tag := 9) (j := 0) dX9_bribe_17 rfl fl_X9_10 rfl (Nat.le_of_ble_eq_true rfl) rfl rfl) ?_
      refine im_st (s_getI (tag := 7) (j := 4) dX9_bribe_20 rfl fl_X9_118 rfl (Nat.le_of_ble_eq_true rfl) rfl) ?_
      refine im_st (r_iconst (v := 4) dX9_bribe_23 rfl kI_4) ?_
      refine im_br (r_icmp_lt (tgt := 30) dX9_bribe_24 rfl (by decide)) (fun c3 => ?_) (fun c3 => ?_)
      · refine im_st (r_aload_n (i := 0) dX9_bribe_30 rfl rfl rfl) ?_
        refine im_st (s_getR (b := 13) (tag := 9) (j := 2) dX9_bribe_31 rfl fl_X9_25 rfl (Nat.le_of_ble_eq_true rfl) rfl rfl) ?_
        refine im_st (r_aload_n (i := 0) dX9_bribe_34 rfl rfl rfl) ?_
        refine im_st (s_getR (b := 1) (tag := 9) (j := 0) dX9_bribe_35 rfl fl_X9_10 rfl (Nat.le_of_ble_eq_true rfl) rfl rfl) ?_
        refine im_st (r_callV (as := [.ref 1]) (r := none) (kc1 := 0) (ks1 := 0) (st := []) (st1 := []) (e_X7_copyFrom 13 1 σ τ isSl_13 isSl_1) mv_X7_copyFrom lk_X9_109 ⟨by decide, by decide⟩ rfl (Nat.le_of_ble_eq_true rfl) (by decide) ⟨_, rfl, rfl⟩ ⟨by decide, by decide⟩ (Nat.le_of_ble_eq_true rfl) dX9_bribe_38 rfl rfl rfl rfl rfl) ?_
        refine im_st (r_aload_n (i := 0) dX9_bribe_41 rfl rfl rfl) ?_
        refine im_st (s_getR (b := 25) (tag := 9) (j := 4) dX9_bribe_42 rfl fl_X9_36 rfl (Nat.le_of_ble_eq_true rfl) rfl rfl) ?_
        refine im_st (r_iload_n (i := 1) dX9_bribe_45 rfl rfl rfl) ?_
        refine im_app (Gm := fun (σ4 : Sg) => Go M_X9_bribe Q 0 0 46 [some (.ref 0), some (.int a1), some (.int a2)] [.int a1, .ref 25] (mk σ4 τ)) (fun σ4 => ?_)
        refine im_bind (fun y5 hy5 => ?_)
        refine im_st (r_callV (as := [.int a1]) (r := none) (kc1 := 0) (ks1 := 0) (st := []) (st1 := []) (e_X0_seekNewSlug a1 σ4 τ y5 hy5) mv_X0_seekNewSlug lk_X9_267 ⟨by decide, by decide⟩ rfl (Nat.le_of_ble_eq_true rfl) (by decide) ⟨_, rfl, rfl⟩ ⟨by decide, by decide⟩ (Nat.le_of_ble_eq_true rfl) dX9_bribe_46 rfl rfl rfl rfl rfl) ?_
        refine im_st (r_aload_n (i := 0) dX9_bribe_49 rfl rfl rfl) ?_
        refine im_st (s_getR (b := 25) (tag := 9) (j := 4) dX9_bribe_50 rfl fl_X9_36 rfl (Nat.le_of_ble_eq_true rfl) rfl rfl) ?_
        refine im_st (r_iload_n (i := 2) dX9_bribe_53 rfl rfl rfl) ?_
        refine im_st (r_callV (as := [.int a2]) (r := some (.int (f_X0_told a2 y5))) (kc1 := 0) (ks1 := 0) (st := []) (st1 := [.int (f_X0_told a2 y5)]) (e_X0_told a2 y5 τ) mv_X0_told lk_X9_261 ⟨by decide, by decide⟩ rfl (Nat.le_of_ble_eq_true rfl) (by decide) ⟨_, rfl, rfl⟩ ⟨by decide, by decide⟩ (Nat.le_of_ble_eq_true rfl) dX9_bribe_54 rfl rfl rfl rfl rfl) ?_
        exact im_ret (fun q => g_iret rfl rfl rfl dX9_bribe_57 q)
      · refine im_st (r_bipush (v := -3) dX9_bribe_27 rfl kB_m3) ?_
        exact im_ret (fun q => g_iret rfl rfl rfl dX9_bribe_29 q)
theorem e_X9_bribe (a1 : Int32) (a2 : Int32) (σ : Sg) (τ : Sl) (y : (Int32 × Sg)) (hy : f_X9_bribe a1 a2 σ = some y) : EvD M_X9_bribe [.ref 0, .int a1, .int a2] (mk σ τ) (some (.int y.1)) (mk y.2 τ) := EvM.of (by decide +kernel) (Nat.le_of_ble_eq_true rfl) (i_X9_bribe a1 a2 σ τ _ y hy ⟨rfl, rfl⟩)
def M_X9_need : Ms := (yX9_need, cX9_need, 4, some .int, 4, 86, 0, 0)
theorem mv_X9_need : MV M_X9_need 2 := ⟨⟨q775, q1, by decide, by decide, by decide +kernel⟩, q773, q774⟩
def b_X9_need_13 (a1 : Int32) (a2 : Int32) : (Int32 × Sg) → Option ((Int32 × Sg) ⊕ ((Int32 × Sg) ⊕ (Int32 × Sg))) := fun (s2 : (Int32 × Sg)) =>
  if (9 : Int32) < s2.1 then
    some (.inr (.inl (s2.1, s2.2)))
  else
    if inR a1 4 then
    (f_X2_letGoAs 1 (s2.2 5 a1.toNatClampNeg) s2.1 a2 s2.2).bind fun (y5 : Sg) =>
    if (y5 11 2) = (10 : Int32) then
      some (.inr (.inr (s2.1, y5)))
    else
      some (.inl ((s2.1 + 1), y5))
    else none
def f_X9_need (a1 : Int32) (a2 : Int32) (σ : Sg) : Option (Int32 × Sg) :=
  if (f_X9_canLetGo a1 a2 σ) = 0 then
    some ((-1 : Int32), σ)
  else
    (wh (b_X9_need_13 a1 a2) 4096 ((1 : Int32), σ)).bind fun (r9 : ((Int32 × Sg) ⊕ (Int32 × Sg))) =>
    Sum.elim (fun (e7 : (Int32 × Sg)) =>
      some ((-4 : Int32), e7.2)) (fun (y8 : (Int32 × Sg)) => some y8) r9
set_option maxHeartbeats 4000000 in
set_option maxRecDepth 20000 in
theorem i_X9_need (a1 : Int32) (a2 : Int32) (σ : Sg) (τ : Sl) (Q : Option Value → Hp → Prop) : Imp (f_X9_need a1 a2 σ) (fun (y : (Int32 × Sg)) => Q (some (.int y.1)) (mk y.2 τ)) (Go M_X9_need Q 0 0 0 [some (.ref 0), some (.int a1), some (.int a2), none] [] (mk σ τ)) := by
  unfold f_X9_need
  refine im_st (r_aload_n (i := 0) dX9_need_0 rfl rfl rfl) ?_
  refine im_st (r_iload_n (i := 1) dX9_need_1 rfl rfl rfl) ?_
  refine im_st (r_iload_n (i := 2) dX9_need_2 rfl rfl rfl) ?_
  refine im_st (r_callV (as := [.int a1, .int a2]) (r := some (.int (f_X9_canLetGo a1 a2 σ))) (kc1 := 0) (ks1 := 0) (st := []) (st1 := [.int (f_X9_canLetGo a1 a2 σ)]) (e_X9_canLetGo a1 a2 σ τ) mv_X9_canLetGo lk_X9_210 ⟨by decide, by decide⟩ rfl (Nat.le_of_ble_eq_true rfl) (by decide) ⟨_, rfl, rfl⟩ ⟨by decide, by decide⟩ (Nat.le_of_ble_eq_true rfl) dX9_need_3 rfl rfl rfl rfl rfl) ?_
  refine im_br (r_if_ne (tgt := 11) dX9_need_6 rfl (by decide)) (fun c1 => ?_) (fun c1 => ?_)
  · refine im_st (r_iconst (v := -1) dX9_need_9 rfl kI_m1) ?_
    exact im_ret (fun q => g_iret rfl rfl rfl dX9_need_10 q)
  · refine im_st (r_iconst (v := 1) dX9_need_11 rfl kI_1) ?_
    refine im_st (r_istore_n (i := 3) (L1 := [some (.ref 0), some (.int a1), some (.int a2), some (.int (1 : Int32))]) dX9_need_12 rfl rfl (by decide) rfl) ?_
    refine im_seq (Gm := Sum.elim (fun (e7 : (Int32 × Sg)) => Go M_X9_need Q 0 0 53 [none, none, none, none] [] (mk e7.2 τ)) (fun (y : (Int32 × Sg)) => Q (some (.int y.1)) (mk y.2 τ))) ?_ (fun r9 => ?_)
    · refine im_wh (G := fun (s2 : (Int32 × Sg)) => Go M_X9_need Q 0 0 13 [some (.ref 0), some (.int a1), some (.int a2), some (.int s2.1)] [] (mk s2.2 τ)) (fun s2 => ?_) _ _
      unfold b_X9_need_13
      refine im_st (r_iload_n (i := 3) dX9_need_13 rfl rfl rfl) ?_
      refine im_st (r_bipush (v := 9) dX9_need_14 rfl kB_9) ?_
      refine im_br (r_icmp_gt (tgt := 53) dX9_need_16 rfl (by decide)) (fun c3 => ?_) (fun c3 => ?_)
      · refine im_st (r_fgt (L1 := [none, none, none, none]) [0, 1, 2, 3] rfl) ?_
        exact im_ret id
      · refine im_st (r_aload_n (i := 0) dX9_need_19 rfl rfl rfl) ?_
        refine im_st (s_getR (b := 10) (tag := 9) (j := 1) dX9_need_20 rfl fl_X9_21 rfl (Nat.le_of_ble_eq_true rfl) rfl rfl) ?_
        refine im_st (r_aload_n (i := 0) dX9_need_23 rfl rfl rfl) ?_
        refine im_st (s_getR (b := 1) (tag := 9) (j := 0) dX9_need_24 rfl fl_X9_10 rfl (Nat.le_of_ble_eq_true rfl) rfl rfl) ?_
        refine im_st (s_getR (b := 5) (tag := 7) (j := 5) dX9_need_27 rfl fl_X9_156 rfl (Nat.le_of_ble_eq_true rfl) rfl rfl) ?_
        refine im_st (r_iload_n (i := 1) dX9_need_30 rfl rfl rfl) ?_
        refine im_grd (fun g4 => ?_)
        refine im_st (s_iaload dX9_need_31 rfl rfl (Nat.le_of_ble_eq_true rfl) (inR_in g4)) ?_
        refine im_st (r_iload_n (i := 3) dX9_need_32 rfl rfl rfl) ?_
        refine im_st (r_iload_n (i := 2) dX9_need_33 rfl rfl rfl) ?_
        refine im_bind (fun y5 hy5 => ?_)
        refine im_st (r_callV (as := [.int (s2.2 5 a1.toNatClampNeg), .int s2.1, .int a2]) (r := some (.ref 11)) (kc1 := 0) (ks1 := 0) (st := []) (st1 := [.ref 11]) (e_X2_letGoAs 1 (s2.2 5 a1.toNatClampNeg) s2.1 a2 s2.2 τ isCt_1 y5 hy5) mv_X2_letGoAs lk_X9_251 ⟨by decide, by decide⟩ rfl (Nat.le_of_ble_eq_true rfl) (by decide) ⟨_, rfl, rfl⟩ ⟨by decide, by decide⟩ (Nat.le_of_ble_eq_true rfl) dX9_need_34 rfl rfl rfl rfl rfl) ?_
        refine im_st (s_getI (tag := 1) (j := 2) dX9_need_37 rfl fl_X9_224 rfl (Nat.le_of_ble_eq_true rfl) rfl) ?_
        refine im_st (r_bipush (v := 10) dX9_need_40 rfl kB_10) ?_
        refine im_br (r_icmp_ne (tgt := 47) dX9_need_42 rfl (by decide)) (fun c6 => ?_) (fun c6 => ?_)
        · refine im_st (r_iload_n (i := 3) dX9_need_45 rfl rfl rfl) ?_
          exact im_ret (fun q => g_iret rfl rfl rfl dX9_need_46 q)
        · refine im_st (r_iinc (i := 3) (x := s2.1) (v := (s2.1 + 1)) (L1 := [some (.ref 0), some (.int a1), some (.int a2), some (.int (s2.1 + 1))]) dX9_need_47 rfl rfl rfl (by decide) rfl) ?_
          refine im_st (r_goto (pc1 := 13) dX9_need_50 (by decide)) ?_
          exact im_ret id
    refine im_sum (fun e7 => ?_) (fun y8 => im_ret id) r9
    refine im_st (r_bipush (v := -4) dX9_need_53 rfl kB_m4) ?_
    exact im_ret (fun q => g_iret rfl rfl rfl dX9_need_55 q)
theorem e_X9_need (a1 : Int32) (a2 : Int32) (σ : Sg) (τ : Sl) (y : (Int32 × Sg)) (hy : f_X9_need a1 a2 σ = some y) : EvD M_X9_need [.ref 0, .int a1, .int a2] (mk σ τ) (some (.int y.1)) (mk y.2 τ) := EvM.of (by decide +kernel) (Nat.le_of_ble_eq_true rfl) (i_X9_need a1 a2 σ τ _ y hy ⟨rfl, rfl⟩)
def M_X9_swap : Ms := (yX9_swap, cX9_swap, 3, some .int, 6, 131, 0, 0)
theorem mv_X9_swap : MV M_X9_swap 2 := ⟨⟨q779, q1, by decide, by decide, by decide +kernel⟩, q777, q778⟩
def f_X9_swap (a1 : Int32) (a2 : Int32) (σ : Sg) : Option (Int32 × Sg) :=
  if (f_X9_isRag a1) = 0 then
    some ((-1 : Int32), σ)
  else
    if (f_X9_isHalf a2) = 0 then
      some ((-1 : Int32), σ)
    else
      app (f_X7_copyFrom 13 1 σ) fun (σ3 : Sg) =>
      (f_X0_seekPair a1 σ3).bind fun (y4 : Sg) =>
      some ((f_X0_told a2 y4), y4)
set_option maxHeartbeats 4000000 in
set_option maxRecDepth 20000 in
theorem i_X9_swap (a1 : Int32) (a2 : Int32) (σ : Sg) (τ : Sl) (Q : Option Value → Hp → Prop) : Imp (f_X9_swap a1 a2 σ) (fun (y : (Int32 × Sg)) => Q (some (.int y.1)) (mk y.2 τ)) (Go M_X9_swap Q 0 0 0 [some (.ref 0), some (.int a1), some (.int a2)] [] (mk σ τ)) := by
  unfold f_X9_swap
  refine im_st (r_iload_n (i := 1) dX9_swap_0 rfl rfl rfl) ?_
  refine im_st (r_callS (as := [.int a1]) (r := some (.int (f_X9_isRag a1))) (kc1 := 0) (ks1 := 0) (st := []) (st1 := [.int (f_X9_isRag a1)]) (e_X9_isRag a1 σ τ) ms_X9_isRag lk_X9_196 ⟨by decide, by decide⟩ ⟨by decide, by decide⟩ (Nat.le_of_ble_eq_true rfl) dX9_swap_1 rfl rfl rfl rfl rfl) ?_
  refine im_br (r_if_eq (tgt := 14) dX9_swap_4 rfl (by decide)) (fun c1 => ?_) (fun c1 => ?_)
  · refine im_st (r_iconst (v := -1) dX9_swap_14 rfl kI_m1) ?_
    exact im_ret (fun q => g_iret rfl rfl rfl dX9_swap_15 q)
  · refine im_st (r_iload_n (i := 2) dX9_swap_7 rfl rfl rfl) ?_
    refine im_st (r_callS (as := [.int a2]) (r := some (.int (f_X9_isHalf a2))) (kc1 := 0) (ks1 := 0) (st := []) (st1 := [.int (f_X9_isHalf a2)]) (e_X9_isHalf a2 σ τ) ms_X9_isHalf lk_X9_255 ⟨by decide, by decide⟩ ⟨by decide, by decide⟩ (Nat.le_of_ble_eq_true rfl) dX9_swap_8 rfl rfl rfl rfl rfl) ?_
    refine im_br (r_if_ne (tgt := 16) dX9_swap_11 rfl (by decide)) (fun c2 => ?_) (fun c2 => ?_)
    · refine im_st (r_iconst (v := -1) dX9_swap_14 rfl kI_m1) ?_
      exact im_ret (fun q => g_iret rfl rfl rfl dX9_swap_15 q)
    · refine im_st (r_aload_n (i := 0) dX9_swap_16 rfl rfl rfl) ?_
      refine im_st (s_getR (b := 13) (tag := 9) (j := 2) dX9_swap_17 rfl fl_X9_25 rfl (Nat.le_of_ble_eq_true rfl) rfl rfl) ?_
      refine im_st (r_aload_n (i := 0) dX9_swap_20 rfl rfl rfl) ?_
      refine im_st (s_getR (b := 1) (tag := 9) (j := 0) dX9_swap_21 rfl fl_X9_10 rfl (Nat.le_of_ble_eq_true rfl) rfl rfl) ?_
      refine im_st (r_callV (as := [.ref 1]) (r := none) (kc1 := 0) (ks1 := 0) (st := []) (st1 := []) (e_X7_copyFrom 13 1 σ τ isSl_13 isSl_1) mv_X7_copyFrom lk_X9_109 ⟨by decide, by decide⟩ rfl (Nat.le_of_ble_eq_true rfl) (by decide) ⟨_, rfl, rfl⟩ ⟨by decide, by decide⟩ (Nat.le_of_ble_eq_true rfl) dX9_swap_24 rfl rfl rfl rfl rfl) ?_
      refine im_st (r_aload_n (i := 0) dX9_swap_27 rfl rfl rfl) ?_
      refine im_st (s_getR (b := 25) (tag := 9) (j := 4) dX9_swap_28 rfl fl_X9_36 rfl (Nat.le_of_ble_eq_true rfl) rfl rfl) ?_
      refine im_st (r_iload_n (i := 1) dX9_swap_31 rfl rfl rfl) ?_
      refine im_app (Gm := fun (σ3 : Sg) => Go M_X9_swap Q 0 0 32 [some (.ref 0), some (.int a1), some (.int a2)] [.int a1, .ref 25] (mk σ3 τ)) (fun σ3 => ?_)
      refine im_bind (fun y4 hy4 => ?_)
      refine im_st (r_callV (as := [.int a1]) (r := none) (kc1 := 0) (ks1 := 0) (st := []) (st1 := []) (e_X0_seekPair a1 σ3 τ y4 hy4) mv_X0_seekPair lk_X9_270 ⟨by decide, by decide⟩ rfl (Nat.le_of_ble_eq_true rfl) (by decide) ⟨_, rfl, rfl⟩ ⟨by decide, by decide⟩ (Nat.le_of_ble_eq_true rfl) dX9_swap_32 rfl rfl rfl rfl rfl) ?_
      refine im_st (r_aload_n (i := 0) dX9_swap_35 rfl rfl rfl) ?_
      refine im_st (s_getR (b := 25) (tag := 9) (j := 4) dX9_swap_36 rfl fl_X9_36 rfl (Nat.le_of_ble_eq_true rfl) rfl rfl) ?_
      refine im_st (r_iload_n (i := 2) dX9_swap_39 rfl rfl rfl) ?_
      refine im_st (r_callV (as := [.int a2]) (r := some (.int (f_X0_told a2 y4))) (kc1 := 0) (ks1 := 0) (st := []) (st1 := [.int (f_X0_told a2 y4)]) (e_X0_told a2 y4 τ) mv_X0_told lk_X9_261 ⟨by decide, by decide⟩ rfl (Nat.le_of_ble_eq_true rfl) (by decide) ⟨_, rfl, rfl⟩ ⟨by decide, by decide⟩ (Nat.le_of_ble_eq_true rfl) dX9_swap_40 rfl rfl rfl rfl rfl) ?_
      exact im_ret (fun q => g_iret rfl rfl rfl dX9_swap_43 q)
theorem e_X9_swap (a1 : Int32) (a2 : Int32) (σ : Sg) (τ : Sl) (y : (Int32 × Sg)) (hy : f_X9_swap a1 a2 σ = some y) : EvD M_X9_swap [.ref 0, .int a1, .int a2] (mk σ τ) (some (.int y.1)) (mk y.2 τ) := EvM.of (by decide +kernel) (Nat.le_of_ble_eq_true rfl) (i_X9_swap a1 a2 σ τ _ y hy ⟨rfl, rfl⟩)
def M_X9_pull : Ms := (yX9_pull, cX9_pull, 3, some .int, 6, 130, 0, 0)
theorem mv_X9_pull : MV M_X9_pull 2 := ⟨⟨q792, q1, by decide, by decide, by decide +kernel⟩, q790, q791⟩
def f_X9_pull (a1 : Int32) (a2 : Int32) (σ : Sg) : Option (Int32 × Sg) :=
  if (f_X9_isRag a1) = 0 then
    some ((-1 : Int32), σ)
  else
    if (f_X9_isHalf a2) = 0 then
      some ((-1 : Int32), σ)
    else
      app (f_X7_copyFrom 13 1 σ) fun (σ3 : Sg) =>
      (f_X0_seekNeedlessPeg a1 σ3).bind fun (y4 : Sg) =>
      some ((f_X0_told a2 y4), y4)
set_option maxHeartbeats 4000000 in
set_option maxRecDepth 20000 in
theorem i_X9_pull (a1 : Int32) (a2 : Int32) (σ : Sg) (τ : Sl) (Q : Option Value → Hp → Prop) : Imp (f_X9_pull a1 a2 σ) (fun (y : (Int32 × Sg)) => Q (some (.int y.1)) (mk y.2 τ)) (Go M_X9_pull Q 0 0 0 [some (.ref 0), some (.int a1), some (.int a2)] [] (mk σ τ)) := by
  unfold f_X9_pull
  refine im_st (r_iload_n (i := 1) dX9_pull_0 rfl rfl rfl) ?_
  refine im_st (r_callS (as := [.int a1]) (r := some (.int (f_X9_isRag a1))) (kc1 := 0) (ks1 := 0) (st := []) (st1 := [.int (f_X9_isRag a1)]) (e_X9_isRag a1 σ τ) ms_X9_isRag lk_X9_196 ⟨by decide, by decide⟩ ⟨by decide, by decide⟩ (Nat.le_of_ble_eq_true rfl) dX9_pull_1 rfl rfl rfl rfl rfl) ?_
  refine im_br (r_if_eq (tgt := 14) dX9_pull_4 rfl (by decide)) (fun c1 => ?_) (fun c1 => ?_)
  · refine im_st (r_iconst (v := -1) dX9_pull_14 rfl kI_m1) ?_
    exact im_ret (fun q => g_iret rfl rfl rfl dX9_pull_15 q)
  · refine im_st (r_iload_n (i := 2) dX9_pull_7 rfl rfl rfl) ?_
    refine im_st (r_callS (as := [.int a2]) (r := some (.int (f_X9_isHalf a2))) (kc1 := 0) (ks1 := 0) (st := []) (st1 := [.int (f_X9_isHalf a2)]) (e_X9_isHalf a2 σ τ) ms_X9_isHalf lk_X9_255 ⟨by decide, by decide⟩ ⟨by decide, by decide⟩ (Nat.le_of_ble_eq_true rfl) dX9_pull_8 rfl rfl rfl rfl rfl) ?_
    refine im_br (r_if_ne (tgt := 16) dX9_pull_11 rfl (by decide)) (fun c2 => ?_) (fun c2 => ?_)
    · refine im_st (r_iconst (v := -1) dX9_pull_14 rfl kI_m1) ?_
      exact im_ret (fun q => g_iret rfl rfl rfl dX9_pull_15 q)
    · refine im_st (r_aload_n (i := 0) dX9_pull_16 rfl rfl rfl) ?_
      refine im_st (s_getR (b := 13) (tag := 9) (j := 2) dX9_pull_17 rfl fl_X9_25 rfl (Nat.le_of_ble_eq_true rfl) rfl rfl) ?_
      refine im_st (r_aload_n (i := 0) dX9_pull_20 rfl rfl rfl) ?_
      refine im_st (s_getR (b := 1) (tag := 9) (j := 0) dX9_pull_21 rfl fl_X9_10 rfl (Nat.le_of_ble_eq_true rfl) rfl rfl) ?_
      refine im_st (r_callV (as := [.ref 1]) (r := none) (kc1 := 0) (ks1 := 0) (st := []) (st1 := []) (e_X7_copyFrom 13 1 σ τ isSl_13 isSl_1) mv_X7_copyFrom lk_X9_109 ⟨by decide, by decide⟩ rfl (Nat.le_of_ble_eq_true rfl) (by decide) ⟨_, rfl, rfl⟩ ⟨by decide, by decide⟩ (Nat.le_of_ble_eq_true rfl) dX9_pull_24 rfl rfl rfl rfl rfl) ?_
      refine im_st (r_aload_n (i := 0) dX9_pull_27 rfl rfl rfl) ?_
      refine im_st (s_getR (b := 25) (tag := 9) (j := 4) dX9_pull_28 rfl fl_X9_36 rfl (Nat.le_of_ble_eq_true rfl) rfl rfl) ?_
      refine im_st (r_iload_n (i := 1) dX9_pull_31 rfl rfl rfl) ?_
      refine im_app (Gm := fun (σ3 : Sg) => Go M_X9_pull Q 0 0 32 [some (.ref 0), some (.int a1), some (.int a2)] [.int a1, .ref 25] (mk σ3 τ)) (fun σ3 => ?_)
      refine im_bind (fun y4 hy4 => ?_)
      refine im_st (r_callV (as := [.int a1]) (r := none) (kc1 := 0) (ks1 := 0) (st := []) (st1 := []) (e_X0_seekNeedlessPeg a1 σ3 τ y4 hy4) mv_X0_seekNeedlessPeg lk_X9_273 ⟨by decide, by decide⟩ rfl (Nat.le_of_ble_eq_true rfl) (by decide) ⟨_, rfl, rfl⟩ ⟨by decide, by decide⟩ (Nat.le_of_ble_eq_true rfl) dX9_pull_32 rfl rfl rfl rfl rfl) ?_
      refine im_st (r_aload_n (i := 0) dX9_pull_35 rfl rfl rfl) ?_
      refine im_st (s_getR (b := 25) (tag := 9) (j := 4) dX9_pull_36 rfl fl_X9_36 rfl (Nat.le_of_ble_eq_true rfl) rfl rfl) ?_
      refine im_st (r_iload_n (i := 2) dX9_pull_39 rfl rfl rfl) ?_
      refine im_st (r_callV (as := [.int a2]) (r := some (.int (f_X0_told a2 y4))) (kc1 := 0) (ks1 := 0) (st := []) (st1 := [.int (f_X0_told a2 y4)]) (e_X0_told a2 y4 τ) mv_X0_told lk_X9_261 ⟨by decide, by decide⟩ rfl (Nat.le_of_ble_eq_true rfl) (by decide) ⟨_, rfl, rfl⟩ ⟨by decide, by decide⟩ (Nat.le_of_ble_eq_true rfl) dX9_pull_40 rfl rfl rfl rfl rfl) ?_
      exact im_ret (fun q => g_iret rfl rfl rfl dX9_pull_43 q)
theorem e_X9_pull (a1 : Int32) (a2 : Int32) (σ : Sg) (τ : Sl) (y : (Int32 × Sg)) (hy : f_X9_pull a1 a2 σ = some y) : EvD M_X9_pull [.ref 0, .int a1, .int a2] (mk σ τ) (some (.int y.1)) (mk y.2 τ) := EvM.of (by decide +kernel) (Nat.le_of_ble_eq_true rfl) (i_X9_pull a1 a2 σ τ _ y hy ⟨rfl, rfl⟩)
def M_X9_isOutOfTen : Ms := (yX9_isOutOfTen, cX9_isOutOfTen, 1, some .boolean, 0, 0, 0, 0)
theorem ms_X9_isOutOfTen : MS M_X9_isOutOfTen 1 := ⟨⟨q811, q1, by decide, by decide, by decide +kernel⟩, q810⟩
def f_X9_isOutOfTen (a0 : Int32) : Int32 :=
  if a0 < 0 then
    (0 : Int32)
  else
    if (10 : Int32) < a0 then
      (0 : Int32)
    else
      (1 : Int32)
theorem z_X9_isOutOfTen (a0 : Int32) : isB (f_X9_isOutOfTen a0) = true := by
  unfold f_X9_isOutOfTen
  (repeat' split) <;> first | rfl
set_option maxHeartbeats 4000000 in
set_option maxRecDepth 20000 in
theorem i_X9_isOutOfTen (a0 : Int32) (σ : Sg) (τ : Sl) (Q : Option Value → Hp → Prop) : Imp (some (f_X9_isOutOfTen a0)) (fun (y : Int32) => Q (some (.int y)) (mk σ τ)) (Go M_X9_isOutOfTen Q 0 0 0 [some (.int a0)] [] (mk σ τ)) := by
  unfold f_X9_isOutOfTen
  refine im_st (r_iload_n (i := 0) dX9_isOutOfTen_0 rfl rfl rfl) ?_
  refine im_brS (r_if_lt (tgt := 14) dX9_isOutOfTen_1 rfl (by decide)) (fun c1 => ?_) (fun c1 => ?_)
  · refine im_st (r_iconst (v := 0) dX9_isOutOfTen_14 rfl kI_0) ?_
    exact im_ret (fun q => g_zret (ty := .boolean) rfl rfl rfl rfl dX9_isOutOfTen_15 q)
  · refine im_st (r_iload_n (i := 0) dX9_isOutOfTen_4 rfl rfl rfl) ?_
    refine im_st (r_bipush (v := 10) dX9_isOutOfTen_5 rfl kB_10) ?_
    refine im_brS (r_icmp_gt (tgt := 14) dX9_isOutOfTen_7 rfl (by decide)) (fun c2 => ?_) (fun c2 => ?_)
    · refine im_st (r_iconst (v := 0) dX9_isOutOfTen_14 rfl kI_0) ?_
      exact im_ret (fun q => g_zret (ty := .boolean) rfl rfl rfl rfl dX9_isOutOfTen_15 q)
    · refine im_st (r_iconst (v := 1) dX9_isOutOfTen_10 rfl kI_1) ?_
      refine im_st (r_goto (pc1 := 15) dX9_isOutOfTen_11 (by decide)) ?_
      exact im_ret (fun q => g_zret (ty := .boolean) rfl rfl rfl rfl dX9_isOutOfTen_15 q)
theorem e_X9_isOutOfTen (a0 : Int32) (σ : Sg) (τ : Sl) : EvD M_X9_isOutOfTen [.int a0] (mk σ τ) (some (.int (f_X9_isOutOfTen a0))) (mk σ τ) := EvM.of (by decide +kernel) (Nat.le_of_ble_eq_true rfl) (i_X9_isOutOfTen a0 σ τ _ _ rfl ⟨rfl, rfl⟩)
def M_X9_lowestTerms : Ms := (yX9_lowestTerms, cX9_lowestTerms, 10, some .long, 0, 0, 0, 0)
theorem ms_X9_lowestTerms : MS M_X9_lowestTerms 2 := ⟨⟨q843, q1, by decide, by decide, by decide +kernel⟩, q842⟩
def b_X9_lowestTerms_10 : (Int64 × Int64 × Int32) → Option ((Int64 × Int64 × Int32) ⊕ (Int64 × Int64 × Int32)) := fun (s1 : (Int64 × Int64 × Int32)) =>
  if (100 : Int32) ≤ s1.2.2 then
    some (.inr (s1.1, s1.2.1, s1.2.2))
  else
    if (lg_cmp s1.2.1 (0 : Int64)) = 0 then
      some (.inr (s1.1, s1.2.1, s1.2.2))
    else
      if nzL s1.2.1 then
      app (s1.1 - s1.1 / s1.2.1 * s1.2.1) fun (v5 : Int64) =>
      some (.inl (s1.2.1, v5, (s1.2.2 + 1)))
      else none
def f_X9_lowestTerms (a0 : Int64) (a2 : Int32) : Option Int64 :=
  (wh b_X9_lowestTerms_10 4096 ((10000000000 : Int64), a0, (0 : Int32))).bind fun (e6 : (Int64 × Int64 × Int32)) =>
  if 0 < (lg_cmp e6.1 (0 : Int64)) then
    if a2 = 0 then
      if nzL e6.1 then
      some (a0 / e6.1)
      else none
    else
      if nzL e6.1 then
      some ((10000000000 : Int64) / e6.1)
      else none
  else
    some (-1 : Int64)
set_option maxHeartbeats 4000000 in
set_option maxRecDepth 20000 in
theorem i_X9_lowestTerms (a0 : Int64) (a2 : Int32) (σ : Sg) (τ : Sl) (Q : Option Value → Hp → Prop) : Imp (f_X9_lowestTerms a0 a2) (fun (y : Int64) => Q (some (.long y)) (mk σ τ)) (Go M_X9_lowestTerms Q 0 0 0 [some (.long a0), none, some (.int a2), none, none, none, none, none, none, none] [] (mk σ τ)) := by
  unfold f_X9_lowestTerms
  refine im_st (r_ldc2 (v := 10000000000) dX9_lowestTerms_0 rfl q844) ?_
  refine im_st (r_lstore_n (i := 3) (L1 := [some (.long a0), none, some (.int a2), some (.long (10000000000 : Int64)), none, none, none, none, none, none]) dX9_lowestTerms_3 rfl rfl (by decide) rfl) ?_
  refine im_st (r_lload_n (i := 0) dX9_lowestTerms_4 rfl rfl rfl) ?_
  refine im_st (r_lstore (i := 5) (L1 := [some (.long a0), none, some (.int a2), some (.long (10000000000 : Int64)), none, some (.long a0), none, none, none, none]) dX9_lowestTerms_5 rfl (by decide) rfl) ?_
  refine im_st (r_iconst (v := 0) dX9_lowestTerms_7 rfl kI_0) ?_
  refine im_st (r_istore (i := 7) (L1 := [some (.long a0), none, some (.int a2), some (.long (10000000000 : Int64)), none, some (.long a0), none, some (.int (0 : Int32)), none, none]) dX9_lowestTerms_8 rfl (by decide) rfl) ?_
  refine im_seq (Gm := fun (e6 : (Int64 × Int64 × Int32)) => Go M_X9_lowestTerms Q 0 0 43 [some (.long a0), none, some (.int a2), some (.long e6.1), none, none, none, none, none, none] [] (mk σ τ)) ?_ (fun e6 => ?_)
  · refine im_wh (G := fun (s1 : (Int64 × Int64 × Int32)) => Go M_X9_lowestTerms Q 0 0 10 [some (.long a0), none, some (.int a2), some (.long s1.1), none, some (.long s1.2.1), none, some (.int s1.2.2), none, none] [] (mk σ τ)) (fun s1 => ?_) _ _
    unfold b_X9_lowestTerms_10
    refine im_st (r_iload (i := 7) dX9_lowestTerms_10 rfl rfl) ?_
    refine im_st (r_bipush (v := 100) dX9_lowestTerms_12 rfl kB_100) ?_
    refine im_br (r_icmp_ge (tgt := 43) dX9_lowestTerms_14 rfl (by decide)) (fun c2 => ?_) (fun c2 => ?_)
    · refine im_st (r_fgt (L1 := [some (.long a0), none, some (.int a2), some (.long s1.1), none, none, none, none, none, none]) [5, 7] rfl) ?_
      exact im_ret id
    · refine im_st (r_lload (i := 5) dX9_lowestTerms_17 rfl rfl) ?_
      refine im_st (r_lconst (v := 0) dX9_lowestTerms_19 rfl rfl) ?_
      refine im_st (r_lcmp dX9_lowestTerms_20 rfl) ?_
      refine im_br (r_if_eq (tgt := 43) dX9_lowestTerms_21 rfl (by decide)) (fun c3 => ?_) (fun c3 => ?_)
      · refine im_st (r_fgt (L1 := [some (.long a0), none, some (.int a2), some (.long s1.1), none, none, none, none, none, none]) [5, 7] rfl) ?_
        exact im_ret id
      · refine im_st (r_lload_n (i := 3) dX9_lowestTerms_24 rfl rfl rfl) ?_
        refine im_st (r_lload (i := 5) dX9_lowestTerms_25 rfl rfl) ?_
        refine im_grd (fun g4 => ?_)
        refine im_st (r_lrem dX9_lowestTerms_27 rfl (nzL_ne g4)) ?_
        refine im_app (Gm := fun (v5 : Int64) => Go M_X9_lowestTerms Q 0 0 28 [some (.long a0), none, some (.int a2), some (.long s1.1), none, some (.long s1.2.1), none, some (.int s1.2.2), none, none] [.long v5] (mk σ τ)) (fun v5 => ?_)
        refine im_st (r_lstore (i := 8) (L1 := [some (.long a0), none, some (.int a2), some (.long s1.1), none, some (.long s1.2.1), none, some (.int s1.2.2), some (.long v5), none]) dX9_lowestTerms_28 rfl (by decide) rfl) ?_
        refine im_st (r_lload (i := 5) dX9_lowestTerms_30 rfl rfl) ?_
        refine im_st (r_lstore_n (i := 3) (L1 := [some (.long a0), none, some (.int a2), some (.long s1.2.1), none, some (.long s1.2.1), none, some (.int s1.2.2), some (.long v5), none]) dX9_lowestTerms_32 rfl rfl (by decide) rfl) ?_
        refine im_st (r_lload (i := 8) dX9_lowestTerms_33 rfl rfl) ?_
        refine im_st (r_lstore (i := 5) (L1 := [some (.long a0), none, some (.int a2), some (.long s1.2.1), none, some (.long v5), none, some (.int s1.2.2), some (.long v5), none]) dX9_lowestTerms_35 rfl (by decide) rfl) ?_
        refine im_st (r_iinc (i := 7) (x := s1.2.2) (v := (s1.2.2 + 1)) (L1 := [some (.long a0), none, some (.int a2), some (.long s1.2.1), none, some (.long v5), none, some (.int (s1.2.2 + 1)), some (.long v5), none]) dX9_lowestTerms_37 rfl rfl rfl (by decide) rfl) ?_
        refine im_st (r_goto (pc1 := 10) dX9_lowestTerms_40 (by decide)) ?_
        refine im_st (r_fgt (L1 := [some (.long a0), none, some (.int a2), some (.long s1.2.1), none, some (.long v5), none, some (.int (s1.2.2 + 1)), none, none]) [8] rfl) ?_
        exact im_ret id
  refine im_st (r_lload_n (i := 3) dX9_lowestTerms_43 rfl rfl rfl) ?_
  refine im_st (r_lconst (v := 0) dX9_lowestTerms_44 rfl rfl) ?_
  refine im_st (r_lcmp dX9_lowestTerms_45 rfl) ?_
  refine im_br (r_if_gt (tgt := 53) dX9_lowestTerms_46 rfl (by decide)) (fun c7 => ?_) (fun c7 => ?_)
  · refine im_st (r_iload_n (i := 2) dX9_lowestTerms_53 rfl rfl rfl) ?_
    refine im_br (r_if_ne (tgt := 63) dX9_lowestTerms_54 rfl (by decide)) (fun c8 => ?_) (fun c8 => ?_)
    · refine im_st (r_lload_n (i := 0) dX9_lowestTerms_57 rfl rfl rfl) ?_
      refine im_st (r_lload_n (i := 3) dX9_lowestTerms_58 rfl rfl rfl) ?_
      refine im_grd (fun g9 => ?_)
      refine im_st (r_ldiv dX9_lowestTerms_59 rfl (nzL_ne g9)) ?_
      refine im_st (r_goto (pc1 := 68) dX9_lowestTerms_60 (by decide)) ?_
      exact im_ret (fun q => g_lret rfl rfl rfl dX9_lowestTerms_68 q)
    · refine im_st (r_ldc2 (v := 10000000000) dX9_lowestTerms_63 rfl q844) ?_
      refine im_st (r_lload_n (i := 3) dX9_lowestTerms_66 rfl rfl rfl) ?_
      refine im_grd (fun g10 => ?_)
      refine im_st (r_ldiv dX9_lowestTerms_67 rfl (nzL_ne g10)) ?_
      exact im_ret (fun q => g_lret rfl rfl rfl dX9_lowestTerms_68 q)
  · refine im_st (r_ldc2 (v := -1) dX9_lowestTerms_49 rfl q812) ?_
    exact im_ret (fun q => g_lret rfl rfl rfl dX9_lowestTerms_52 q)
theorem e_X9_lowestTerms (a0 : Int64) (a2 : Int32) (σ : Sg) (τ : Sl) (y : Int64) (hy : f_X9_lowestTerms a0 a2 = some y) : EvD M_X9_lowestTerms [.long a0, .int a2] (mk σ τ) (some (.long y)) (mk σ τ) := EvM.of (by decide +kernel) (Nat.le_of_ble_eq_true rfl) (i_X9_lowestTerms a0 a2 σ τ _ y hy ⟨rfl, rfl⟩)
def M_X9_luck : Ms := (yX9_luck, cX9_luck, 6, some .long, 4, 97, 0, 0)
theorem mv_X9_luck : MV M_X9_luck 5 := ⟨⟨q808, q1, by decide, by decide, by decide +kernel⟩, q806, q807⟩
def f_X9_luck (a1 : Int32) (a2 : Int32) (a3 : Int32) (a4 : Int32) (a5 : Int32) (σ : Sg) (τ : Sl) : Option (Int64 × Sl) :=
  if (f_X9_isOutOfTen a1) = 0 then
    some ((-1 : Int64), τ)
  else
    if (f_X9_canLetGo a2 a3 σ) = 0 then
      some ((-1 : Int64), τ)
    else
      if (f_X9_isRag a4) = 0 then
        some ((-1 : Int64), τ)
      else
        if (f_X9_isHalf a5) = 0 then
          some ((-1 : Int64), τ)
        else
          (f_X3_follow 1 a1 a2 a3 a4 σ τ).bind fun (y5 : Sl) =>
          (f_X9_lowestTerms (y5 27 0) a5).bind fun (y6 : Int64) =>
          some (y6, y5)
set_option maxHeartbeats 4000000 in
set_option maxRecDepth 20000 in
theorem i_X9_luck (a1 : Int32) (a2 : Int32) (a3 : Int32) (a4 : Int32) (a5 : Int32) (σ : Sg) (τ : Sl) (Q : Option Value → Hp → Prop) : Imp (f_X9_luck a1 a2 a3 a4 a5 σ τ) (fun (y : (Int64 × Sl)) => Q (some (.long y.1)) (mk σ y.2)) (Go M_X9_luck Q 0 0 0 [some (.ref 0), some (.int a1), some (.int a2), some (.int a3), some (.int a4), some (.int a5)] [] (mk σ τ)) := by
  unfold f_X9_luck
  refine im_st (r_iload_n (i := 1) dX9_luck_0 rfl rfl rfl) ?_
  refine im_st (r_callS (as := [.int a1]) (r := some (.int (f_X9_isOutOfTen a1))) (kc1 := 0) (ks1 := 0) (st := []) (st1 := [.int (f_X9_isOutOfTen a1)]) (e_X9_isOutOfTen a1 σ τ) ms_X9_isOutOfTen lk_X9_276 ⟨by decide, by decide⟩ ⟨by decide, by decide⟩ (Nat.le_of_ble_eq_true rfl) dX9_luck_1 rfl rfl rfl rfl rfl) ?_
  refine im_br (r_if_eq (tgt := 32) dX9_luck_4 rfl (by decide)) (fun c1 => ?_) (fun c1 => ?_)
  · refine im_st (r_ldc2 (v := -1) dX9_luck_32 rfl q812) ?_
    exact im_ret (fun q => g_lret rfl rfl rfl dX9_luck_35 q)
  · refine im_st (r_aload_n (i := 0) dX9_luck_7 rfl rfl rfl) ?_
    refine im_st (r_iload_n (i := 2) dX9_luck_8 rfl rfl rfl) ?_
    refine im_st (r_iload_n (i := 3) dX9_luck_9 rfl rfl rfl) ?_
    refine im_st (r_callV (as := [.int a2, .int a3]) (r := some (.int (f_X9_canLetGo a2 a3 σ))) (kc1 := 0) (ks1 := 0) (st := []) (st1 := [.int (f_X9_canLetGo a2 a3 σ)]) (e_X9_canLetGo a2 a3 σ τ) mv_X9_canLetGo lk_X9_210 ⟨by decide, by decide⟩ rfl (Nat.le_of_ble_eq_true rfl) (by decide) ⟨_, rfl, rfl⟩ ⟨by decide, by decide⟩ (Nat.le_of_ble_eq_true rfl) dX9_luck_10 rfl rfl rfl rfl rfl) ?_
    refine im_br (r_if_eq (tgt := 32) dX9_luck_13 rfl (by decide)) (fun c2 => ?_) (fun c2 => ?_)
    · refine im_st (r_ldc2 (v := -1) dX9_luck_32 rfl q812) ?_
      exact im_ret (fun q => g_lret rfl rfl rfl dX9_luck_35 q)
    · refine im_st (r_iload (i := 4) dX9_luck_16 rfl rfl) ?_
      refine im_st (r_callS (as := [.int a4]) (r := some (.int (f_X9_isRag a4))) (kc1 := 0) (ks1 := 0) (st := []) (st1 := [.int (f_X9_isRag a4)]) (e_X9_isRag a4 σ τ) ms_X9_isRag lk_X9_196 ⟨by decide, by decide⟩ ⟨by decide, by decide⟩ (Nat.le_of_ble_eq_true rfl) dX9_luck_18 rfl rfl rfl rfl rfl) ?_
      refine im_br (r_if_eq (tgt := 32) dX9_luck_21 rfl (by decide)) (fun c3 => ?_) (fun c3 => ?_)
      · refine im_st (r_ldc2 (v := -1) dX9_luck_32 rfl q812) ?_
        exact im_ret (fun q => g_lret rfl rfl rfl dX9_luck_35 q)
      · refine im_st (r_iload (i := 5) dX9_luck_24 rfl rfl) ?_
        refine im_st (r_callS (as := [.int a5]) (r := some (.int (f_X9_isHalf a5))) (kc1 := 0) (ks1 := 0) (st := []) (st1 := [.int (f_X9_isHalf a5)]) (e_X9_isHalf a5 σ τ) ms_X9_isHalf lk_X9_255 ⟨by decide, by decide⟩ ⟨by decide, by decide⟩ (Nat.le_of_ble_eq_true rfl) dX9_luck_26 rfl rfl rfl rfl rfl) ?_
        refine im_br (r_if_ne (tgt := 36) dX9_luck_29 rfl (by decide)) (fun c4 => ?_) (fun c4 => ?_)
        · refine im_st (r_ldc2 (v := -1) dX9_luck_32 rfl q812) ?_
          exact im_ret (fun q => g_lret rfl rfl rfl dX9_luck_35 q)
        · refine im_st (r_aload_n (i := 0) dX9_luck_36 rfl rfl rfl) ?_
          refine im_st (s_getR (b := 27) (tag := 9) (j := 5) dX9_luck_37 rfl fl_X9_43 rfl (Nat.le_of_ble_eq_true rfl) rfl rfl) ?_
          refine im_st (r_aload_n (i := 0) dX9_luck_40 rfl rfl rfl) ?_
          refine im_st (s_getR (b := 1) (tag := 9) (j := 0) dX9_luck_41 rfl fl_X9_10 rfl (Nat.le_of_ble_eq_true rfl) rfl rfl) ?_
          refine im_st (r_iload_n (i := 1) dX9_luck_44 rfl rfl rfl) ?_
          refine im_st (r_iload_n (i := 2) dX9_luck_45 rfl rfl rfl) ?_
          refine im_st (r_iload_n (i := 3) dX9_luck_46 rfl rfl rfl) ?_
          refine im_st (r_iload (i := 4) dX9_luck_47 rfl rfl) ?_
          refine im_bind (fun y5 hy5 => ?_)
          refine im_st (r_callV (as := [.ref 1, .int a1, .int a2, .int a3, .int a4]) (r := none) (kc1 := 0) (ks1 := 0) (st := []) (st1 := []) (e_X3_follow 1 a1 a2 a3 a4 σ τ isSl_1 y5 hy5) mv_X3_follow lk_X9_281 ⟨by decide, by decide⟩ rfl (Nat.le_of_ble_eq_true rfl) (by decide) ⟨_, rfl, rfl⟩ ⟨by decide, by decide⟩ (Nat.le_of_ble_eq_true rfl) dX9_luck_49 rfl rfl rfl rfl rfl) ?_
          refine im_st (r_aload_n (i := 0) dX9_luck_52 rfl rfl rfl) ?_
          refine im_st (s_getR (b := 27) (tag := 9) (j := 5) dX9_luck_53 rfl fl_X9_43 rfl (Nat.le_of_ble_eq_true rfl) rfl rfl) ?_
          refine im_st (s_getJ (tag := 3) (j := 0) dX9_luck_56 rfl fl_X9_285 rfl (Nat.le_of_ble_eq_true rfl) rfl) ?_
          refine im_st (r_iload (i := 5) dX9_luck_59 rfl rfl) ?_
          refine im_bind (fun y6 hy6 => ?_)
          refine im_st (r_callS (as := [.long (y5 27 0), .int a5]) (r := some (.long y6)) (kc1 := 0) (ks1 := 0) (st := []) (st1 := [.long y6]) (e_X9_lowestTerms (y5 27 0) a5 σ y5 y6 hy6) ms_X9_lowestTerms lk_X9_289 ⟨by decide, by decide⟩ ⟨by decide, by decide⟩ (Nat.le_of_ble_eq_true rfl) dX9_luck_61 rfl rfl rfl rfl rfl) ?_
          exact im_ret (fun q => g_lret rfl rfl rfl dX9_luck_64 q)
theorem e_X9_luck (a1 : Int32) (a2 : Int32) (a3 : Int32) (a4 : Int32) (a5 : Int32) (σ : Sg) (τ : Sl) (y : (Int64 × Sl)) (hy : f_X9_luck a1 a2 a3 a4 a5 σ τ = some y) : EvD M_X9_luck [.ref 0, .int a1, .int a2, .int a3, .int a4, .int a5] (mk σ τ) (some (.long y.1)) (mk σ y.2) := EvM.of (by decide +kernel) (Nat.le_of_ble_eq_true rfl) (i_X9_luck a1 a2 a3 a4 a5 σ τ _ y hy ⟨rfl, rfl⟩)
def M_X9_mean : Ms := (yX9_mean, cX9_mean, 5, some .long, 4, 97, 0, 0)
theorem mv_X9_mean : MV M_X9_mean 4 := ⟨⟨q848, q1, by decide, by decide, by decide +kernel⟩, q846, q847⟩
def f_X9_mean (a1 : Int32) (a2 : Int32) (a3 : Int32) (a4 : Int32) (σ : Sg) (τ : Sl) : Option (Int64 × Sl) :=
  if (f_X9_isOutOfTen a1) = 0 then
    some ((-1 : Int64), τ)
  else
    if (f_X9_canLetGo a2 a3 σ) = 0 then
      some ((-1 : Int64), τ)
    else
      if (f_X9_isHalf a4) = 0 then
        some ((-1 : Int64), τ)
      else
        (f_X3_follow 1 a1 a2 a3 (0 : Int32) σ τ).bind fun (y4 : Sl) =>
        (f_X9_lowestTerms (y4 27 1) a4).bind fun (y5 : Int64) =>
        some (y5, y4)
set_option maxHeartbeats 4000000 in
set_option maxRecDepth 20000 in
theorem i_X9_mean (a1 : Int32) (a2 : Int32) (a3 : Int32) (a4 : Int32) (σ : Sg) (τ : Sl) (Q : Option Value → Hp → Prop) : Imp (f_X9_mean a1 a2 a3 a4 σ τ) (fun (y : (Int64 × Sl)) => Q (some (.long y.1)) (mk σ y.2)) (Go M_X9_mean Q 0 0 0 [some (.ref 0), some (.int a1), some (.int a2), some (.int a3), some (.int a4)] [] (mk σ τ)) := by
  unfold f_X9_mean
  refine im_st (r_iload_n (i := 1) dX9_mean_0 rfl rfl rfl) ?_
  refine im_st (r_callS (as := [.int a1]) (r := some (.int (f_X9_isOutOfTen a1))) (kc1 := 0) (ks1 := 0) (st := []) (st1 := [.int (f_X9_isOutOfTen a1)]) (e_X9_isOutOfTen a1 σ τ) ms_X9_isOutOfTen lk_X9_276 ⟨by decide, by decide⟩ ⟨by decide, by decide⟩ (Nat.le_of_ble_eq_true rfl) dX9_mean_1 rfl rfl rfl rfl rfl) ?_
  refine im_br (r_if_eq (tgt := 24) dX9_mean_4 rfl (by decide)) (fun c1 => ?_) (fun c1 => ?_)
  · refine im_st (r_ldc2 (v := -1) dX9_mean_24 rfl q812) ?_
    exact im_ret (fun q => g_lret rfl rfl rfl dX9_mean_27 q)
  · refine im_st (r_aload_n (i := 0) dX9_mean_7 rfl rfl rfl) ?_
    refine im_st (r_iload_n (i := 2) dX9_mean_8 rfl rfl rfl) ?_
    refine im_st (r_iload_n (i := 3) dX9_mean_9 rfl rfl rfl) ?_
    refine im_st (r_callV (as := [.int a2, .int a3]) (r := some (.int (f_X9_canLetGo a2 a3 σ))) (kc1 := 0) (ks1 := 0) (st := []) (st1 := [.int (f_X9_canLetGo a2 a3 σ)]) (e_X9_canLetGo a2 a3 σ τ) mv_X9_canLetGo lk_X9_210 ⟨by decide, by decide⟩ rfl (Nat.le_of_ble_eq_true rfl) (by decide) ⟨_, rfl, rfl⟩ ⟨by decide, by decide⟩ (Nat.le_of_ble_eq_true rfl) dX9_mean_10 rfl rfl rfl rfl rfl) ?_
    refine im_br (r_if_eq (tgt := 24) dX9_mean_13 rfl (by decide)) (fun c2 => ?_) (fun c2 => ?_)
    · refine im_st (r_ldc2 (v := -1) dX9_mean_24 rfl q812) ?_
      exact im_ret (fun q => g_lret rfl rfl rfl dX9_mean_27 q)
    · refine im_st (r_iload (i := 4) dX9_mean_16 rfl rfl) ?_
      refine im_st (r_callS (as := [.int a4]) (r := some (.int (f_X9_isHalf a4))) (kc1 := 0) (ks1 := 0) (st := []) (st1 := [.int (f_X9_isHalf a4)]) (e_X9_isHalf a4 σ τ) ms_X9_isHalf lk_X9_255 ⟨by decide, by decide⟩ ⟨by decide, by decide⟩ (Nat.le_of_ble_eq_true rfl) dX9_mean_18 rfl rfl rfl rfl rfl) ?_
      refine im_br (r_if_ne (tgt := 28) dX9_mean_21 rfl (by decide)) (fun c3 => ?_) (fun c3 => ?_)
      · refine im_st (r_ldc2 (v := -1) dX9_mean_24 rfl q812) ?_
        exact im_ret (fun q => g_lret rfl rfl rfl dX9_mean_27 q)
      · refine im_st (r_aload_n (i := 0) dX9_mean_28 rfl rfl rfl) ?_
        refine im_st (s_getR (b := 27) (tag := 9) (j := 5) dX9_mean_29 rfl fl_X9_43 rfl (Nat.le_of_ble_eq_true rfl) rfl rfl) ?_
        refine im_st (r_aload_n (i := 0) dX9_mean_32 rfl rfl rfl) ?_
        refine im_st (s_getR (b := 1) (tag := 9) (j := 0) dX9_mean_33 rfl fl_X9_10 rfl (Nat.le_of_ble_eq_true rfl) rfl rfl) ?_
        refine im_st (r_iload_n (i := 1) dX9_mean_36 rfl rfl rfl) ?_
        refine im_st (r_iload_n (i := 2) dX9_mean_37 rfl rfl rfl) ?_
        refine im_st (r_iload_n (i := 3) dX9_mean_38 rfl rfl rfl) ?_
        refine im_st (r_iconst (v := 0) dX9_mean_39 rfl kI_0) ?_
        refine im_bind (fun y4 hy4 => ?_)
        refine im_st (r_callV (as := [.ref 1, .int a1, .int a2, .int a3, .int (0 : Int32)]) (r := none) (kc1 := 0) (ks1 := 0) (st := []) (st1 := []) (e_X3_follow 1 a1 a2 a3 (0 : Int32) σ τ isSl_1 y4 hy4) mv_X3_follow lk_X9_281 ⟨by decide, by decide⟩ rfl (Nat.le_of_ble_eq_true rfl) (by decide) ⟨_, rfl, rfl⟩ ⟨by decide, by decide⟩ (Nat.le_of_ble_eq_true rfl) dX9_mean_40 rfl rfl rfl rfl rfl) ?_
        refine im_st (r_aload_n (i := 0) dX9_mean_43 rfl rfl rfl) ?_
        refine im_st (s_getR (b := 27) (tag := 9) (j := 5) dX9_mean_44 rfl fl_X9_43 rfl (Nat.le_of_ble_eq_true rfl) rfl rfl) ?_
        refine im_st (s_getJ (tag := 3) (j := 1) dX9_mean_47 rfl fl_X9_293 rfl (Nat.le_of_ble_eq_true rfl) rfl) ?_
        refine im_st (r_iload (i := 4) dX9_mean_50 rfl rfl) ?_
        refine im_bind (fun y5 hy5 => ?_)
        refine im_st (r_callS (as := [.long (y4 27 1), .int a4]) (r := some (.long y5)) (kc1 := 0) (ks1 := 0) (st := []) (st1 := [.long y5]) (e_X9_lowestTerms (y4 27 1) a4 σ y4 y5 hy5) ms_X9_lowestTerms lk_X9_289 ⟨by decide, by decide⟩ ⟨by decide, by decide⟩ (Nat.le_of_ble_eq_true rfl) dX9_mean_52 rfl rfl rfl rfl rfl) ?_
        exact im_ret (fun q => g_lret rfl rfl rfl dX9_mean_55 q)
theorem e_X9_mean (a1 : Int32) (a2 : Int32) (a3 : Int32) (a4 : Int32) (σ : Sg) (τ : Sl) (y : (Int64 × Sl)) (hy : f_X9_mean a1 a2 a3 a4 σ τ = some y) : EvD M_X9_mean [.ref 0, .int a1, .int a2, .int a3, .int a4] (mk σ τ) (some (.long y.1)) (mk σ y.2) := EvM.of (by decide +kernel) (Nat.le_of_ble_eq_true rfl) (i_X9_mean a1 a2 a3 a4 σ τ _ y hy ⟨rfl, rfl⟩)
def M_X9_see : Ms := (yX9_see, cX9_see, 5, some .int, 2, 43, 0, 0)
theorem mv_X9_see : MV M_X9_see 3 := ⟨⟨q852, q1, by decide, by decide, by decide +kernel⟩, q850, q851⟩
def f_X9_see (a1 : Int32) (a2 : Int32) (a3 : Int32) (σ : Sg) : Option (Int32 × Sg) :=
  app (if a3 < 0 then
    if a3 = (9 : Int32) then
      (1 : Int32)
    else
      (0 : Int32)
  else
    if a3 < (7 : Int32) then
      (1 : Int32)
    else
      if a3 = (9 : Int32) then
        (1 : Int32)
      else
        (0 : Int32)) fun (j1 : Int32) =>
  if (f_X9_canLetGo a1 a2 σ) = 0 then
    some ((-1 : Int32), σ)
  else
    if j1 = 0 then
      some ((-1 : Int32), σ)
    else
      (f_X5_add a1 a2 a3 σ).bind fun (y8 : (Int32 × Sg)) =>
      some (y8.1, y8.2)
set_option maxHeartbeats 4000000 in
set_option maxRecDepth 20000 in
theorem i_X9_see (a1 : Int32) (a2 : Int32) (a3 : Int32) (σ : Sg) (τ : Sl) (Q : Option Value → Hp → Prop) : Imp (f_X9_see a1 a2 a3 σ) (fun (y : (Int32 × Sg)) => Q (some (.int y.1)) (mk y.2 τ)) (Go M_X9_see Q 0 0 0 [some (.ref 0), some (.int a1), some (.int a2), some (.int a3), none] [] (mk σ τ)) := by
  unfold f_X9_see
  refine im_st (r_iload_n (i := 3) dX9_see_0 rfl rfl rfl) ?_
  refine im_seqT (Gm := fun (j1 : Int32) => Go M_X9_see Q 0 0 21 [some (.ref 0), some (.int a1), some (.int a2), some (.int a3), none] [.int j1] (mk σ τ)) ?_ (fun j1 => ?_)
  · refine im_brS (r_if_lt (tgt := 10) dX9_see_1 rfl (by decide)) (fun c2 => ?_) (fun c2 => ?_)
    · refine im_st (r_iload_n (i := 3) dX9_see_10 rfl rfl rfl) ?_
      refine im_st (r_bipush (v := 9) dX9_see_11 rfl kB_9) ?_
      refine im_brS (r_icmp_ne (tgt := 20) dX9_see_13 rfl (by decide)) (fun c3 => ?_) (fun c3 => ?_)
      · refine im_st (r_iconst (v := 1) dX9_see_16 rfl kI_1) ?_
        refine im_st (r_goto (pc1 := 21) dX9_see_17 (by decide)) ?_
        exact im_ret id
      · refine im_st (r_iconst (v := 0) dX9_see_20 rfl kI_0) ?_
        exact im_ret id
    · refine im_st (r_iload_n (i := 3) dX9_see_4 rfl rfl rfl) ?_
      refine im_st (r_bipush (v := 7) dX9_see_5 rfl kB_7) ?_
      refine im_brS (r_icmp_lt (tgt := 16) dX9_see_7 rfl (by decide)) (fun c4 => ?_) (fun c4 => ?_)
      · refine im_st (r_iconst (v := 1) dX9_see_16 rfl kI_1) ?_
        refine im_st (r_goto (pc1 := 21) dX9_see_17 (by decide)) ?_
        exact im_ret id
      · refine im_st (r_iload_n (i := 3) dX9_see_10 rfl rfl rfl) ?_
        refine im_st (r_bipush (v := 9) dX9_see_11 rfl kB_9) ?_
        refine im_brS (r_icmp_ne (tgt := 20) dX9_see_13 rfl (by decide)) (fun c5 => ?_) (fun c5 => ?_)
        · refine im_st (r_iconst (v := 1) dX9_see_16 rfl kI_1) ?_
          refine im_st (r_goto (pc1 := 21) dX9_see_17 (by decide)) ?_
          exact im_ret id
        · refine im_st (r_iconst (v := 0) dX9_see_20 rfl kI_0) ?_
          exact im_ret id
  refine im_st (r_istore (i := 4) (L1 := [some (.ref 0), some (.int a1), some (.int a2), some (.int a3), some (.int j1)]) dX9_see_21 rfl (by decide) rfl) ?_
  refine im_st (r_aload_n (i := 0) dX9_see_23 rfl rfl rfl) ?_
  refine im_st (r_iload_n (i := 1) dX9_see_24 rfl rfl rfl) ?_
  refine im_st (r_iload_n (i := 2) dX9_see_25 rfl rfl rfl) ?_
  refine im_st (r_callV (as := [.int a1, .int a2]) (r := some (.int (f_X9_canLetGo a1 a2 σ))) (kc1 := 0) (ks1 := 0) (st := []) (st1 := [.int (f_X9_canLetGo a1 a2 σ)]) (e_X9_canLetGo a1 a2 σ τ) mv_X9_canLetGo lk_X9_210 ⟨by decide, by decide⟩ rfl (Nat.le_of_ble_eq_true rfl) (by decide) ⟨_, rfl, rfl⟩ ⟨by decide, by decide⟩ (Nat.le_of_ble_eq_true rfl) dX9_see_26 rfl rfl rfl rfl rfl) ?_
  refine im_br (r_if_eq (tgt := 37) dX9_see_29 rfl (by decide)) (fun c6 => ?_) (fun c6 => ?_)
  · refine im_st (r_iconst (v := -1) dX9_see_37 rfl kI_m1) ?_
    exact im_ret (fun q => g_iret rfl rfl rfl dX9_see_38 q)
  · refine im_st (r_iload (i := 4) dX9_see_32 rfl rfl) ?_
    refine im_br (r_if_ne (tgt := 39) dX9_see_34 rfl (by decide)) (fun c7 => ?_) (fun c7 => ?_)
    · refine im_st (r_iconst (v := -1) dX9_see_37 rfl kI_m1) ?_
      exact im_ret (fun q => g_iret rfl rfl rfl dX9_see_38 q)
    · refine im_st (r_aload_n (i := 0) dX9_see_39 rfl rfl rfl) ?_
      refine im_st (s_getR (b := 30) (tag := 9) (j := 6) dX9_see_40 rfl fl_X9_50 rfl (Nat.le_of_ble_eq_true rfl) rfl rfl) ?_
      refine im_st (r_iload_n (i := 1) dX9_see_43 rfl rfl rfl) ?_
      refine im_st (r_iload_n (i := 2) dX9_see_44 rfl rfl rfl) ?_
      refine im_st (r_iload_n (i := 3) dX9_see_45 rfl rfl rfl) ?_
      refine im_bind (fun y8 hy8 => ?_)
      refine im_st (r_callV (as := [.int a1, .int a2, .int a3]) (r := some (.int y8.1)) (kc1 := 0) (ks1 := 0) (st := []) (st1 := [.int y8.1]) (e_X5_add a1 a2 a3 σ τ y8 hy8) mv_X5_add lk_X9_295 ⟨by decide, by decide⟩ rfl (Nat.le_of_ble_eq_true rfl) (by decide) ⟨_, rfl, rfl⟩ ⟨by decide, by decide⟩ (Nat.le_of_ble_eq_true rfl) dX9_see_46 rfl rfl rfl rfl rfl) ?_
      exact im_ret (fun q => g_iret rfl rfl rfl dX9_see_49 q)
theorem e_X9_see (a1 : Int32) (a2 : Int32) (a3 : Int32) (σ : Sg) (τ : Sl) (y : (Int32 × Sg)) (hy : f_X9_see a1 a2 a3 σ = some y) : EvD M_X9_see [.ref 0, .int a1, .int a2, .int a3] (mk σ τ) (some (.int y.1)) (mk y.2 τ) := EvM.of (by decide +kernel) (Nat.le_of_ble_eq_true rfl) (i_X9_see a1 a2 a3 σ τ _ y hy ⟨rfl, rfl⟩)
def M_X9_forget : Ms := (yX9_forget, cX9_forget, 3, some .int, 0, 0, 0, 0)
theorem mv_X9_forget : MV M_X9_forget 1 := ⟨⟨q860, q1, by decide, by decide, by decide +kernel⟩, q858, q859⟩
def f_X9_forget (a1 : Int32) (σ : Sg) : (Int32 × Sg) :=
  if a1 < 0 then
    ((-1 : Int32), σ)
  else
    if a1 ≤ (σ 30 3) then
      ((σ 30 3), (up2 σ 30 3 a1))
    else
      ((-1 : Int32), σ)
set_option maxHeartbeats 4000000 in
set_option maxRecDepth 20000 in
theorem i_X9_forget (a1 : Int32) (σ : Sg) (τ : Sl) (Q : Option Value → Hp → Prop) : Imp (some (f_X9_forget a1 σ)) (fun (y : (Int32 × Sg)) => Q (some (.int y.1)) (mk y.2 τ)) (Go M_X9_forget Q 0 0 0 [some (.ref 0), some (.int a1), none] [] (mk σ τ)) := by
  unfold f_X9_forget
  refine im_st (r_iload_n (i := 1) dX9_forget_0 rfl rfl rfl) ?_
  refine im_brS (r_if_lt (tgt := 15) dX9_forget_1 rfl (by decide)) (fun c1 => ?_) (fun c1 => ?_)
  · refine im_st (r_iconst (v := -1) dX9_forget_15 rfl kI_m1) ?_
    exact im_ret (fun q => g_iret rfl rfl rfl dX9_forget_16 q)
  · refine im_st (r_iload_n (i := 1) dX9_forget_4 rfl rfl rfl) ?_
    refine im_st (r_aload_n (i := 0) dX9_forget_5 rfl rfl rfl) ?_
    refine im_st (s_getR (b := 30) (tag := 9) (j := 6) dX9_forget_6 rfl fl_X9_50 rfl (Nat.le_of_ble_eq_true rfl) rfl rfl) ?_
    refine im_st (s_getI (tag := 5) (j := 3) dX9_forget_9 rfl fl_X9_112 rfl (Nat.le_of_ble_eq_true rfl) rfl) ?_
    refine im_brS (r_icmp_le (tgt := 17) dX9_forget_12 rfl (by decide)) (fun c2 => ?_) (fun c2 => ?_)
    · refine im_st (r_aload_n (i := 0) dX9_forget_17 rfl rfl rfl) ?_
      refine im_st (s_getR (b := 30) (tag := 9) (j := 6) dX9_forget_18 rfl fl_X9_50 rfl (Nat.le_of_ble_eq_true rfl) rfl rfl) ?_
      refine im_st (s_getI (tag := 5) (j := 3) dX9_forget_21 rfl fl_X9_112 rfl (Nat.le_of_ble_eq_true rfl) rfl) ?_
      refine im_st (r_istore_n (i := 2) (L1 := [some (.ref 0), some (.int a1), some (.int (σ 30 3))]) dX9_forget_24 rfl rfl (by decide) rfl) ?_
      refine im_st (r_aload_n (i := 0) dX9_forget_25 rfl rfl rfl) ?_
      refine im_st (s_getR (b := 30) (tag := 9) (j := 6) dX9_forget_26 rfl fl_X9_50 rfl (Nat.le_of_ble_eq_true rfl) rfl rfl) ?_
      refine im_st (r_iload_n (i := 1) dX9_forget_29 rfl rfl rfl) ?_
      refine im_st (s_putI (tag := 5) (j := 3) dX9_forget_30 rfl fl_X9_112 rfl (Nat.le_of_ble_eq_true rfl) rfl fw_5_3) ?_
      refine im_st (r_iload_n (i := 2) dX9_forget_33 rfl rfl rfl) ?_
      exact im_ret (fun q => g_iret rfl rfl rfl dX9_forget_34 q)
    · refine im_st (r_iconst (v := -1) dX9_forget_15 rfl kI_m1) ?_
      exact im_ret (fun q => g_iret rfl rfl rfl dX9_forget_16 q)
theorem e_X9_forget (a1 : Int32) (σ : Sg) (τ : Sl) : EvD M_X9_forget [.ref 0, .int a1] (mk σ τ) (some (.int (f_X9_forget a1 σ).1)) (mk (f_X9_forget a1 σ).2 τ) := EvM.of (by decide +kernel) (Nat.le_of_ble_eq_true rfl) (i_X9_forget a1 σ τ _ _ rfl ⟨rfl, rfl⟩)
def M_X9_kinds : Ms := (yX9_kinds, cX9_kinds, 2, some .int, 6, 134, 0, 0)
theorem mv_X9_kinds : MV M_X9_kinds 1 := ⟨⟨q864, q1, by decide, by decide, by decide +kernel⟩, q862, q863⟩
def f_X9_kinds (a1 : Int32) (σ : Sg) : Option (Int32 × Sg) :=
  if (f_X7_isHedgehog 1 a1 σ) = 0 then
    some ((-1 : Int32), σ)
  else
    app (f_X7_copyFrom 13 1 σ) fun (σ2 : Sg) =>
    (f_X5_fittingKinds 13 a1 σ2).bind fun (y3 : (Int32 × Sg)) =>
    some (y3.1, y3.2)
set_option maxHeartbeats 4000000 in
set_option maxRecDepth 20000 in
theorem i_X9_kinds (a1 : Int32) (σ : Sg) (τ : Sl) (Q : Option Value → Hp → Prop) : Imp (f_X9_kinds a1 σ) (fun (y : (Int32 × Sg)) => Q (some (.int y.1)) (mk y.2 τ)) (Go M_X9_kinds Q 0 0 0 [some (.ref 0), some (.int a1)] [] (mk σ τ)) := by
  unfold f_X9_kinds
  refine im_st (r_aload_n (i := 0) dX9_kinds_0 rfl rfl rfl) ?_
  refine im_st (s_getR (b := 1) (tag := 9) (j := 0) dX9_kinds_1 rfl fl_X9_10 rfl (Nat.le_of_ble_eq_true rfl) rfl rfl) ?_
  refine im_st (r_iload_n (i := 1) dX9_kinds_4 rfl rfl rfl) ?_
  refine im_st (r_callV (as := [.int a1]) (r := some (.int (f_X7_isHedgehog 1 a1 σ))) (kc1 := 0) (ks1 := 0) (st := []) (st1 := [.int (f_X7_isHedgehog 1 a1 σ)]) (e_X7_isHedgehog 1 a1 σ τ isSl_1) mv_X7_isHedgehog lk_X9_153 ⟨by decide, by decide⟩ rfl (Nat.le_of_ble_eq_true rfl) (by decide) ⟨_, rfl, rfl⟩ ⟨by decide, by decide⟩ (Nat.le_of_ble_eq_true rfl) dX9_kinds_5 rfl rfl rfl rfl rfl) ?_
  refine im_br (r_if_ne (tgt := 13) dX9_kinds_8 rfl (by decide)) (fun c1 => ?_) (fun c1 => ?_)
  · refine im_st (r_iconst (v := -1) dX9_kinds_11 rfl kI_m1) ?_
    exact im_ret (fun q => g_iret rfl rfl rfl dX9_kinds_12 q)
  · refine im_st (r_aload_n (i := 0) dX9_kinds_13 rfl rfl rfl) ?_
    refine im_st (s_getR (b := 13) (tag := 9) (j := 2) dX9_kinds_14 rfl fl_X9_25 rfl (Nat.le_of_ble_eq_true rfl) rfl rfl) ?_
    refine im_st (r_aload_n (i := 0) dX9_kinds_17 rfl rfl rfl) ?_
    refine im_st (s_getR (b := 1) (tag := 9) (j := 0) dX9_kinds_18 rfl fl_X9_10 rfl (Nat.le_of_ble_eq_true rfl) rfl rfl) ?_
    refine im_st (r_callV (as := [.ref 1]) (r := none) (kc1 := 0) (ks1 := 0) (st := []) (st1 := []) (e_X7_copyFrom 13 1 σ τ isSl_13 isSl_1) mv_X7_copyFrom lk_X9_109 ⟨by decide, by decide⟩ rfl (Nat.le_of_ble_eq_true rfl) (by decide) ⟨_, rfl, rfl⟩ ⟨by decide, by decide⟩ (Nat.le_of_ble_eq_true rfl) dX9_kinds_21 rfl rfl rfl rfl rfl) ?_
    refine im_st (r_aload_n (i := 0) dX9_kinds_24 rfl rfl rfl) ?_
    refine im_st (s_getR (b := 30) (tag := 9) (j := 6) dX9_kinds_25 rfl fl_X9_50 rfl (Nat.le_of_ble_eq_true rfl) rfl rfl) ?_
    refine im_st (r_aload_n (i := 0) dX9_kinds_28 rfl rfl rfl) ?_
    refine im_st (s_getR (b := 22) (tag := 9) (j := 3) dX9_kinds_29 rfl fl_X9_28 rfl (Nat.le_of_ble_eq_true rfl) rfl rfl) ?_
    refine im_st (r_iload_n (i := 1) dX9_kinds_32 rfl rfl rfl) ?_
    refine im_app (Gm := fun (σ2 : Sg) => Go M_X9_kinds Q 0 0 33 [some (.ref 0), some (.int a1)] [.int a1, .ref 22, .ref 30] (mk σ2 τ)) (fun σ2 => ?_)
    refine im_bind (fun y3 hy3 => ?_)
    refine im_st (r_callV (as := [.ref 22, .int a1]) (r := some (.int y3.1)) (kc1 := 0) (ks1 := 0) (st := []) (st1 := [.int y3.1]) (e_X5_fittingKinds 13 a1 σ2 τ isCt_13 y3 hy3) mv_X5_fittingKinds lk_X9_298 ⟨by decide, by decide⟩ rfl (Nat.le_of_ble_eq_true rfl) (by decide) ⟨_, rfl, rfl⟩ ⟨by decide, by decide⟩ (Nat.le_of_ble_eq_true rfl) dX9_kinds_33 rfl rfl rfl rfl rfl) ?_
    exact im_ret (fun q => g_iret rfl rfl rfl dX9_kinds_36 q)
theorem e_X9_kinds (a1 : Int32) (σ : Sg) (τ : Sl) (y : (Int32 × Sg)) (hy : f_X9_kinds a1 σ = some y) : EvD M_X9_kinds [.ref 0, .int a1] (mk σ τ) (some (.int y.1)) (mk y.2 τ) := EvM.of (by decide +kernel) (Nat.le_of_ble_eq_true rfl) (i_X9_kinds a1 σ τ _ y hy ⟨rfl, rfl⟩)
def M_X9_speeds : Ms := (yX9_speeds, cX9_speeds, 2, some .int, 6, 134, 0, 0)
theorem mv_X9_speeds : MV M_X9_speeds 1 := ⟨⟨q878, q1, by decide, by decide, by decide +kernel⟩, q876, q877⟩
def f_X9_speeds (a1 : Int32) (σ : Sg) : Option (Int32 × Sg) :=
  if (f_X7_isHedgehog 1 a1 σ) = 0 then
    some ((-1 : Int32), σ)
  else
    app (f_X7_copyFrom 13 1 σ) fun (σ2 : Sg) =>
    (f_X5_fittingSpeeds 13 a1 σ2).bind fun (y3 : (Int32 × Sg)) =>
    some (y3.1, y3.2)
set_option maxHeartbeats 4000000 in
set_option maxRecDepth 20000 in
theorem i_X9_speeds (a1 : Int32) (σ : Sg) (τ : Sl) (Q : Option Value → Hp → Prop) : Imp (f_X9_speeds a1 σ) (fun (y : (Int32 × Sg)) => Q (some (.int y.1)) (mk y.2 τ)) (Go M_X9_speeds Q 0 0 0 [some (.ref 0), some (.int a1)] [] (mk σ τ)) := by
  unfold f_X9_speeds
  refine im_st (r_aload_n (i := 0) dX9_speeds_0 rfl rfl rfl) ?_
  refine im_st (s_getR (b := 1) (tag := 9) (j := 0) dX9_speeds_1 rfl fl_X9_10 rfl (Nat.le_of_ble_eq_true rfl) rfl rfl) ?_
  refine im_st (r_iload_n (i := 1) dX9_speeds_4 rfl rfl rfl) ?_
  refine im_st (r_callV (as := [.int a1]) (r := some (.int (f_X7_isHedgehog 1 a1 σ))) (kc1 := 0) (ks1 := 0) (st := []) (st1 := [.int (f_X7_isHedgehog 1 a1 σ)]) (e_X7_isHedgehog 1 a1 σ τ isSl_1) mv_X7_isHedgehog lk_X9_153 ⟨by decide, by decide⟩ rfl (Nat.le_of_ble_eq_true rfl) (by decide) ⟨_, rfl, rfl⟩ ⟨by decide, by decide⟩ (Nat.le_of_ble_eq_true rfl) dX9_speeds_5 rfl rfl rfl rfl rfl) ?_
  refine im_br (r_if_ne (tgt := 13) dX9_speeds_8 rfl (by decide)) (fun c1 => ?_) (fun c1 => ?_)
  · refine im_st (r_iconst (v := -1) dX9_speeds_11 rfl kI_m1) ?_
    exact im_ret (fun q => g_iret rfl rfl rfl dX9_speeds_12 q)
  · refine im_st (r_aload_n (i := 0) dX9_speeds_13 rfl rfl rfl) ?_
    refine im_st (s_getR (b := 13) (tag := 9) (j := 2) dX9_speeds_14 rfl fl_X9_25 rfl (Nat.le_of_ble_eq_true rfl) rfl rfl) ?_
    refine im_st (r_aload_n (i := 0) dX9_speeds_17 rfl rfl rfl) ?_
    refine im_st (s_getR (b := 1) (tag := 9) (j := 0) dX9_speeds_18 rfl fl_X9_10 rfl (Nat.le_of_ble_eq_true rfl) rfl rfl) ?_
    refine im_st (r_callV (as := [.ref 1]) (r := none) (kc1 := 0) (ks1 := 0) (st := []) (st1 := []) (e_X7_copyFrom 13 1 σ τ isSl_13 isSl_1) mv_X7_copyFrom lk_X9_109 ⟨by decide, by decide⟩ rfl (Nat.le_of_ble_eq_true rfl) (by decide) ⟨_, rfl, rfl⟩ ⟨by decide, by decide⟩ (Nat.le_of_ble_eq_true rfl) dX9_speeds_21 rfl rfl rfl rfl rfl) ?_
    refine im_st (r_aload_n (i := 0) dX9_speeds_24 rfl rfl rfl) ?_
    refine im_st (s_getR (b := 30) (tag := 9) (j := 6) dX9_speeds_25 rfl fl_X9_50 rfl (Nat.le_of_ble_eq_true rfl) rfl rfl) ?_
    refine im_st (r_aload_n (i := 0) dX9_speeds_28 rfl rfl rfl) ?_
    refine im_st (s_getR (b := 22) (tag := 9) (j := 3) dX9_speeds_29 rfl fl_X9_28 rfl (Nat.le_of_ble_eq_true rfl) rfl rfl) ?_
    refine im_st (r_iload_n (i := 1) dX9_speeds_32 rfl rfl rfl) ?_
    refine im_app (Gm := fun (σ2 : Sg) => Go M_X9_speeds Q 0 0 33 [some (.ref 0), some (.int a1)] [.int a1, .ref 22, .ref 30] (mk σ2 τ)) (fun σ2 => ?_)
    refine im_bind (fun y3 hy3 => ?_)
    refine im_st (r_callV (as := [.ref 22, .int a1]) (r := some (.int y3.1)) (kc1 := 0) (ks1 := 0) (st := []) (st1 := [.int y3.1]) (e_X5_fittingSpeeds 13 a1 σ2 τ isCt_13 y3 hy3) mv_X5_fittingSpeeds lk_X9_302 ⟨by decide, by decide⟩ rfl (Nat.le_of_ble_eq_true rfl) (by decide) ⟨_, rfl, rfl⟩ ⟨by decide, by decide⟩ (Nat.le_of_ble_eq_true rfl) dX9_speeds_33 rfl rfl rfl rfl rfl) ?_
    exact im_ret (fun q => g_iret rfl rfl rfl dX9_speeds_36 q)
theorem e_X9_speeds (a1 : Int32) (σ : Sg) (τ : Sl) (y : (Int32 × Sg)) (hy : f_X9_speeds a1 σ = some y) : EvD M_X9_speeds [.ref 0, .int a1] (mk σ τ) (some (.int y.1)) (mk y.2 τ) := EvM.of (by decide +kernel) (Nat.le_of_ble_eq_true rfl) (i_X9_speeds a1 σ τ _ y hy ⟨rfl, rfl⟩)
def M_X9_ask : Ms := (yX9_ask, cX9_ask, 4, some .int, 6, 136, 0, 0)
theorem mv_X9_ask : MV M_X9_ask 2 := ⟨⟨q886, q1, by decide, by decide, by decide +kernel⟩, q884, q885⟩
def f_X9_ask (a1 : Int32) (a2 : Int32) (σ : Sg) : Option (Int32 × Sg) :=
  if (f_X7_isHedgehog 1 a1 σ) = 0 then
    some ((-1 : Int32), σ)
  else
    if (f_X9_isHalf a2) = 0 then
      some ((-1 : Int32), σ)
    else
      app (f_X7_copyFrom 13 1 σ) fun (σ3 : Sg) =>
      (f_X5_fittingSpeeds 13 a1 σ3).bind fun (y4 : (Int32 × Sg)) =>
      if inR a1 4 then
      (f_X0_seekQuestion (y4.2 5 a1.toNatClampNeg) y4.1 y4.2).bind fun (y6 : Sg) =>
      some ((f_X0_told a2 y6), y6)
      else none
set_option maxHeartbeats 4000000 in
set_option maxRecDepth 20000 in
theorem i_X9_ask (a1 : Int32) (a2 : Int32) (σ : Sg) (τ : Sl) (Q : Option Value → Hp → Prop) : Imp (f_X9_ask a1 a2 σ) (fun (y : (Int32 × Sg)) => Q (some (.int y.1)) (mk y.2 τ)) (Go M_X9_ask Q 0 0 0 [some (.ref 0), some (.int a1), some (.int a2), none] [] (mk σ τ)) := by
  unfold f_X9_ask
  refine im_st (r_aload_n (i := 0) dX9_ask_0 rfl rfl rfl) ?_
  refine im_st (s_getR (b := 1) (tag := 9) (j := 0) dX9_ask_1 rfl fl_X9_10 rfl (Nat.le_of_ble_eq_true rfl) rfl rfl) ?_
  refine im_st (r_iload_n (i := 1) dX9_ask_4 rfl rfl rfl) ?_
  refine im_st (r_callV (as := [.int a1]) (r := some (.int (f_X7_isHedgehog 1 a1 σ))) (kc1 := 0) (ks1 := 0) (st := []) (st1 := [.int (f_X7_isHedgehog 1 a1 σ)]) (e_X7_isHedgehog 1 a1 σ τ isSl_1) mv_X7_isHedgehog lk_X9_153 ⟨by decide, by decide⟩ rfl (Nat.le_of_ble_eq_true rfl) (by decide) ⟨_, rfl, rfl⟩ ⟨by decide, by decide⟩ (Nat.le_of_ble_eq_true rfl) dX9_ask_5 rfl rfl rfl rfl rfl) ?_
  refine im_br (r_if_eq (tgt := 18) dX9_ask_8 rfl (by decide)) (fun c1 => ?_) (fun c1 => ?_)
  · refine im_st (r_iconst (v := -1) dX9_ask_18 rfl kI_m1) ?_
    exact im_ret (fun q => g_iret rfl rfl rfl dX9_ask_19 q)
  · refine im_st (r_iload_n (i := 2) dX9_ask_11 rfl rfl rfl) ?_
    refine im_st (r_callS (as := [.int a2]) (r := some (.int (f_X9_isHalf a2))) (kc1 := 0) (ks1 := 0) (st := []) (st1 := [.int (f_X9_isHalf a2)]) (e_X9_isHalf a2 σ τ) ms_X9_isHalf lk_X9_255 ⟨by decide, by decide⟩ ⟨by decide, by decide⟩ (Nat.le_of_ble_eq_true rfl) dX9_ask_12 rfl rfl rfl rfl rfl) ?_
    refine im_br (r_if_ne (tgt := 20) dX9_ask_15 rfl (by decide)) (fun c2 => ?_) (fun c2 => ?_)
    · refine im_st (r_iconst (v := -1) dX9_ask_18 rfl kI_m1) ?_
      exact im_ret (fun q => g_iret rfl rfl rfl dX9_ask_19 q)
    · refine im_st (r_aload_n (i := 0) dX9_ask_20 rfl rfl rfl) ?_
      refine im_st (s_getR (b := 13) (tag := 9) (j := 2) dX9_ask_21 rfl fl_X9_25 rfl (Nat.le_of_ble_eq_true rfl) rfl rfl) ?_
      refine im_st (r_aload_n (i := 0) dX9_ask_24 rfl rfl rfl) ?_
      refine im_st (s_getR (b := 1) (tag := 9) (j := 0) dX9_ask_25 rfl fl_X9_10 rfl (Nat.le_of_ble_eq_true rfl) rfl rfl) ?_
      refine im_st (r_callV (as := [.ref 1]) (r := none) (kc1 := 0) (ks1 := 0) (st := []) (st1 := []) (e_X7_copyFrom 13 1 σ τ isSl_13 isSl_1) mv_X7_copyFrom lk_X9_109 ⟨by decide, by decide⟩ rfl (Nat.le_of_ble_eq_true rfl) (by decide) ⟨_, rfl, rfl⟩ ⟨by decide, by decide⟩ (Nat.le_of_ble_eq_true rfl) dX9_ask_28 rfl rfl rfl rfl rfl) ?_
      refine im_st (r_aload_n (i := 0) dX9_ask_31 rfl rfl rfl) ?_
      refine im_st (s_getR (b := 30) (tag := 9) (j := 6) dX9_ask_32 rfl fl_X9_50 rfl (Nat.le_of_ble_eq_true rfl) rfl rfl) ?_
      refine im_st (r_aload_n (i := 0) dX9_ask_35 rfl rfl rfl) ?_
      refine im_st (s_getR (b := 22) (tag := 9) (j := 3) dX9_ask_36 rfl fl_X9_28 rfl (Nat.le_of_ble_eq_true rfl) rfl rfl) ?_
      refine im_st (r_iload_n (i := 1) dX9_ask_39 rfl rfl rfl) ?_
      refine im_app (Gm := fun (σ3 : Sg) => Go M_X9_ask Q 0 0 40 [some (.ref 0), some (.int a1), some (.int a2), none] [.int a1, .ref 22, .ref 30] (mk σ3 τ)) (fun σ3 => ?_)
      refine im_bind (fun y4 hy4 => ?_)
      refine im_st (r_callV (as := [.ref 22, .int a1]) (r := some (.int y4.1)) (kc1 := 0) (ks1 := 0) (st := []) (st1 := [.int y4.1]) (e_X5_fittingSpeeds 13 a1 σ3 τ isCt_13 y4 hy4) mv_X5_fittingSpeeds lk_X9_302 ⟨by decide, by decide⟩ rfl (Nat.le_of_ble_eq_true rfl) (by decide) ⟨_, rfl, rfl⟩ ⟨by decide, by decide⟩ (Nat.le_of_ble_eq_true rfl) dX9_ask_40 rfl rfl rfl rfl rfl) ?_
      refine im_st (r_istore_n (i := 3) (L1 := [some (.ref 0), some (.int a1), some (.int a2), some (.int y4.1)]) dX9_ask_43 rfl rfl (by decide) rfl) ?_
      refine im_st (r_aload_n (i := 0) dX9_ask_44 rfl rfl rfl) ?_
      refine im_st (s_getR (b := 25) (tag := 9) (j := 4) dX9_ask_45 rfl fl_X9_36 rfl (Nat.le_of_ble_eq_true rfl) rfl rfl) ?_
      refine im_st (r_aload_n (i := 0) dX9_ask_48 rfl rfl rfl) ?_
      refine im_st (s_getR (b := 1) (tag := 9) (j := 0) dX9_ask_49 rfl fl_X9_10 rfl (Nat.le_of_ble_eq_true rfl) rfl rfl) ?_
      refine im_st (s_getR (b := 5) (tag := 7) (j := 5) dX9_ask_52 rfl fl_X9_156 rfl (Nat.le_of_ble_eq_true rfl) rfl rfl) ?_
      refine im_st (r_iload_n (i := 1) dX9_ask_55 rfl rfl rfl) ?_
      refine im_grd (fun g5 => ?_)
      refine im_st (s_iaload dX9_ask_56 rfl rfl (Nat.le_of_ble_eq_true rfl) (inR_in g5)) ?_
      refine im_st (r_iload_n (i := 3) dX9_ask_57 rfl rfl rfl) ?_
      refine im_bind (fun y6 hy6 => ?_)
      refine im_st (r_callV (as := [.int (y4.2 5 a1.toNatClampNeg), .int y4.1]) (r := none) (kc1 := 0) (ks1 := 0) (st := []) (st1 := []) (e_X0_seekQuestion (y4.2 5 a1.toNatClampNeg) y4.1 y4.2 τ y6 hy6) mv_X0_seekQuestion lk_X9_305 ⟨by decide, by decide⟩ rfl (Nat.le_of_ble_eq_true rfl) (by decide) ⟨_, rfl, rfl⟩ ⟨by decide, by decide⟩ (Nat.le_of_ble_eq_true rfl) dX9_ask_58 rfl rfl rfl rfl rfl) ?_
      refine im_st (r_aload_n (i := 0) dX9_ask_61 rfl rfl rfl) ?_
      refine im_st (s_getR (b := 25) (tag := 9) (j := 4) dX9_ask_62 rfl fl_X9_36 rfl (Nat.le_of_ble_eq_true rfl) rfl rfl) ?_
      refine im_st (r_iload_n (i := 2) dX9_ask_65 rfl rfl rfl) ?_
      refine im_st (r_callV (as := [.int a2]) (r := some (.int (f_X0_told a2 y6))) (kc1 := 0) (ks1 := 0) (st := []) (st1 := [.int (f_X0_told a2 y6)]) (e_X0_told a2 y6 τ) mv_X0_told lk_X9_261 ⟨by decide, by decide⟩ rfl (Nat.le_of_ble_eq_true rfl) (by decide) ⟨_, rfl, rfl⟩ ⟨by decide, by decide⟩ (Nat.le_of_ble_eq_true rfl) dX9_ask_66 rfl rfl rfl rfl rfl) ?_
      exact im_ret (fun q => g_iret rfl rfl rfl dX9_ask_69 q)
theorem e_X9_ask (a1 : Int32) (a2 : Int32) (σ : Sg) (τ : Sl) (y : (Int32 × Sg)) (hy : f_X9_ask a1 a2 σ = some y) : EvD M_X9_ask [.ref 0, .int a1, .int a2] (mk σ τ) (some (.int y.1)) (mk y.2 τ) := EvM.of (by decide +kernel) (Nat.le_of_ble_eq_true rfl) (i_X9_ask a1 a2 σ τ _ y hy ⟨rfl, rfl⟩)
def M_X9_driftOnce : Ms := (yX9_driftOnce, cX9_driftOnce, 4, some .int, 4, 85, 0, 0)
theorem mv_X9_driftOnce : MV M_X9_driftOnce 1 := ⟨⟨q906, q1, by decide, by decide, by decide +kernel⟩, q905, p21⟩
def f_X9_driftOnce (a1 : Int32) (σ : Sg) : Option (Int32 × Sg) :=
  if 0 < (σ 13 7) then
    app (σ 13 7) fun (v2 : Int32) =>
    if nz v2 then
    app (a1 / (4 : Int32)) fun (v4 : Int32) =>
    (f_X2_letGo 13 (a1 - a1 / v2 * v2) (v4 - v4 / (8 : Int32) * (8 : Int32)) σ).bind fun (y5 : Sg) =>
    app (a1 / (32 : Int32)) fun (v6 : Int32) =>
    app (a1 / (320 : Int32)) fun (v7 : Int32) =>
    app (((10 : Int32) * (v6 - v6 / (10 : Int32) * (10 : Int32))) + (v7 - v7 / (8 : Int32) * (8 : Int32))) fun (v8 : Int32) =>
    (if (y5 23 0) = (-4 : Int32) then
      some y5
    else
      (f_X7_isFree 13 v8 y5).bind fun (y11 : Int32) =>
      if y11 = 0 then
        some y5
      else
        (f_X7_movePeg 13 (y5 23 0) v8 y5).bind fun (y13 : Sg) =>
        some y13).bind fun (j9 : Sg) =>
    some ((j9 23 1), j9)
    else none
  else
    some ((-4 : Int32), σ)
set_option maxHeartbeats 4000000 in
set_option maxRecDepth 20000 in
theorem i_X9_driftOnce (a1 : Int32) (σ : Sg) (τ : Sl) (Q : Option Value → Hp → Prop) : Imp (f_X9_driftOnce a1 σ) (fun (y : (Int32 × Sg)) => Q (some (.int y.1)) (mk y.2 τ)) (Go M_X9_driftOnce Q 0 0 0 [some (.ref 0), some (.int a1), none, none] [] (mk σ τ)) := by
  unfold f_X9_driftOnce
  refine im_st (r_aload_n (i := 0) dX9_driftOnce_0 rfl rfl rfl) ?_
  refine im_st (s_getR (b := 13) (tag := 9) (j := 2) dX9_driftOnce_1 rfl fl_X9_25 rfl (Nat.le_of_ble_eq_true rfl) rfl rfl) ?_
  refine im_st (s_getI (tag := 7) (j := 7) dX9_driftOnce_4 rfl fl_X9_121 rfl (Nat.le_of_ble_eq_true rfl) rfl) ?_
  refine im_br (r_if_gt (tgt := 13) dX9_driftOnce_7 rfl (by decide)) (fun c1 => ?_) (fun c1 => ?_)
  · refine im_st (r_aload_n (i := 0) dX9_driftOnce_13 rfl rfl rfl) ?_
    refine im_st (s_getR (b := 22) (tag := 9) (j := 3) dX9_driftOnce_14 rfl fl_X9_28 rfl (Nat.le_of_ble_eq_true rfl) rfl rfl) ?_
    refine im_st (r_iload_n (i := 1) dX9_driftOnce_17 rfl rfl rfl) ?_
    refine im_st (r_aload_n (i := 0) dX9_driftOnce_18 rfl rfl rfl) ?_
    refine im_st (s_getR (b := 13) (tag := 9) (j := 2) dX9_driftOnce_19 rfl fl_X9_25 rfl (Nat.le_of_ble_eq_true rfl) rfl rfl) ?_
    refine im_st (s_getI (tag := 7) (j := 7) dX9_driftOnce_22 rfl fl_X9_121 rfl (Nat.le_of_ble_eq_true rfl) rfl) ?_
    refine im_app (Gm := fun (v2 : Int32) => Go M_X9_driftOnce Q 0 0 25 [some (.ref 0), some (.int a1), none, none] [.int v2, .int a1, .ref 22] (mk σ τ)) (fun v2 => ?_)
    refine im_grd (fun g3 => ?_)
    refine im_st (r_irem dX9_driftOnce_25 rfl (nz_ne g3)) ?_
    refine im_st (r_iload_n (i := 1) dX9_driftOnce_26 rfl rfl rfl) ?_
    refine im_st (r_iconst (v := 4) dX9_driftOnce_27 rfl kI_4) ?_
    refine im_st (r_idiv dX9_driftOnce_28 rfl (by decide)) ?_
    refine im_st (r_bipush (v := 8) dX9_driftOnce_29 rfl kB_8) ?_
    refine im_app (Gm := fun (v4 : Int32) => Go M_X9_driftOnce Q 0 0 31 [some (.ref 0), some (.int a1), none, none] [.int (8 : Int32), .int v4, .int (a1 - a1 / v2 * v2), .ref 22] (mk σ τ)) (fun v4 => ?_)
    refine im_st (r_irem dX9_driftOnce_31 rfl (by decide)) ?_
    refine im_bind (fun y5 hy5 => ?_)
    refine im_st (r_callV (as := [.int (a1 - a1 / v2 * v2), .int (v4 - v4 / (8 : Int32) * (8 : Int32))]) (r := some (.ref 23)) (kc1 := 0) (ks1 := 0) (st := []) (st1 := [.ref 23]) (e_X2_letGo 13 (a1 - a1 / v2 * v2) (v4 - v4 / (8 : Int32) * (8 : Int32)) σ τ isCt_13 y5 hy5) mv_X2_letGo lk_X9_217 ⟨by decide, by decide⟩ rfl (Nat.le_of_ble_eq_true rfl) (by decide) ⟨_, rfl, rfl⟩ ⟨by decide, by decide⟩ (Nat.le_of_ble_eq_true rfl) dX9_driftOnce_32 rfl rfl rfl rfl rfl) ?_
    refine im_st (r_astore_n (i := 2) (L1 := [some (.ref 0), some (.int a1), some (.ref 23), none]) dX9_driftOnce_35 rfl rfl (by decide) rfl) ?_
    refine im_st (r_bipush (v := 10) dX9_driftOnce_36 rfl kB_10) ?_
    refine im_st (r_iload_n (i := 1) dX9_driftOnce_38 rfl rfl rfl) ?_
    refine im_st (r_bipush (v := 32) dX9_driftOnce_39 rfl kB_32) ?_
    refine im_st (r_idiv dX9_driftOnce_41 rfl (by decide)) ?_
    refine im_st (r_bipush (v := 10) dX9_driftOnce_42 rfl kB_10) ?_
    refine im_app (Gm := fun (v6 : Int32) => Go M_X9_driftOnce Q 0 0 44 [some (.ref 0), some (.int a1), some (.ref 23), none] [.int (10 : Int32), .int v6, .int (10 : Int32)] (mk y5 τ)) (fun v6 => ?_)
    refine im_st (r_irem dX9_driftOnce_44 rfl (by decide)) ?_
    refine im_st (r_imul dX9_driftOnce_45 rfl) ?_
    refine im_st (r_iload_n (i := 1) dX9_driftOnce_46 rfl rfl rfl) ?_
    refine im_st (r_sipush (v := 320) dX9_driftOnce_47 rfl kS_320) ?_
    refine im_st (r_idiv dX9_driftOnce_50 rfl (by decide)) ?_
    refine im_st (r_bipush (v := 8) dX9_driftOnce_51 rfl kB_8) ?_
    refine im_app (Gm := fun (v7 : Int32) => Go M_X9_driftOnce Q 0 0 53 [some (.ref 0), some (.int a1), some (.ref 23), none] [.int (8 : Int32), .int v7, .int ((10 : Int32) * (v6 - v6 / (10 : Int32) * (10 : Int32)))] (mk y5 τ)) (fun v7 => ?_)
    refine im_st (r_irem dX9_driftOnce_53 rfl (by decide)) ?_
    refine im_st (r_iadd dX9_driftOnce_54 rfl) ?_
    refine im_app (Gm := fun (v8 : Int32) => Go M_X9_driftOnce Q 0 0 55 [some (.ref 0), some (.int a1), some (.ref 23), none] [.int v8] (mk y5 τ)) (fun v8 => ?_)
    refine im_st (r_istore_n (i := 3) (L1 := [some (.ref 0), some (.int a1), some (.ref 23), some (.int v8)]) dX9_driftOnce_55 rfl rfl (by decide) rfl) ?_
    refine im_st (r_aload_n (i := 2) dX9_driftOnce_56 rfl rfl rfl) ?_
    refine im_st (s_getI (tag := 1) (j := 0) dX9_driftOnce_57 rfl fl_X9_221 rfl (Nat.le_of_ble_eq_true rfl) rfl) ?_
    refine im_st (r_bipush (v := -4) dX9_driftOnce_60 rfl kB_m4) ?_
    refine im_seq (Gm := fun (j9 : Sg) => Go M_X9_driftOnce Q 0 0 88 [none, none, some (.ref 23), none] [] (mk j9 τ)) ?_ (fun j9 => ?_)
    · refine im_br (r_icmp_eq (tgt := 88) dX9_driftOnce_62 rfl (by decide)) (fun c10 => ?_) (fun c10 => ?_)
      · refine im_st (r_fgt (L1 := [none, none, some (.ref 23), none]) [0, 1, 3] rfl) ?_
        exact im_ret id
      · refine im_st (r_aload_n (i := 0) dX9_driftOnce_65 rfl rfl rfl) ?_
        refine im_st (s_getR (b := 13) (tag := 9) (j := 2) dX9_driftOnce_66 rfl fl_X9_25 rfl (Nat.le_of_ble_eq_true rfl) rfl rfl) ?_
        refine im_st (r_iload_n (i := 3) dX9_driftOnce_69 rfl rfl rfl) ?_
        refine im_bind (fun y11 hy11 => ?_)
        refine im_st (r_callV (as := [.int v8]) (r := some (.int y11)) (kc1 := 0) (ks1 := 0) (st := []) (st1 := [.int y11]) (e_X7_isFree 13 v8 y5 τ isSl_13 y11 hy11) mv_X7_isFree lk_X9_189 ⟨by decide, by decide⟩ rfl (Nat.le_of_ble_eq_true rfl) (by decide) ⟨_, rfl, rfl⟩ ⟨by decide, by decide⟩ (Nat.le_of_ble_eq_true rfl) dX9_driftOnce_70 rfl rfl rfl rfl rfl) ?_
        refine im_br (r_if_eq (tgt := 88) dX9_driftOnce_73 rfl (by decide)) (fun c12 => ?_) (fun c12 => ?_)
        · refine im_st (r_fgt (L1 := [none, none, some (.ref 23), none]) [0, 1, 3] rfl) ?_
          exact im_ret id
        · refine im_st (r_aload_n (i := 0) dX9_driftOnce_76 rfl rfl rfl) ?_
          refine im_st (s_getR (b := 13) (tag := 9) (j := 2) dX9_driftOnce_77 rfl fl_X9_25 rfl (Nat.le_of_ble_eq_true rfl) rfl rfl) ?_
          refine im_st (r_aload_n (i := 2) dX9_driftOnce_80 rfl rfl rfl) ?_
          refine im_st (s_getI (tag := 1) (j := 0) dX9_driftOnce_81 rfl fl_X9_221 rfl (Nat.le_of_ble_eq_true rfl) rfl) ?_
          refine im_st (r_iload_n (i := 3) dX9_driftOnce_84 rfl rfl rfl) ?_
          refine im_bind (fun y13 hy13 => ?_)
          refine im_st (r_callV (as := [.int (y5 23 0), .int v8]) (r := none) (kc1 := 0) (ks1 := 0) (st := []) (st1 := []) (e_X7_movePeg 13 (y5 23 0) v8 y5 τ isSl_13 y13 hy13) mv_X7_movePeg lk_X9_192 ⟨by decide, by decide⟩ rfl (Nat.le_of_ble_eq_true rfl) (by decide) ⟨_, rfl, rfl⟩ ⟨by decide, by decide⟩ (Nat.le_of_ble_eq_true rfl) dX9_driftOnce_85 rfl rfl rfl rfl rfl) ?_
          refine im_st (r_fgt (L1 := [none, none, some (.ref 23), none]) [0, 1, 3] rfl) ?_
          exact im_ret id
    refine im_st (r_aload_n (i := 2) dX9_driftOnce_88 rfl rfl rfl) ?_
    refine im_st (s_getI (tag := 1) (j := 1) dX9_driftOnce_89 rfl fl_X9_183 rfl (Nat.le_of_ble_eq_true rfl) rfl) ?_
    exact im_ret (fun q => g_iret rfl rfl rfl dX9_driftOnce_92 q)
  · refine im_st (r_bipush (v := -4) dX9_driftOnce_10 rfl kB_m4) ?_
    exact im_ret (fun q => g_iret rfl rfl rfl dX9_driftOnce_12 q)
theorem e_X9_driftOnce (a1 : Int32) (σ : Sg) (τ : Sl) (y : (Int32 × Sg)) (hy : f_X9_driftOnce a1 σ = some y) : EvD M_X9_driftOnce [.ref 0, .int a1] (mk σ τ) (some (.int y.1)) (mk y.2 τ) := EvM.of (by decide +kernel) (Nat.le_of_ble_eq_true rfl) (i_X9_driftOnce a1 σ τ _ y hy ⟨rfl, rfl⟩)
def M_X9_drift : Ms := (yX9_drift, cX9_drift, 9, some .int, 5, 108, 0, 0)
theorem mv_X9_drift : MV M_X9_drift 3 := ⟨⟨q901, q1, by decide, by decide, by decide +kernel⟩, q899, q900⟩
def b_X9_drift_56 (a2 : Int32) : (Int32 × Int32 × Int32 × Int32 × Sg) → Option ((Int32 × Int32 × Int32 × Int32 × Sg) ⊕ (Int32 × Int32 × Int32 × Int32 × Sg)) := fun (s6 : (Int32 × Int32 × Int32 × Int32 × Sg)) =>
  if a2 ≤ s6.2.2.2.1 then
    some (.inr (s6.1, s6.2.1, s6.2.2.1, s6.2.2.2.1, s6.2.2.2.2))
  else
    app ((s6.1 * (1103515245 : Int32)) + (12345 : Int32)) fun (v8 : Int32) =>
    (f_X9_driftOnce ((ushr v8 (16 : Int32)) &&& (32767 : Int32)) s6.2.2.2.2).bind fun (y9 : (Int32 × Sg)) =>
    app (if y9.1 = (-4 : Int32) then
      s6.2.1
    else
      (s6.2.1 + 1)) fun (j10 : Int32) =>
    app (if y9.1 = 0 then
      (s6.2.2.1 + 1)
    else
      s6.2.2.1) fun (j12 : Int32) =>
    some (.inl (v8, j10, j12, (s6.2.2.2.1 + 1), y9.2))
def f_X9_drift (a1 : Int32) (a2 : Int32) (a3 : Int32) (σ : Sg) : Option (Int32 × Sg) :=
  if a2 < (1 : Int32) then
    some ((-1 : Int32), σ)
  else
    if (60 : Int32) < a2 then
      some ((-1 : Int32), σ)
    else
      if (f_X9_isHalf a3) = 0 then
        some ((-1 : Int32), σ)
      else
        if (σ 1 7) = 0 then
          some ((-2 : Int32), σ)
        else
          app (f_X7_copyFrom 13 1 σ) fun (σ5 : Sg) =>
          (wh (b_X9_drift_56 a2) 4096 (a1, (0 : Int32), (0 : Int32), (0 : Int32), σ5)).bind fun (e14 : (Int32 × Int32 × Int32 × Int32 × Sg)) =>
          if a3 = 0 then
            some (e14.2.1, e14.2.2.2.2)
          else
            some (e14.2.2.1, e14.2.2.2.2)
set_option maxHeartbeats 4000000 in
set_option maxRecDepth 20000 in
theorem i_X9_drift (a1 : Int32) (a2 : Int32) (a3 : Int32) (σ : Sg) (τ : Sl) (Q : Option Value → Hp → Prop) : Imp (f_X9_drift a1 a2 a3 σ) (fun (y : (Int32 × Sg)) => Q (some (.int y.1)) (mk y.2 τ)) (Go M_X9_drift Q 0 0 0 [some (.ref 0), some (.int a1), some (.int a2), some (.int a3), none, none, none, none, none] [] (mk σ τ)) := by
  unfold f_X9_drift
  refine im_st (r_iload_n (i := 2) dX9_drift_0 rfl rfl rfl) ?_
  refine im_st (r_iconst (v := 1) dX9_drift_1 rfl kI_1) ?_
  refine im_br (r_icmp_lt (tgt := 18) dX9_drift_2 rfl (by decide)) (fun c1 => ?_) (fun c1 => ?_)
  · refine im_st (r_iconst (v := -1) dX9_drift_18 rfl kI_m1) ?_
    exact im_ret (fun q => g_iret rfl rfl rfl dX9_drift_19 q)
  · refine im_st (r_iload_n (i := 2) dX9_drift_5 rfl rfl rfl) ?_
    refine im_st (r_bipush (v := 60) dX9_drift_6 rfl kB_60) ?_
    refine im_br (r_icmp_gt (tgt := 18) dX9_drift_8 rfl (by decide)) (fun c2 => ?_) (fun c2 => ?_)
    · refine im_st (r_iconst (v := -1) dX9_drift_18 rfl kI_m1) ?_
      exact im_ret (fun q => g_iret rfl rfl rfl dX9_drift_19 q)
    · refine im_st (r_iload_n (i := 3) dX9_drift_11 rfl rfl rfl) ?_
      refine im_st (r_callS (as := [.int a3]) (r := some (.int (f_X9_isHalf a3))) (kc1 := 0) (ks1 := 0) (st := []) (st1 := [.int (f_X9_isHalf a3)]) (e_X9_isHalf a3 σ τ) ms_X9_isHalf lk_X9_255 ⟨by decide, by decide⟩ ⟨by decide, by decide⟩ (Nat.le_of_ble_eq_true rfl) dX9_drift_12 rfl rfl rfl rfl rfl) ?_
      refine im_br (r_if_ne (tgt := 20) dX9_drift_15 rfl (by decide)) (fun c3 => ?_) (fun c3 => ?_)
      · refine im_st (r_iconst (v := -1) dX9_drift_18 rfl kI_m1) ?_
        exact im_ret (fun q => g_iret rfl rfl rfl dX9_drift_19 q)
      · refine im_st (r_aload_n (i := 0) dX9_drift_20 rfl rfl rfl) ?_
        refine im_st (s_getR (b := 1) (tag := 9) (j := 0) dX9_drift_21 rfl fl_X9_10 rfl (Nat.le_of_ble_eq_true rfl) rfl rfl) ?_
        refine im_st (s_getI (tag := 7) (j := 7) dX9_drift_24 rfl fl_X9_121 rfl (Nat.le_of_ble_eq_true rfl) rfl) ?_
        refine im_br (r_if_ne (tgt := 33) dX9_drift_27 rfl (by decide)) (fun c4 => ?_) (fun c4 => ?_)
        · refine im_st (r_bipush (v := -2) dX9_drift_30 rfl kB_m2) ?_
          exact im_ret (fun q => g_iret rfl rfl rfl dX9_drift_32 q)
        · refine im_st (r_aload_n (i := 0) dX9_drift_33 rfl rfl rfl) ?_
          refine im_st (s_getR (b := 13) (tag := 9) (j := 2) dX9_drift_34 rfl fl_X9_25 rfl (Nat.le_of_ble_eq_true rfl) rfl rfl) ?_
          refine im_st (r_aload_n (i := 0) dX9_drift_37 rfl rfl rfl) ?_
          refine im_st (s_getR (b := 1) (tag := 9) (j := 0) dX9_drift_38 rfl fl_X9_10 rfl (Nat.le_of_ble_eq_true rfl) rfl rfl) ?_
          refine im_st (r_callV (as := [.ref 1]) (r := none) (kc1 := 0) (ks1 := 0) (st := []) (st1 := []) (e_X7_copyFrom 13 1 σ τ isSl_13 isSl_1) mv_X7_copyFrom lk_X9_109 ⟨by decide, by decide⟩ rfl (Nat.le_of_ble_eq_true rfl) (by decide) ⟨_, rfl, rfl⟩ ⟨by decide, by decide⟩ (Nat.le_of_ble_eq_true rfl) dX9_drift_41 rfl rfl rfl rfl rfl) ?_
          refine im_st (r_iload_n (i := 1) dX9_drift_44 rfl rfl rfl) ?_
          refine im_st (r_istore (i := 4) (L1 := [some (.ref 0), some (.int a1), some (.int a2), some (.int a3), some (.int a1), none, none, none, none]) dX9_drift_45 rfl (by decide) rfl) ?_
          refine im_st (r_iconst (v := 0) dX9_drift_47 rfl kI_0) ?_
          refine im_st (r_istore (i := 5) (L1 := [some (.ref 0), some (.int a1), some (.int a2), some (.int a3), some (.int a1), some (.int (0 : Int32)), none, none, none]) dX9_drift_48 rfl (by decide) rfl) ?_
          refine im_st (r_iconst (v := 0) dX9_drift_50 rfl kI_0) ?_
          refine im_st (r_istore (i := 6) (L1 := [some (.ref 0), some (.int a1), some (.int a2), some (.int a3), some (.int a1), some (.int (0 : Int32)), some (.int (0 : Int32)), none, none]) dX9_drift_51 rfl (by decide) rfl) ?_
          refine im_st (r_iconst (v := 0) dX9_drift_53 rfl kI_0) ?_
          refine im_st (r_istore (i := 7) (L1 := [some (.ref 0), some (.int a1), some (.int a2), some (.int a3), some (.int a1), some (.int (0 : Int32)), some (.int (0 : Int32)), some (.int (0 : Int32)), none]) dX9_drift_54 rfl (by decide) rfl) ?_
          refine im_app (Gm := fun (σ5 : Sg) => Go M_X9_drift Q 0 0 56 [some (.ref 0), some (.int a1), some (.int a2), some (.int a3), some (.int a1), some (.int (0 : Int32)), some (.int (0 : Int32)), some (.int (0 : Int32)), none] [] (mk σ5 τ)) (fun σ5 => ?_)
          refine im_st (r_fgt (L1 := [some (.ref 0), none, some (.int a2), some (.int a3), some (.int a1), some (.int (0 : Int32)), some (.int (0 : Int32)), some (.int (0 : Int32)), none]) [1] rfl) ?_
          refine im_seq (Gm := fun (e14 : (Int32 × Int32 × Int32 × Int32 × Sg)) => Go M_X9_drift Q 0 0 113 [none, none, none, some (.int a3), none, some (.int e14.2.1), some (.int e14.2.2.1), none, none] [] (mk e14.2.2.2.2 τ)) ?_ (fun e14 => ?_)
          · refine im_wh (G := fun (s6 : (Int32 × Int32 × Int32 × Int32 × Sg)) => Go M_X9_drift Q 0 0 56 [some (.ref 0), none, some (.int a2), some (.int a3), some (.int s6.1), some (.int s6.2.1), some (.int s6.2.2.1), some (.int s6.2.2.2.1), none] [] (mk s6.2.2.2.2 τ)) (fun s6 => ?_) _ _
            unfold b_X9_drift_56
            refine im_st (r_iload (i := 7) dX9_drift_56 rfl rfl) ?_
            refine im_st (r_iload_n (i := 2) dX9_drift_58 rfl rfl rfl) ?_
            refine im_br (r_icmp_ge (tgt := 113) dX9_drift_59 rfl (by decide)) (fun c7 => ?_) (fun c7 => ?_)
            · refine im_st (r_fgt (L1 := [none, none, none, some (.int a3), none, some (.int s6.2.1), some (.int s6.2.2.1), none, none]) [0, 2, 4, 7] rfl) ?_
              exact im_ret id
            · refine im_st (r_iload (i := 4) dX9_drift_62 rfl rfl) ?_
              refine im_st (r_ldcw (v := 1103515245) dX9_drift_64 rfl q902) ?_
              refine im_st (r_imul dX9_drift_67 rfl) ?_
              refine im_st (r_sipush (v := 12345) dX9_drift_68 rfl kS_12345) ?_
              refine im_st (r_iadd dX9_drift_71 rfl) ?_
              refine im_app (Gm := fun (v8 : Int32) => Go M_X9_drift Q 0 0 72 [some (.ref 0), none, some (.int a2), some (.int a3), some (.int s6.1), some (.int s6.2.1), some (.int s6.2.2.1), some (.int s6.2.2.2.1), none] [.int v8] (mk s6.2.2.2.2 τ)) (fun v8 => ?_)
              refine im_st (r_istore (i := 4) (L1 := [some (.ref 0), none, some (.int a2), some (.int a3), some (.int v8), some (.int s6.2.1), some (.int s6.2.2.1), some (.int s6.2.2.2.1), none]) dX9_drift_72 rfl (by decide) rfl) ?_
              refine im_st (r_aload_n (i := 0) dX9_drift_74 rfl rfl rfl) ?_
              refine im_st (r_iload (i := 4) dX9_drift_75 rfl rfl) ?_
              refine im_st (r_bipush (v := 16) dX9_drift_77 rfl kB_16) ?_
              refine im_st (r_iushr (v := (ushr v8 (16 : Int32))) dX9_drift_79 rfl rfl) ?_
              refine im_st (r_sipush (v := 32767) dX9_drift_80 rfl kS_32767) ?_
              refine im_st (r_iand dX9_drift_83 rfl) ?_
              refine im_bind (fun y9 hy9 => ?_)
              refine im_st (r_callV (as := [.int ((ushr v8 (16 : Int32)) &&& (32767 : Int32))]) (r := some (.int y9.1)) (kc1 := 0) (ks1 := 0) (st := []) (st1 := [.int y9.1]) (e_X9_driftOnce ((ushr v8 (16 : Int32)) &&& (32767 : Int32)) s6.2.2.2.2 τ y9 hy9) mv_X9_driftOnce lk_X9_309 ⟨by decide, by decide⟩ rfl (Nat.le_of_ble_eq_true rfl) (by decide) ⟨_, rfl, rfl⟩ ⟨by decide, by decide⟩ (Nat.le_of_ble_eq_true rfl) dX9_drift_84 rfl rfl rfl rfl rfl) ?_
              refine im_st (r_istore (i := 8) (L1 := [some (.ref 0), none, some (.int a2), some (.int a3), some (.int v8), some (.int s6.2.1), some (.int s6.2.2.1), some (.int s6.2.2.2.1), some (.int y9.1)]) dX9_drift_87 rfl (by decide) rfl) ?_
              refine im_st (r_iload (i := 8) dX9_drift_89 rfl rfl) ?_
              refine im_st (r_bipush (v := -4) dX9_drift_91 rfl kB_m4) ?_
              refine im_seqT (Gm := fun (j10 : Int32) => Go M_X9_drift Q 0 0 99 [some (.ref 0), none, some (.int a2), some (.int a3), some (.int v8), some (.int j10), some (.int s6.2.2.1), some (.int s6.2.2.2.1), some (.int y9.1)] [] (mk y9.2 τ)) ?_ (fun j10 => ?_)
              · refine im_brS (r_icmp_eq (tgt := 99) dX9_drift_93 rfl (by decide)) (fun c11 => ?_) (fun c11 => ?_)
                · exact im_ret id
                · refine im_st (r_iinc (i := 5) (x := s6.2.1) (v := (s6.2.1 + 1)) (L1 := [some (.ref 0), none, some (.int a2), some (.int a3), some (.int v8), some (.int (s6.2.1 + 1)), some (.int s6.2.2.1), some (.int s6.2.2.2.1), some (.int y9.1)]) dX9_drift_96 rfl rfl rfl (by decide) rfl) ?_
                  exact im_ret id
              refine im_st (r_iload (i := 8) dX9_drift_99 rfl rfl) ?_
              refine im_seqT (Gm := fun (j12 : Int32) => Go M_X9_drift Q 0 0 107 [some (.ref 0), none, some (.int a2), some (.int a3), some (.int v8), some (.int j10), some (.int j12), some (.int s6.2.2.2.1), none] [] (mk y9.2 τ)) ?_ (fun j12 => ?_)
              · refine im_brS (r_if_ne (tgt := 107) dX9_drift_101 rfl (by decide)) (fun c13 => ?_) (fun c13 => ?_)
                · refine im_st (r_iinc (i := 6) (x := s6.2.2.1) (v := (s6.2.2.1 + 1)) (L1 := [some (.ref 0), none, some (.int a2), some (.int a3), some (.int v8), some (.int j10), some (.int (s6.2.2.1 + 1)), some (.int s6.2.2.2.1), some (.int y9.1)]) dX9_drift_104 rfl rfl rfl (by decide) rfl) ?_
                  refine im_st (r_fgt (L1 := [some (.ref 0), none, some (.int a2), some (.int a3), some (.int v8), some (.int j10), some (.int (s6.2.2.1 + 1)), some (.int s6.2.2.2.1), none]) [8] rfl) ?_
                  exact im_ret id
                · refine im_st (r_fgt (L1 := [some (.ref 0), none, some (.int a2), some (.int a3), some (.int v8), some (.int j10), some (.int s6.2.2.1), some (.int s6.2.2.2.1), none]) [8] rfl) ?_
                  exact im_ret id
              refine im_st (r_iinc (i := 7) (x := s6.2.2.2.1) (v := (s6.2.2.2.1 + 1)) (L1 := [some (.ref 0), none, some (.int a2), some (.int a3), some (.int v8), some (.int j10), some (.int j12), some (.int (s6.2.2.2.1 + 1)), none]) dX9_drift_107 rfl rfl rfl (by decide) rfl) ?_
              refine im_st (r_goto (pc1 := 56) dX9_drift_110 (by decide)) ?_
              exact im_ret id
          refine im_st (r_iload_n (i := 3) dX9_drift_113 rfl rfl rfl) ?_
          refine im_br (r_if_ne (tgt := 122) dX9_drift_114 rfl (by decide)) (fun c15 => ?_) (fun c15 => ?_)
          · refine im_st (r_iload (i := 5) dX9_drift_117 rfl rfl) ?_
            refine im_st (r_goto (pc1 := 124) dX9_drift_119 (by decide)) ?_
            exact im_ret (fun q => g_iret rfl rfl rfl dX9_drift_124 q)
          · refine im_st (r_iload (i := 6) dX9_drift_122 rfl rfl) ?_
            exact im_ret (fun q => g_iret rfl rfl rfl dX9_drift_124 q)
theorem e_X9_drift (a1 : Int32) (a2 : Int32) (a3 : Int32) (σ : Sg) (τ : Sl) (y : (Int32 × Sg)) (hy : f_X9_drift a1 a2 a3 σ = some y) : EvD M_X9_drift [.ref 0, .int a1, .int a2, .int a3] (mk σ τ) (some (.int y.1)) (mk y.2 τ) := EvM.of (by decide +kernel) (Nat.le_of_ble_eq_true rfl) (i_X9_drift a1 a2 a3 σ τ _ y hy ⟨rfl, rfl⟩)
def M_X9_isImage : Ms := (yX9_isImage, cX9_isImage, 1, some .boolean, 0, 0, 0, 0)
theorem ms_X9_isImage : MS M_X9_isImage 1 := ⟨⟨q913, q1, by decide, by decide, by decide +kernel⟩, q912⟩
def f_X9_isImage (a0 : Int32) : Int32 :=
  if a0 < 0 then
    (0 : Int32)
  else
    if (2 : Int32) ≤ a0 then
      (0 : Int32)
    else
      (1 : Int32)
theorem z_X9_isImage (a0 : Int32) : isB (f_X9_isImage a0) = true := by
  unfold f_X9_isImage
  (repeat' split) <;> first | rfl
set_option maxHeartbeats 4000000 in
set_option maxRecDepth 20000 in
theorem i_X9_isImage (a0 : Int32) (σ : Sg) (τ : Sl) (Q : Option Value → Hp → Prop) : Imp (some (f_X9_isImage a0)) (fun (y : Int32) => Q (some (.int y)) (mk σ τ)) (Go M_X9_isImage Q 0 0 0 [some (.int a0)] [] (mk σ τ)) := by
  unfold f_X9_isImage
  refine im_st (r_iload_n (i := 0) dX9_isImage_0 rfl rfl rfl) ?_
  refine im_brS (r_if_lt (tgt := 13) dX9_isImage_1 rfl (by decide)) (fun c1 => ?_) (fun c1 => ?_)
  · refine im_st (r_iconst (v := 0) dX9_isImage_13 rfl kI_0) ?_
    exact im_ret (fun q => g_zret (ty := .boolean) rfl rfl rfl rfl dX9_isImage_14 q)
  · refine im_st (r_iload_n (i := 0) dX9_isImage_4 rfl rfl rfl) ?_
    refine im_st (r_iconst (v := 2) dX9_isImage_5 rfl kI_2) ?_
    refine im_brS (r_icmp_ge (tgt := 13) dX9_isImage_6 rfl (by decide)) (fun c2 => ?_) (fun c2 => ?_)
    · refine im_st (r_iconst (v := 0) dX9_isImage_13 rfl kI_0) ?_
      exact im_ret (fun q => g_zret (ty := .boolean) rfl rfl rfl rfl dX9_isImage_14 q)
    · refine im_st (r_iconst (v := 1) dX9_isImage_9 rfl kI_1) ?_
      refine im_st (r_goto (pc1 := 14) dX9_isImage_10 (by decide)) ?_
      exact im_ret (fun q => g_zret (ty := .boolean) rfl rfl rfl rfl dX9_isImage_14 q)
theorem e_X9_isImage (a0 : Int32) (σ : Sg) (τ : Sl) : EvD M_X9_isImage [.int a0] (mk σ τ) (some (.int (f_X9_isImage a0))) (mk σ τ) := EvM.of (by decide +kernel) (Nat.le_of_ble_eq_true rfl) (i_X9_isImage a0 σ τ _ _ rfl ⟨rfl, rfl⟩)
def M_X9_keep : Ms := (yX9_keep, cX9_keep, 3, some .int, 2, 39, 0, 0)
theorem mv_X9_keep : MV M_X9_keep 1 := ⟨⟨q910, q1, by decide, by decide, by decide +kernel⟩, q908, q909⟩
def f_X9_keep (a1 : Int32) (σ : Sg) : Option (Int32 × Sg) :=
  if (f_X9_isImage a1) = 0 then
    some ((-1 : Int32), σ)
  else
    if inR a1 2 then
    app (if (σ 35 a1.toNatClampNeg) = 0 then
      (0 : Int32)
    else
      (1 : Int32)) fun (j3 : Int32) =>
    if inR a1 2 then
    app (f_X7_copyFrom (36 + 9 * a1.toNatClampNeg) 1 σ) fun (σ6 : Sg) =>
    if inR a1 2 then
    some (j3, (up2 σ6 35 a1.toNatClampNeg (1 : Int32)))
    else none
    else none
    else none
set_option maxHeartbeats 4000000 in
set_option maxRecDepth 20000 in
theorem i_X9_keep (a1 : Int32) (σ : Sg) (τ : Sl) (Q : Option Value → Hp → Prop) : Imp (f_X9_keep a1 σ) (fun (y : (Int32 × Sg)) => Q (some (.int y.1)) (mk y.2 τ)) (Go M_X9_keep Q 0 0 0 [some (.ref 0), some (.int a1), none] [] (mk σ τ)) := by
  unfold f_X9_keep
  refine im_st (r_iload_n (i := 1) dX9_keep_0 rfl rfl rfl) ?_
  refine im_st (r_callS (as := [.int a1]) (r := some (.int (f_X9_isImage a1))) (kc1 := 0) (ks1 := 0) (st := []) (st1 := [.int (f_X9_isImage a1)]) (e_X9_isImage a1 σ τ) ms_X9_isImage lk_X9_312 ⟨by decide, by decide⟩ ⟨by decide, by decide⟩ (Nat.le_of_ble_eq_true rfl) dX9_keep_1 rfl rfl rfl rfl rfl) ?_
  refine im_br (r_if_ne (tgt := 9) dX9_keep_4 rfl (by decide)) (fun c1 => ?_) (fun c1 => ?_)
  · refine im_st (r_iconst (v := -1) dX9_keep_7 rfl kI_m1) ?_
    exact im_ret (fun q => g_iret rfl rfl rfl dX9_keep_8 q)
  · refine im_st (r_aload_n (i := 0) dX9_keep_9 rfl rfl rfl) ?_
    refine im_st (s_getR (b := 35) (tag := 9) (j := 8) dX9_keep_10 rfl fl_X9_58 rfl (Nat.le_of_ble_eq_true rfl) rfl rfl) ?_
    refine im_st (r_iload_n (i := 1) dX9_keep_13 rfl rfl rfl) ?_
    refine im_grd (fun g2 => ?_)
    refine im_st (s_zaload dX9_keep_14 rfl rfl (Nat.le_of_ble_eq_true rfl) (inR_in g2)) ?_
    refine im_seqT (Gm := fun (j3 : Int32) => Go M_X9_keep Q 0 0 23 [some (.ref 0), some (.int a1), none] [.int j3] (mk σ τ)) ?_ (fun j3 => ?_)
    · refine im_brS (r_if_eq (tgt := 22) dX9_keep_15 rfl (by decide)) (fun c4 => ?_) (fun c4 => ?_)
      · refine im_st (r_iconst (v := 0) dX9_keep_22 rfl kI_0) ?_
        exact im_ret id
      · refine im_st (r_iconst (v := 1) dX9_keep_18 rfl kI_1) ?_
        refine im_st (r_goto (pc1 := 23) dX9_keep_19 (by decide)) ?_
        exact im_ret id
    refine im_st (r_istore_n (i := 2) (L1 := [some (.ref 0), some (.int a1), some (.int j3)]) dX9_keep_23 rfl rfl (by decide) rfl) ?_
    refine im_st (r_aload_n (i := 0) dX9_keep_24 rfl rfl rfl) ?_
    refine im_st (s_getR (b := 34) (tag := 9) (j := 7) dX9_keep_25 rfl fl_X9_54 rfl (Nat.le_of_ble_eq_true rfl) rfl rfl) ?_
    refine im_st (r_iload_n (i := 1) dX9_keep_28 rfl rfl rfl) ?_
    refine im_grd (fun g5 => ?_)
    refine im_st (s_aaload14 (b := (36 + 9 * a1.toNatClampNeg)) dX9_keep_29 rfl rfl (Nat.le_of_ble_eq_true rfl) (inR_in g5) (img_rf (inR_in g5))) ?_
    refine im_st (r_aload_n (i := 0) dX9_keep_30 rfl rfl rfl) ?_
    refine im_st (s_getR (b := 1) (tag := 9) (j := 0) dX9_keep_31 rfl fl_X9_10 rfl (Nat.le_of_ble_eq_true rfl) rfl rfl) ?_
    refine im_st (r_callV (as := [.ref 1]) (r := none) (kc1 := 0) (ks1 := 0) (st := []) (st1 := []) (e_X7_copyFrom (36 + 9 * a1.toNatClampNeg) 1 σ τ (img_sl (inR_in g5)) isSl_1) mv_X7_copyFrom lk_X9_109 ⟨by decide, by decide⟩ (sl_sh (img_sl (inR_in g5))) (sl_lt (img_sl (inR_in g5))) (by decide) ⟨_, rfl, rfl⟩ ⟨by decide, by decide⟩ (Nat.le_of_ble_eq_true rfl) dX9_keep_34 rfl rfl rfl rfl rfl) ?_
    refine im_st (r_aload_n (i := 0) dX9_keep_37 rfl rfl rfl) ?_
    refine im_st (s_getR (b := 35) (tag := 9) (j := 8) dX9_keep_38 rfl fl_X9_58 rfl (Nat.le_of_ble_eq_true rfl) rfl rfl) ?_
    refine im_st (r_iload_n (i := 1) dX9_keep_41 rfl rfl rfl) ?_
    refine im_st (r_iconst (v := 1) dX9_keep_42 rfl kI_1) ?_
    refine im_app (Gm := fun (σ6 : Sg) => Go M_X9_keep Q 0 0 43 [some (.ref 0), some (.int a1), some (.int j3)] [.int (1 : Int32), .int a1, .ref 35] (mk σ6 τ)) (fun σ6 => ?_)
    refine im_grd (fun g7 => ?_)
    refine im_st (s_zastore dX9_keep_43 rfl rfl (Nat.le_of_ble_eq_true rfl) (inR_in g7) rfl) ?_
    refine im_st (r_iload_n (i := 2) dX9_keep_44 rfl rfl rfl) ?_
    exact im_ret (fun q => g_iret rfl rfl rfl dX9_keep_45 q)
theorem e_X9_keep (a1 : Int32) (σ : Sg) (τ : Sl) (y : (Int32 × Sg)) (hy : f_X9_keep a1 σ = some y) : EvD M_X9_keep [.ref 0, .int a1] (mk σ τ) (some (.int y.1)) (mk y.2 τ) := EvM.of (by decide +kernel) (Nat.le_of_ble_eq_true rfl) (i_X9_keep a1 σ τ _ y hy ⟨rfl, rfl⟩)
def M_X9_back : Ms := (yX9_back, cX9_back, 2, some .int, 5, 107, 0, 0)
theorem mv_X9_back : MV M_X9_back 1 := ⟨⟨q917, q1, by decide, by decide, by decide +kernel⟩, q915, q916⟩
def f_X9_back (a1 : Int32) (σ : Sg) : Option (Int32 × Sg) :=
  if (f_X9_isImage a1) = 0 then
    some ((-1 : Int32), σ)
  else
    if inR a1 2 then
    if (σ 35 a1.toNatClampNeg) = 0 then
      some ((-2 : Int32), σ)
    else
      if inR a1 2 then
      app (f_X7_copyFrom 1 (36 + 9 * a1.toNatClampNeg) σ) fun (σ5 : Sg) =>
      (f_X2_decided 1 σ5).bind fun (y6 : (Int32 × Sg)) =>
      some ((f_J6_bitCount_0f7a4 y6.1), y6.2)
      else none
    else none
set_option maxHeartbeats 4000000 in
set_option maxRecDepth 20000 in
theorem i_X9_back (a1 : Int32) (σ : Sg) (τ : Sl) (Q : Option Value → Hp → Prop) : Imp (f_X9_back a1 σ) (fun (y : (Int32 × Sg)) => Q (some (.int y.1)) (mk y.2 τ)) (Go M_X9_back Q 0 0 0 [some (.ref 0), some (.int a1)] [] (mk σ τ)) := by
  unfold f_X9_back
  refine im_st (r_iload_n (i := 1) dX9_back_0 rfl rfl rfl) ?_
  refine im_st (r_callS (as := [.int a1]) (r := some (.int (f_X9_isImage a1))) (kc1 := 0) (ks1 := 0) (st := []) (st1 := [.int (f_X9_isImage a1)]) (e_X9_isImage a1 σ τ) ms_X9_isImage lk_X9_312 ⟨by decide, by decide⟩ ⟨by decide, by decide⟩ (Nat.le_of_ble_eq_true rfl) dX9_back_1 rfl rfl rfl rfl rfl) ?_
  refine im_br (r_if_ne (tgt := 9) dX9_back_4 rfl (by decide)) (fun c1 => ?_) (fun c1 => ?_)
  · refine im_st (r_iconst (v := -1) dX9_back_7 rfl kI_m1) ?_
    exact im_ret (fun q => g_iret rfl rfl rfl dX9_back_8 q)
  · refine im_st (r_aload_n (i := 0) dX9_back_9 rfl rfl rfl) ?_
    refine im_st (s_getR (b := 35) (tag := 9) (j := 8) dX9_back_10 rfl fl_X9_58 rfl (Nat.le_of_ble_eq_true rfl) rfl rfl) ?_
    refine im_st (r_iload_n (i := 1) dX9_back_13 rfl rfl rfl) ?_
    refine im_grd (fun g2 => ?_)
    refine im_st (s_zaload dX9_back_14 rfl rfl (Nat.le_of_ble_eq_true rfl) (inR_in g2)) ?_
    refine im_br (r_if_ne (tgt := 21) dX9_back_15 rfl (by decide)) (fun c3 => ?_) (fun c3 => ?_)
    · refine im_st (r_bipush (v := -2) dX9_back_18 rfl kB_m2) ?_
      exact im_ret (fun q => g_iret rfl rfl rfl dX9_back_20 q)
    · refine im_st (r_aload_n (i := 0) dX9_back_21 rfl rfl rfl) ?_
      refine im_st (s_getR (b := 1) (tag := 9) (j := 0) dX9_back_22 rfl fl_X9_10 rfl (Nat.le_of_ble_eq_true rfl) rfl rfl) ?_
      refine im_st (r_aload_n (i := 0) dX9_back_25 rfl rfl rfl) ?_
      refine im_st (s_getR (b := 34) (tag := 9) (j := 7) dX9_back_26 rfl fl_X9_54 rfl (Nat.le_of_ble_eq_true rfl) rfl rfl) ?_
      refine im_st (r_iload_n (i := 1) dX9_back_29 rfl rfl rfl) ?_
      refine im_grd (fun g4 => ?_)
      refine im_st (s_aaload14 (b := (36 + 9 * a1.toNatClampNeg)) dX9_back_30 rfl rfl (Nat.le_of_ble_eq_true rfl) (inR_in g4) (img_rf (inR_in g4))) ?_
      refine im_st (r_callV (as := [.ref (36 + 9 * a1.toNatClampNeg)]) (r := none) (kc1 := 0) (ks1 := 0) (st := []) (st1 := []) (e_X7_copyFrom 1 (36 + 9 * a1.toNatClampNeg) σ τ isSl_1 (img_sl (inR_in g4))) mv_X7_copyFrom lk_X9_109 ⟨by decide, by decide⟩ rfl (Nat.le_of_ble_eq_true rfl) (by decide) ⟨_, rfl, rfl⟩ ⟨by decide, by decide⟩ (Nat.le_of_ble_eq_true rfl) dX9_back_31 rfl rfl rfl rfl rfl) ?_
      refine im_st (r_aload_n (i := 0) dX9_back_34 rfl rfl rfl) ?_
      refine im_st (s_getR (b := 10) (tag := 9) (j := 1) dX9_back_35 rfl fl_X9_21 rfl (Nat.le_of_ble_eq_true rfl) rfl rfl) ?_
      refine im_app (Gm := fun (σ5 : Sg) => Go M_X9_back Q 0 0 38 [some (.ref 0), some (.int a1)] [.ref 10] (mk σ5 τ)) (fun σ5 => ?_)
      refine im_bind (fun y6 hy6 => ?_)
      refine im_st (r_callV (as := []) (r := some (.int y6.1)) (kc1 := 0) (ks1 := 0) (st := []) (st1 := [.int y6.1]) (e_X2_decided 1 σ5 τ isCt_1 y6 hy6) mv_X2_decided lk_X9_127 ⟨by decide, by decide⟩ rfl (Nat.le_of_ble_eq_true rfl) (by decide) ⟨_, rfl, rfl⟩ ⟨by decide, by decide⟩ (Nat.le_of_ble_eq_true rfl) dX9_back_38 rfl rfl rfl rfl rfl) ?_
      refine im_st (r_callS (as := [.int y6.1]) (r := some (.int (f_J6_bitCount_0f7a4 y6.1))) (kc1 := 0) (ks1 := 0) (st := []) (st1 := [.int (f_J6_bitCount_0f7a4 y6.1)]) (e_J6_bitCount_0f7a4 y6.1 y6.2 τ) ms_J6_bitCount_0f7a4 lk_X9_243 ⟨by decide, by decide⟩ ⟨by decide, by decide⟩ (Nat.le_of_ble_eq_true rfl) dX9_back_41 rfl rfl rfl rfl rfl) ?_
      exact im_ret (fun q => g_iret rfl rfl rfl dX9_back_44 q)
theorem e_X9_back (a1 : Int32) (σ : Sg) (τ : Sl) (y : (Int32 × Sg)) (hy : f_X9_back a1 σ = some y) : EvD M_X9_back [.ref 0, .int a1] (mk σ τ) (some (.int y.1)) (mk y.2 τ) := EvM.of (by decide +kernel) (Nat.le_of_ble_eq_true rfl) (i_X9_back a1 σ τ _ y hy ⟨rfl, rfl⟩)
def M_X9_isLane : Ms := (yX9_isLane, cX9_isLane, 1, some .boolean, 0, 0, 0, 0)
theorem ms_X9_isLane : MS M_X9_isLane 1 := ⟨⟨q927, q1, by decide, by decide, by decide +kernel⟩, q926⟩
def f_X9_isLane (a0 : Int32) : Int32 :=
  if a0 < 0 then
    (0 : Int32)
  else
    if (3 : Int32) ≤ a0 then
      (0 : Int32)
    else
      (1 : Int32)
theorem z_X9_isLane (a0 : Int32) : isB (f_X9_isLane a0) = true := by
  unfold f_X9_isLane
  (repeat' split) <;> first | rfl
set_option maxHeartbeats 4000000 in
set_option maxRecDepth 20000 in
theorem i_X9_isLane (a0 : Int32) (σ : Sg) (τ : Sl) (Q : Option Value → Hp → Prop) : Imp (some (f_X9_isLane a0)) (fun (y : Int32) => Q (some (.int y)) (mk σ τ)) (Go M_X9_isLane Q 0 0 0 [some (.int a0)] [] (mk σ τ)) := by
  unfold f_X9_isLane
  refine im_st (r_iload_n (i := 0) dX9_isLane_0 rfl rfl rfl) ?_
  refine im_brS (r_if_lt (tgt := 13) dX9_isLane_1 rfl (by decide)) (fun c1 => ?_) (fun c1 => ?_)
  · refine im_st (r_iconst (v := 0) dX9_isLane_13 rfl kI_0) ?_
    exact im_ret (fun q => g_zret (ty := .boolean) rfl rfl rfl rfl dX9_isLane_14 q)
  · refine im_st (r_iload_n (i := 0) dX9_isLane_4 rfl rfl rfl) ?_
    refine im_st (r_iconst (v := 3) dX9_isLane_5 rfl kI_3) ?_
    refine im_brS (r_icmp_ge (tgt := 13) dX9_isLane_6 rfl (by decide)) (fun c2 => ?_) (fun c2 => ?_)
    · refine im_st (r_iconst (v := 0) dX9_isLane_13 rfl kI_0) ?_
      exact im_ret (fun q => g_zret (ty := .boolean) rfl rfl rfl rfl dX9_isLane_14 q)
    · refine im_st (r_iconst (v := 1) dX9_isLane_9 rfl kI_1) ?_
      refine im_st (r_goto (pc1 := 14) dX9_isLane_10 (by decide)) ?_
      exact im_ret (fun q => g_zret (ty := .boolean) rfl rfl rfl rfl dX9_isLane_14 q)
theorem e_X9_isLane (a0 : Int32) (σ : Sg) (τ : Sl) : EvD M_X9_isLane [.int a0] (mk σ τ) (some (.int (f_X9_isLane a0))) (mk σ τ) := EvM.of (by decide +kernel) (Nat.le_of_ble_eq_true rfl) (i_X9_isLane a0 σ τ _ _ rfl ⟨rfl, rfl⟩)
def M_X9_isSheet : Ms := (yX9_isSheet, cX9_isSheet, 1, some .boolean, 0, 0, 0, 0)
theorem ms_X9_isSheet : MS M_X9_isSheet 1 := ⟨⟨q924, q1, by decide, by decide, by decide +kernel⟩, q923⟩
def f_X9_isSheet (a0 : Int32) : Int32 :=
  if a0 < 0 then
    (0 : Int32)
  else
    if (4 : Int32) ≤ a0 then
      (0 : Int32)
    else
      (1 : Int32)
theorem z_X9_isSheet (a0 : Int32) : isB (f_X9_isSheet a0) = true := by
  unfold f_X9_isSheet
  (repeat' split) <;> first | rfl
set_option maxHeartbeats 4000000 in
set_option maxRecDepth 20000 in
theorem i_X9_isSheet (a0 : Int32) (σ : Sg) (τ : Sl) (Q : Option Value → Hp → Prop) : Imp (some (f_X9_isSheet a0)) (fun (y : Int32) => Q (some (.int y)) (mk σ τ)) (Go M_X9_isSheet Q 0 0 0 [some (.int a0)] [] (mk σ τ)) := by
  unfold f_X9_isSheet
  refine im_st (r_iload_n (i := 0) dX9_isSheet_0 rfl rfl rfl) ?_
  refine im_brS (r_if_lt (tgt := 13) dX9_isSheet_1 rfl (by decide)) (fun c1 => ?_) (fun c1 => ?_)
  · refine im_st (r_iconst (v := 0) dX9_isSheet_13 rfl kI_0) ?_
    exact im_ret (fun q => g_zret (ty := .boolean) rfl rfl rfl rfl dX9_isSheet_14 q)
  · refine im_st (r_iload_n (i := 0) dX9_isSheet_4 rfl rfl rfl) ?_
    refine im_st (r_iconst (v := 4) dX9_isSheet_5 rfl kI_4) ?_
    refine im_brS (r_icmp_ge (tgt := 13) dX9_isSheet_6 rfl (by decide)) (fun c2 => ?_) (fun c2 => ?_)
    · refine im_st (r_iconst (v := 0) dX9_isSheet_13 rfl kI_0) ?_
      exact im_ret (fun q => g_zret (ty := .boolean) rfl rfl rfl rfl dX9_isSheet_14 q)
    · refine im_st (r_iconst (v := 1) dX9_isSheet_9 rfl kI_1) ?_
      refine im_st (r_goto (pc1 := 14) dX9_isSheet_10 (by decide)) ?_
      exact im_ret (fun q => g_zret (ty := .boolean) rfl rfl rfl rfl dX9_isSheet_14 q)
theorem e_X9_isSheet (a0 : Int32) (σ : Sg) (τ : Sl) : EvD M_X9_isSheet [.int a0] (mk σ τ) (some (.int (f_X9_isSheet a0))) (mk σ τ) := EvM.of (by decide +kernel) (Nat.le_of_ble_eq_true rfl) (i_X9_isSheet a0 σ τ _ _ rfl ⟨rfl, rfl⟩)
def M_X9_sheet : Ms := (yX9_sheet, cX9_sheet, 4, some .int, 2, 45, 0, 0)
theorem mv_X9_sheet : MV M_X9_sheet 3 := ⟨⟨q921, q1, by decide, by decide, by decide +kernel⟩, q919, q920⟩
def f_X9_sheet (a1 : Int32) (a2 : Int32) (a3 : Int32) (σ : Sg) : Option (Int32 × Sg) :=
  if (f_X9_isSheet a1) = 0 then
    some ((-1 : Int32), σ)
  else
    if (f_X9_isLane a2) = 0 then
      some ((-1 : Int32), σ)
    else
      if a3 ≤ (40 : Int32) then
        if 0 ≤ a3 then
          if inR a1 4 then
          some ((1 : Int32), (f_X6_renew (67 + 2 * a1.toNatClampNeg) a2 a3 σ))
          else none
        else
          some ((-14 : Int32), σ)
      else
        some ((-1 : Int32), σ)
set_option maxHeartbeats 4000000 in
set_option maxRecDepth 20000 in
theorem i_X9_sheet (a1 : Int32) (a2 : Int32) (a3 : Int32) (σ : Sg) (τ : Sl) (Q : Option Value → Hp → Prop) : Imp (f_X9_sheet a1 a2 a3 σ) (fun (y : (Int32 × Sg)) => Q (some (.int y.1)) (mk y.2 τ)) (Go M_X9_sheet Q 0 0 0 [some (.ref 0), some (.int a1), some (.int a2), some (.int a3)] [] (mk σ τ)) := by
  unfold f_X9_sheet
  refine im_st (r_iload_n (i := 1) dX9_sheet_0 rfl rfl rfl) ?_
  refine im_st (r_callS (as := [.int a1]) (r := some (.int (f_X9_isSheet a1))) (kc1 := 0) (ks1 := 0) (st := []) (st1 := [.int (f_X9_isSheet a1)]) (e_X9_isSheet a1 σ τ) ms_X9_isSheet lk_X9_315 ⟨by decide, by decide⟩ ⟨by decide, by decide⟩ (Nat.le_of_ble_eq_true rfl) dX9_sheet_1 rfl rfl rfl rfl rfl) ?_
  refine im_br (r_if_eq (tgt := 20) dX9_sheet_4 rfl (by decide)) (fun c1 => ?_) (fun c1 => ?_)
  · refine im_st (r_iconst (v := -1) dX9_sheet_20 rfl kI_m1) ?_
    exact im_ret (fun q => g_iret rfl rfl rfl dX9_sheet_21 q)
  · refine im_st (r_iload_n (i := 2) dX9_sheet_7 rfl rfl rfl) ?_
    refine im_st (r_callS (as := [.int a2]) (r := some (.int (f_X9_isLane a2))) (kc1 := 0) (ks1 := 0) (st := []) (st1 := [.int (f_X9_isLane a2)]) (e_X9_isLane a2 σ τ) ms_X9_isLane lk_X9_318 ⟨by decide, by decide⟩ ⟨by decide, by decide⟩ (Nat.le_of_ble_eq_true rfl) dX9_sheet_8 rfl rfl rfl rfl rfl) ?_
    refine im_br (r_if_eq (tgt := 20) dX9_sheet_11 rfl (by decide)) (fun c2 => ?_) (fun c2 => ?_)
    · refine im_st (r_iconst (v := -1) dX9_sheet_20 rfl kI_m1) ?_
      exact im_ret (fun q => g_iret rfl rfl rfl dX9_sheet_21 q)
    · refine im_st (r_iload_n (i := 3) dX9_sheet_14 rfl rfl rfl) ?_
      refine im_st (r_bipush (v := 40) dX9_sheet_15 rfl kB_40) ?_
      refine im_br (r_icmp_le (tgt := 22) dX9_sheet_17 rfl (by decide)) (fun c3 => ?_) (fun c3 => ?_)
      · refine im_st (r_iload_n (i := 3) dX9_sheet_22 rfl rfl rfl) ?_
        refine im_br (r_if_ge (tgt := 29) dX9_sheet_23 rfl (by decide)) (fun c4 => ?_) (fun c4 => ?_)
        · refine im_st (r_aload_n (i := 0) dX9_sheet_29 rfl rfl rfl) ?_
          refine im_st (s_getR (b := 66) (tag := 9) (j := 12) dX9_sheet_30 rfl fl_X9_84 rfl (Nat.le_of_ble_eq_true rfl) rfl rfl) ?_
          refine im_st (r_iload_n (i := 1) dX9_sheet_33 rfl rfl rfl) ?_
          refine im_grd (fun g5 => ?_)
          refine im_st (s_aaload15 (b := (67 + 2 * a1.toNatClampNeg)) dX9_sheet_34 rfl rfl (Nat.le_of_ble_eq_true rfl) (inR_in g5) (sht_rf (inR_in g5))) ?_
          refine im_st (r_iload_n (i := 2) dX9_sheet_35 rfl rfl rfl) ?_
          refine im_st (r_iload_n (i := 3) dX9_sheet_36 rfl rfl rfl) ?_
          refine im_st (r_callV (as := [.int a2, .int a3]) (r := none) (kc1 := 0) (ks1 := 0) (st := []) (st1 := []) (e_X6_renew (67 + 2 * a1.toNatClampNeg) a2 a3 σ τ (sht_is (inR_in g5))) mv_X6_renew lk_X9_321 ⟨by decide, by decide⟩ (sht_sh (sht_is (inR_in g5))) (sht_lt (sht_is (inR_in g5))) (by decide) ⟨_, rfl, rfl⟩ ⟨by decide, by decide⟩ (Nat.le_of_ble_eq_true rfl) dX9_sheet_37 rfl rfl rfl rfl rfl) ?_
          refine im_st (r_iconst (v := 1) dX9_sheet_40 rfl kI_1) ?_
          exact im_ret (fun q => g_iret rfl rfl rfl dX9_sheet_41 q)
        · refine im_st (r_bipush (v := -14) dX9_sheet_26 rfl kB_m14) ?_
          exact im_ret (fun q => g_iret rfl rfl rfl dX9_sheet_28 q)
      · refine im_st (r_iconst (v := -1) dX9_sheet_20 rfl kI_m1) ?_
        exact im_ret (fun q => g_iret rfl rfl rfl dX9_sheet_21 q)
theorem e_X9_sheet (a1 : Int32) (a2 : Int32) (a3 : Int32) (σ : Sg) (τ : Sl) (y : (Int32 × Sg)) (hy : f_X9_sheet a1 a2 a3 σ = some y) : EvD M_X9_sheet [.ref 0, .int a1, .int a2, .int a3] (mk σ τ) (some (.int y.1)) (mk y.2 τ) := EvM.of (by decide +kernel) (Nat.le_of_ble_eq_true rfl) (i_X9_sheet a1 a2 a3 σ τ _ y hy ⟨rfl, rfl⟩)
def M_X9_write : Ms := (yX9_write, cX9_write, 6, some .int, 1, 22, 0, 0)
theorem mv_X9_write : MV M_X9_write 3 := ⟨⟨q938, q1, by decide, by decide, by decide +kernel⟩, q936, q937⟩
def f_X9_write (a1 : Int32) (a2 : Int32) (a3 : Int32) (σ : Sg) : Option (Int32 × Sg) :=
  if (f_X9_isSheet a1) = 0 then
    some ((-1 : Int32), σ)
  else
    if inR a1 4 then
    app (f_X6_refusal (67 + 2 * a1.toNatClampNeg) (σ (67 + 2 * a1.toNatClampNeg) 0) a2 σ) fun (v3 : Int32) =>
    if v3 = 0 then
      (f_X6_store (67 + 2 * a1.toNatClampNeg) a2 a3 σ).bind fun (y5 : Sg) =>
      some ((1 : Int32), y5)
    else
      some (((-10 : Int32) - v3), σ)
    else none
set_option maxHeartbeats 4000000 in
set_option maxRecDepth 20000 in
theorem i_X9_write (a1 : Int32) (a2 : Int32) (a3 : Int32) (σ : Sg) (τ : Sl) (Q : Option Value → Hp → Prop) : Imp (f_X9_write a1 a2 a3 σ) (fun (y : (Int32 × Sg)) => Q (some (.int y.1)) (mk y.2 τ)) (Go M_X9_write Q 0 0 0 [some (.ref 0), some (.int a1), some (.int a2), some (.int a3), none, none] [] (mk σ τ)) := by
  unfold f_X9_write
  refine im_st (r_iload_n (i := 1) dX9_write_0 rfl rfl rfl) ?_
  refine im_st (r_callS (as := [.int a1]) (r := some (.int (f_X9_isSheet a1))) (kc1 := 0) (ks1 := 0) (st := []) (st1 := [.int (f_X9_isSheet a1)]) (e_X9_isSheet a1 σ τ) ms_X9_isSheet lk_X9_315 ⟨by decide, by decide⟩ ⟨by decide, by decide⟩ (Nat.le_of_ble_eq_true rfl) dX9_write_1 rfl rfl rfl rfl rfl) ?_
  refine im_br (r_if_ne (tgt := 9) dX9_write_4 rfl (by decide)) (fun c1 => ?_) (fun c1 => ?_)
  · refine im_st (r_iconst (v := -1) dX9_write_7 rfl kI_m1) ?_
    exact im_ret (fun q => g_iret rfl rfl rfl dX9_write_8 q)
  · refine im_st (r_aload_n (i := 0) dX9_write_9 rfl rfl rfl) ?_
    refine im_st (s_getR (b := 66) (tag := 9) (j := 12) dX9_write_10 rfl fl_X9_84 rfl (Nat.le_of_ble_eq_true rfl) rfl rfl) ?_
    refine im_st (r_iload_n (i := 1) dX9_write_13 rfl rfl rfl) ?_
    refine im_grd (fun g2 => ?_)
    refine im_st (s_aaload15 (b := (67 + 2 * a1.toNatClampNeg)) dX9_write_14 rfl rfl (Nat.le_of_ble_eq_true rfl) (inR_in g2) (sht_rf (inR_in g2))) ?_
    refine im_st (r_astore (i := 4) (L1 := [some (.ref 0), some (.int a1), some (.int a2), some (.int a3), some (.ref (67 + 2 * a1.toNatClampNeg)), none]) dX9_write_15 rfl (by decide) rfl) ?_
    refine im_st (r_aload (i := 4) dX9_write_17 rfl rfl) ?_
    refine im_st (r_aload (i := 4) dX9_write_19 rfl rfl) ?_
    refine im_st (s_getI (tag := 6) (j := 0) dX9_write_21 rfl fl_X9_324 (sht_sh (sht_is (inR_in g2))) (sht_lt (sht_is (inR_in g2))) rfl) ?_
    refine im_st (r_iload_n (i := 2) dX9_write_24 rfl rfl rfl) ?_
    refine im_st (r_callV (as := [.int (σ (67 + 2 * a1.toNatClampNeg) 0), .int a2]) (r := some (.int (f_X6_refusal (67 + 2 * a1.toNatClampNeg) (σ (67 + 2 * a1.toNatClampNeg) 0) a2 σ))) (kc1 := 0) (ks1 := 0) (st := []) (st1 := [.int (f_X6_refusal (67 + 2 * a1.toNatClampNeg) (σ (67 + 2 * a1.toNatClampNeg) 0) a2 σ)]) (e_X6_refusal (67 + 2 * a1.toNatClampNeg) (σ (67 + 2 * a1.toNatClampNeg) 0) a2 σ τ (sht_is (inR_in g2))) mv_X6_refusal lk_X9_327 ⟨by decide, by decide⟩ (sht_sh (sht_is (inR_in g2))) (sht_lt (sht_is (inR_in g2))) (by decide) ⟨_, rfl, rfl⟩ ⟨by decide, by decide⟩ (Nat.le_of_ble_eq_true rfl) dX9_write_25 rfl rfl rfl rfl rfl) ?_
    refine im_app (Gm := fun (v3 : Int32) => Go M_X9_write Q 0 0 28 [some (.ref 0), some (.int a1), some (.int a2), some (.int a3), some (.ref (67 + 2 * a1.toNatClampNeg)), none] [.int v3] (mk σ τ)) (fun v3 => ?_)
    refine im_st (r_istore (i := 5) (L1 := [some (.ref 0), some (.int a1), some (.int a2), some (.int a3), some (.ref (67 + 2 * a1.toNatClampNeg)), some (.int v3)]) dX9_write_28 rfl (by decide) rfl) ?_
    refine im_st (r_iload (i := 5) dX9_write_30 rfl rfl) ?_
    refine im_br (r_if_eq (tgt := 41) dX9_write_32 rfl (by decide)) (fun c4 => ?_) (fun c4 => ?_)
    · refine im_st (r_aload (i := 4) dX9_write_41 rfl rfl) ?_
      refine im_st (r_iload_n (i := 2) dX9_write_43 rfl rfl rfl) ?_
      refine im_st (r_iload_n (i := 3) dX9_write_44 rfl rfl rfl) ?_
      refine im_bind (fun y5 hy5 => ?_)
      refine im_st (r_callV (as := [.int a2, .int a3]) (r := none) (kc1 := 0) (ks1 := 0) (st := []) (st1 := []) (e_X6_store (67 + 2 * a1.toNatClampNeg) a2 a3 σ τ (sht_is (inR_in g2)) y5 hy5) mv_X6_store lk_X9_330 ⟨by decide, by decide⟩ (sht_sh (sht_is (inR_in g2))) (sht_lt (sht_is (inR_in g2))) (by decide) ⟨_, rfl, rfl⟩ ⟨by decide, by decide⟩ (Nat.le_of_ble_eq_true rfl) dX9_write_45 rfl rfl rfl rfl rfl) ?_
      refine im_st (r_iconst (v := 1) dX9_write_48 rfl kI_1) ?_
      exact im_ret (fun q => g_iret rfl rfl rfl dX9_write_49 q)
    · refine im_st (r_bipush (v := -10) dX9_write_35 rfl kB_m10) ?_
      refine im_st (r_iload (i := 5) dX9_write_37 rfl rfl) ?_
      refine im_st (r_isub dX9_write_39 rfl) ?_
      exact im_ret (fun q => g_iret rfl rfl rfl dX9_write_40 q)
theorem e_X9_write (a1 : Int32) (a2 : Int32) (a3 : Int32) (σ : Sg) (τ : Sl) (y : (Int32 × Sg)) (hy : f_X9_write a1 a2 a3 σ = some y) : EvD M_X9_write [.ref 0, .int a1, .int a2, .int a3] (mk σ τ) (some (.int y.1)) (mk y.2 τ) := EvM.of (by decide +kernel) (Nat.le_of_ble_eq_true rfl) (i_X9_write a1 a2 a3 σ τ _ y hy ⟨rfl, rfl⟩)
def M_X9_read : Ms := (yX9_read, cX9_read, 11, some .int, 3, 63, 0, 0)
theorem mv_X9_read : MV M_X9_read 4 := ⟨⟨q950, q1, by decide, by decide, by decide +kernel⟩, q948, q949⟩
def b_X9_read_51 (a1 : Int32) (a2 : Int32) (a3 : Int32) (a4 : Int32) (v6 : Int32) : (Int32 × Int32 × Sg) → Option ((Int32 × Int32 × Sg) ⊕ ((Int32 × Int32 × Sg) ⊕ (Int32 × Sg))) := fun (s7 : (Int32 × Int32 × Sg)) =>
  if a4 ≤ s7.1 then
    some (.inr (.inl (s7.1, s7.2.1, s7.2.2)))
  else
    if s7.2.1 = 0 then
      app (f_X6_refusalOfTwo (67 + 2 * a1.toNatClampNeg) a2 (a3 + ((2 : Int32) * s7.1)) s7.2.2) fun (v10 : Int32) =>
      if v10 = 0 then
        (f_X6_stored (67 + 2 * a1.toNatClampNeg) (a3 + ((2 : Int32) * s7.1)) s7.2.2).bind fun (y12 : Int32) =>
        (f_X6_stored (67 + 2 * a1.toNatClampNeg) ((a3 + ((2 : Int32) * s7.1)) + (1 : Int32)) s7.2.2).bind fun (y13 : Int32) =>
        (f_X7_addPeg 1 y12 y13 s7.2.2).bind fun (y14 : (Int32 × Sg)) =>
        if 0 ≤ y14.1 then
          some (.inl ((s7.1 + 1), v10, y14.2))
        else
          (f_X7_cutPegs 1 v6 y14.2).bind fun (y16 : Sg) =>
          some (.inr (.inr (((-20 : Int32) - s7.1), y16)))
      else
        some (.inl (s7.1, v10, s7.2.2))
    else
      some (.inr (.inl (s7.1, s7.2.1, s7.2.2)))
def f_X9_read (a1 : Int32) (a2 : Int32) (a3 : Int32) (a4 : Int32) (σ : Sg) : Option (Int32 × Sg) :=
  if (f_X9_isSheet a1) = 0 then
    some ((-1 : Int32), σ)
  else
    if (f_X9_isLane a2) = 0 then
      some ((-1 : Int32), σ)
    else
      if a4 < 0 then
        some ((-1 : Int32), σ)
      else
        if a4 ≤ (20 : Int32) then
          if inR a1 4 then
          app (σ 1 2) fun (v6 : Int32) =>
          (wh (b_X9_read_51 a1 a2 a3 a4 v6) 4096 ((0 : Int32), (0 : Int32), σ)).bind fun (r19 : ((Int32 × Int32 × Sg) ⊕ (Int32 × Sg))) =>
          Sum.elim (fun (e17 : (Int32 × Int32 × Sg)) =>
            some (e17.1, (up2 e17.2.2 0 13 e17.2.1))) (fun (y18 : (Int32 × Sg)) => some y18) r19
          else none
        else
          some ((-1 : Int32), σ)
set_option maxHeartbeats 4000000 in
set_option maxRecDepth 20000 in
theorem i_X9_read (a1 : Int32) (a2 : Int32) (a3 : Int32) (a4 : Int32) (σ : Sg) (τ : Sl) (Q : Option Value → Hp → Prop) : Imp (f_X9_read a1 a2 a3 a4 σ) (fun (y : (Int32 × Sg)) => Q (some (.int y.1)) (mk y.2 τ)) (Go M_X9_read Q 0 0 0 [some (.ref 0), some (.int a1), some (.int a2), some (.int a3), some (.int a4), none, none, none, none, none, none] [] (mk σ τ)) := by
  unfold f_X9_read
  refine im_st (r_iload_n (i := 1) dX9_read_0 rfl rfl rfl) ?_
  refine im_st (r_callS (as := [.int a1]) (r := some (.int (f_X9_isSheet a1))) (kc1 := 0) (ks1 := 0) (st := []) (st1 := [.int (f_X9_isSheet a1)]) (e_X9_isSheet a1 σ τ) ms_X9_isSheet lk_X9_315 ⟨by decide, by decide⟩ ⟨by decide, by decide⟩ (Nat.le_of_ble_eq_true rfl) dX9_read_1 rfl rfl rfl rfl rfl) ?_
  refine im_br (r_if_eq (tgt := 26) dX9_read_4 rfl (by decide)) (fun c1 => ?_) (fun c1 => ?_)
  · refine im_st (r_iconst (v := -1) dX9_read_26 rfl kI_m1) ?_
    exact im_ret (fun q => g_iret rfl rfl rfl dX9_read_27 q)
  · refine im_st (r_iload_n (i := 2) dX9_read_7 rfl rfl rfl) ?_
    refine im_st (r_callS (as := [.int a2]) (r := some (.int (f_X9_isLane a2))) (kc1 := 0) (ks1 := 0) (st := []) (st1 := [.int (f_X9_isLane a2)]) (e_X9_isLane a2 σ τ) ms_X9_isLane lk_X9_318 ⟨by decide, by decide⟩ ⟨by decide, by decide⟩ (Nat.le_of_ble_eq_true rfl) dX9_read_8 rfl rfl rfl rfl rfl) ?_
    refine im_br (r_if_eq (tgt := 26) dX9_read_11 rfl (by decide)) (fun c2 => ?_) (fun c2 => ?_)
    · refine im_st (r_iconst (v := -1) dX9_read_26 rfl kI_m1) ?_
      exact im_ret (fun q => g_iret rfl rfl rfl dX9_read_27 q)
    · refine im_st (r_iload (i := 4) dX9_read_14 rfl rfl) ?_
      refine im_br (r_if_lt (tgt := 26) dX9_read_16 rfl (by decide)) (fun c3 => ?_) (fun c3 => ?_)
      · refine im_st (r_iconst (v := -1) dX9_read_26 rfl kI_m1) ?_
        exact im_ret (fun q => g_iret rfl rfl rfl dX9_read_27 q)
      · refine im_st (r_iload (i := 4) dX9_read_19 rfl rfl) ?_
        refine im_st (r_bipush (v := 20) dX9_read_21 rfl kB_20) ?_
        refine im_br (r_icmp_le (tgt := 28) dX9_read_23 rfl (by decide)) (fun c4 => ?_) (fun c4 => ?_)
        · refine im_st (r_aload_n (i := 0) dX9_read_28 rfl rfl rfl) ?_
          refine im_st (s_getR (b := 66) (tag := 9) (j := 12) dX9_read_29 rfl fl_X9_84 rfl (Nat.le_of_ble_eq_true rfl) rfl rfl) ?_
          refine im_st (r_iload_n (i := 1) dX9_read_32 rfl rfl rfl) ?_
          refine im_grd (fun g5 => ?_)
          refine im_st (s_aaload15 (b := (67 + 2 * a1.toNatClampNeg)) dX9_read_33 rfl rfl (Nat.le_of_ble_eq_true rfl) (inR_in g5) (sht_rf (inR_in g5))) ?_
          refine im_st (r_astore (i := 5) (L1 := [some (.ref 0), some (.int a1), some (.int a2), some (.int a3), some (.int a4), some (.ref (67 + 2 * a1.toNatClampNeg)), none, none, none, none, none]) dX9_read_34 rfl (by decide) rfl) ?_
          refine im_st (r_aload_n (i := 0) dX9_read_36 rfl rfl rfl) ?_
          refine im_st (s_getR (b := 1) (tag := 9) (j := 0) dX9_read_37 rfl fl_X9_10 rfl (Nat.le_of_ble_eq_true rfl) rfl rfl) ?_
          refine im_st (s_getI (tag := 7) (j := 2) dX9_read_40 rfl fl_X9_115 rfl (Nat.le_of_ble_eq_true rfl) rfl) ?_
          refine im_st (r_istore (i := 6) (L1 := [some (.ref 0), some (.int a1), some (.int a2), some (.int a3), some (.int a4), some (.ref (67 + 2 * a1.toNatClampNeg)), some (.int (σ 1 2)), none, none, none, none]) dX9_read_43 rfl (by decide) rfl) ?_
          refine im_st (r_iconst (v := 0) dX9_read_45 rfl kI_0) ?_
          refine im_st (r_istore (i := 7) (L1 := [some (.ref 0), some (.int a1), some (.int a2), some (.int a3), some (.int a4), some (.ref (67 + 2 * a1.toNatClampNeg)), some (.int (σ 1 2)), some (.int (0 : Int32)), none, none, none]) dX9_read_46 rfl (by decide) rfl) ?_
          refine im_st (r_iconst (v := 0) dX9_read_48 rfl kI_0) ?_
          refine im_st (r_istore (i := 8) (L1 := [some (.ref 0), some (.int a1), some (.int a2), some (.int a3), some (.int a4), some (.ref (67 + 2 * a1.toNatClampNeg)), some (.int (σ 1 2)), some (.int (0 : Int32)), some (.int (0 : Int32)), none, none]) dX9_read_49 rfl (by decide) rfl) ?_
          refine im_app (Gm := fun (v6 : Int32) => Go M_X9_read Q 0 0 51 [some (.ref 0), some (.int a1), some (.int a2), some (.int a3), some (.int a4), some (.ref (67 + 2 * a1.toNatClampNeg)), some (.int v6), some (.int (0 : Int32)), some (.int (0 : Int32)), none, none] [] (mk σ τ)) (fun v6 => ?_)
          refine im_st (r_fgt (L1 := [some (.ref 0), none, some (.int a2), some (.int a3), some (.int a4), some (.ref (67 + 2 * a1.toNatClampNeg)), some (.int v6), some (.int (0 : Int32)), some (.int (0 : Int32)), none, none]) [1] rfl) ?_
          refine im_seq (Gm := Sum.elim (fun (e17 : (Int32 × Int32 × Sg)) => Go M_X9_read Q 0 0 145 [some (.ref 0), none, none, none, none, none, none, some (.int e17.1), some (.int e17.2.1), none, none] [] (mk e17.2.2 τ)) (fun (y : (Int32 × Sg)) => Q (some (.int y.1)) (mk y.2 τ))) ?_ (fun r19 => ?_)
          · refine im_wh (G := fun (s7 : (Int32 × Int32 × Sg)) => Go M_X9_read Q 0 0 51 [some (.ref 0), none, some (.int a2), some (.int a3), some (.int a4), some (.ref (67 + 2 * a1.toNatClampNeg)), some (.int v6), some (.int s7.1), some (.int s7.2.1), none, none] [] (mk s7.2.2 τ)) (fun s7 => ?_) _ _
            unfold b_X9_read_51
            refine im_st (r_iload (i := 7) dX9_read_51 rfl rfl) ?_
            refine im_st (r_iload (i := 4) dX9_read_53 rfl rfl) ?_
            refine im_br (r_icmp_ge (tgt := 145) dX9_read_55 rfl (by decide)) (fun c8 => ?_) (fun c8 => ?_)
            · refine im_st (r_fgt (L1 := [some (.ref 0), none, none, none, none, none, none, some (.int s7.1), some (.int s7.2.1), none, none]) [2, 3, 4, 5, 6] rfl) ?_
              exact im_ret id
            · refine im_st (r_iload (i := 8) dX9_read_58 rfl rfl) ?_
              refine im_br (r_if_ne (tgt := 145) dX9_read_60 rfl (by decide)) (fun c9 => ?_) (fun c9 => ?_)
              · refine im_st (r_aload (i := 5) dX9_read_63 rfl rfl) ?_
                refine im_st (r_iload_n (i := 2) dX9_read_65 rfl rfl rfl) ?_
                refine im_st (r_iload_n (i := 3) dX9_read_66 rfl rfl rfl) ?_
                refine im_st (r_iconst (v := 2) dX9_read_67 rfl kI_2) ?_
                refine im_st (r_iload (i := 7) dX9_read_68 rfl rfl) ?_
                refine im_st (r_imul dX9_read_70 rfl) ?_
                refine im_st (r_iadd dX9_read_71 rfl) ?_
                refine im_st (r_callV (as := [.int a2, .int (a3 + ((2 : Int32) * s7.1))]) (r := some (.int (f_X6_refusalOfTwo (67 + 2 * a1.toNatClampNeg) a2 (a3 + ((2 : Int32) * s7.1)) s7.2.2))) (kc1 := 0) (ks1 := 0) (st := []) (st1 := [.int (f_X6_refusalOfTwo (67 + 2 * a1.toNatClampNeg) a2 (a3 + ((2 : Int32) * s7.1)) s7.2.2)]) (e_X6_refusalOfTwo (67 + 2 * a1.toNatClampNeg) a2 (a3 + ((2 : Int32) * s7.1)) s7.2.2 τ (sht_is (inR_in g5))) mv_X6_refusalOfTwo lk_X9_333 ⟨by decide, by decide⟩ (sht_sh (sht_is (inR_in g5))) (sht_lt (sht_is (inR_in g5))) (by decide) ⟨_, rfl, rfl⟩ ⟨by decide, by decide⟩ (Nat.le_of_ble_eq_true rfl) dX9_read_72 rfl rfl rfl rfl rfl) ?_
                refine im_app (Gm := fun (v10 : Int32) => Go M_X9_read Q 0 0 75 [some (.ref 0), none, some (.int a2), some (.int a3), some (.int a4), some (.ref (67 + 2 * a1.toNatClampNeg)), some (.int v6), some (.int s7.1), some (.int s7.2.1), none, none] [.int v10] (mk s7.2.2 τ)) (fun v10 => ?_)
                refine im_st (r_istore (i := 8) (L1 := [some (.ref 0), none, some (.int a2), some (.int a3), some (.int a4), some (.ref (67 + 2 * a1.toNatClampNeg)), some (.int v6), some (.int s7.1), some (.int v10), none, none]) dX9_read_75 rfl (by decide) rfl) ?_
                refine im_st (r_iload (i := 8) dX9_read_77 rfl rfl) ?_
                refine im_br (r_if_ne (tgt := 51) dX9_read_79 rfl (by decide)) (fun c11 => ?_) (fun c11 => ?_)
                · refine im_st (r_aload (i := 5) dX9_read_82 rfl rfl) ?_
                  refine im_st (r_iload_n (i := 3) dX9_read_84 rfl rfl rfl) ?_
                  refine im_st (r_iconst (v := 2) dX9_read_85 rfl kI_2) ?_
                  refine im_st (r_iload (i := 7) dX9_read_86 rfl rfl) ?_
                  refine im_st (r_imul dX9_read_88 rfl) ?_
                  refine im_st (r_iadd dX9_read_89 rfl) ?_
                  refine im_bind (fun y12 hy12 => ?_)
                  refine im_st (r_callV (as := [.int (a3 + ((2 : Int32) * s7.1))]) (r := some (.int y12)) (kc1 := 0) (ks1 := 0) (st := []) (st1 := [.int y12]) (e_X6_stored (67 + 2 * a1.toNatClampNeg) (a3 + ((2 : Int32) * s7.1)) s7.2.2 τ (sht_is (inR_in g5)) y12 hy12) mv_X6_stored lk_X9_336 ⟨by decide, by decide⟩ (sht_sh (sht_is (inR_in g5))) (sht_lt (sht_is (inR_in g5))) (by decide) ⟨_, rfl, rfl⟩ ⟨by decide, by decide⟩ (Nat.le_of_ble_eq_true rfl) dX9_read_90 rfl rfl rfl rfl rfl) ?_
                  refine im_st (r_istore (i := 9) (L1 := [some (.ref 0), none, some (.int a2), some (.int a3), some (.int a4), some (.ref (67 + 2 * a1.toNatClampNeg)), some (.int v6), some (.int s7.1), some (.int v10), some (.int y12), none]) dX9_read_93 rfl (by decide) rfl) ?_
                  refine im_st (r_aload (i := 5) dX9_read_95 rfl rfl) ?_
                  refine im_st (r_iload_n (i := 3) dX9_read_97 rfl rfl rfl) ?_
                  refine im_st (r_iconst (v := 2) dX9_read_98 rfl kI_2) ?_
                  refine im_st (r_iload (i := 7) dX9_read_99 rfl rfl) ?_
                  refine im_st (r_imul dX9_read_101 rfl) ?_
                  refine im_st (r_iadd dX9_read_102 rfl) ?_
                  refine im_st (r_iconst (v := 1) dX9_read_103 rfl kI_1) ?_
                  refine im_st (r_iadd dX9_read_104 rfl) ?_
                  refine im_bind (fun y13 hy13 => ?_)
                  refine im_st (r_callV (as := [.int ((a3 + ((2 : Int32) * s7.1)) + (1 : Int32))]) (r := some (.int y13)) (kc1 := 0) (ks1 := 0) (st := []) (st1 := [.int y13]) (e_X6_stored (67 + 2 * a1.toNatClampNeg) ((a3 + ((2 : Int32) * s7.1)) + (1 : Int32)) s7.2.2 τ (sht_is (inR_in g5)) y13 hy13) mv_X6_stored lk_X9_336 ⟨by decide, by decide⟩ (sht_sh (sht_is (inR_in g5))) (sht_lt (sht_is (inR_in g5))) (by decide) ⟨_, rfl, rfl⟩ ⟨by decide, by decide⟩ (Nat.le_of_ble_eq_true rfl) dX9_read_105 rfl rfl rfl rfl rfl) ?_
                  refine im_st (r_istore (i := 10) (L1 := [some (.ref 0), none, some (.int a2), some (.int a3), some (.int a4), some (.ref (67 + 2 * a1.toNatClampNeg)), some (.int v6), some (.int s7.1), some (.int v10), some (.int y12), some (.int y13)]) dX9_read_108 rfl (by decide) rfl) ?_
                  refine im_st (r_aload_n (i := 0) dX9_read_110 rfl rfl rfl) ?_
                  refine im_st (s_getR (b := 1) (tag := 9) (j := 0) dX9_read_111 rfl fl_X9_10 rfl (Nat.le_of_ble_eq_true rfl) rfl rfl) ?_
                  refine im_st (r_iload (i := 9) dX9_read_114 rfl rfl) ?_
                  refine im_st (r_iload (i := 10) dX9_read_116 rfl rfl) ?_
                  refine im_bind (fun y14 hy14 => ?_)
                  refine im_st (r_callV (as := [.int y12, .int y13]) (r := some (.int y14.1)) (kc1 := 0) (ks1 := 0) (st := []) (st1 := [.int y14.1]) (e_X7_addPeg 1 y12 y13 s7.2.2 τ isSl_1 y14 hy14) mv_X7_addPeg lk_X9_199 ⟨by decide, by decide⟩ rfl (Nat.le_of_ble_eq_true rfl) (by decide) ⟨_, rfl, rfl⟩ ⟨by decide, by decide⟩ (Nat.le_of_ble_eq_true rfl) dX9_read_118 rfl rfl rfl rfl rfl) ?_
                  refine im_br (r_if_ge (tgt := 139) dX9_read_121 rfl (by decide)) (fun c15 => ?_) (fun c15 => ?_)
                  · refine im_st (r_iinc (i := 7) (x := s7.1) (v := (s7.1 + 1)) (L1 := [some (.ref 0), none, some (.int a2), some (.int a3), some (.int a4), some (.ref (67 + 2 * a1.toNatClampNeg)), some (.int v6), some (.int (s7.1 + 1)), some (.int v10), some (.int y12), some (.int y13)]) dX9_read_139 rfl rfl rfl (by decide) rfl) ?_
                    refine im_st (r_goto (pc1 := 51) dX9_read_142 (by decide)) ?_
                    refine im_st (r_fgt (L1 := [some (.ref 0), none, some (.int a2), some (.int a3), some (.int a4), some (.ref (67 + 2 * a1.toNatClampNeg)), some (.int v6), some (.int (s7.1 + 1)), some (.int v10), none, none]) [9, 10] rfl) ?_
                    exact im_ret id
                  · refine im_st (r_aload_n (i := 0) dX9_read_124 rfl rfl rfl) ?_
                    refine im_st (s_getR (b := 1) (tag := 9) (j := 0) dX9_read_125 rfl fl_X9_10 rfl (Nat.le_of_ble_eq_true rfl) rfl rfl) ?_
                    refine im_st (r_iload (i := 6) dX9_read_128 rfl rfl) ?_
                    refine im_bind (fun y16 hy16 => ?_)
                    refine im_st (r_callV (as := [.int v6]) (r := none) (kc1 := 0) (ks1 := 0) (st := []) (st1 := []) (e_X7_cutPegs 1 v6 y14.2 τ isSl_1 y16 hy16) mv_X7_cutPegs lk_X9_339 ⟨by decide, by decide⟩ rfl (Nat.le_of_ble_eq_true rfl) (by decide) ⟨_, rfl, rfl⟩ ⟨by decide, by decide⟩ (Nat.le_of_ble_eq_true rfl) dX9_read_130 rfl rfl rfl rfl rfl) ?_
                    refine im_st (r_bipush (v := -20) dX9_read_133 rfl kB_m20) ?_
                    refine im_st (r_iload (i := 7) dX9_read_135 rfl rfl) ?_
                    refine im_st (r_isub dX9_read_137 rfl) ?_
                    exact im_ret (fun q => g_iret rfl rfl rfl dX9_read_138 q)
                · exact im_ret id
              · refine im_st (r_fgt (L1 := [some (.ref 0), none, none, none, none, none, none, some (.int s7.1), some (.int s7.2.1), none, none]) [2, 3, 4, 5, 6] rfl) ?_
                exact im_ret id
          refine im_sum (fun e17 => ?_) (fun y18 => im_ret id) r19
          refine im_st (r_aload_n (i := 0) dX9_read_145 rfl rfl rfl) ?_
          refine im_st (r_iload (i := 8) dX9_read_146 rfl rfl) ?_
          refine im_st (s_putI (tag := 9) (j := 13) dX9_read_148 rfl fl_X9_89 rfl (Nat.le_of_ble_eq_true rfl) rfl fw_9_13) ?_
          refine im_st (r_iload (i := 7) dX9_read_151 rfl rfl) ?_
          exact im_ret (fun q => g_iret rfl rfl rfl dX9_read_153 q)
        · refine im_st (r_iconst (v := -1) dX9_read_26 rfl kI_m1) ?_
          exact im_ret (fun q => g_iret rfl rfl rfl dX9_read_27 q)
theorem e_X9_read (a1 : Int32) (a2 : Int32) (a3 : Int32) (a4 : Int32) (σ : Sg) (τ : Sl) (y : (Int32 × Sg)) (hy : f_X9_read a1 a2 a3 a4 σ = some y) : EvD M_X9_read [.ref 0, .int a1, .int a2, .int a3, .int a4] (mk σ τ) (some (.int y.1)) (mk y.2 τ) := EvM.of (by decide +kernel) (Nat.le_of_ble_eq_true rfl) (i_X9_read a1 a2 a3 a4 σ τ _ y hy ⟨rfl, rfl⟩)
def M_X9_torn : Ms := (yX9_torn, cX9_torn, 1, some .int, 0, 0, 0, 0)
theorem mv_X9_torn : MV M_X9_torn 0 := ⟨⟨q964, q1, by decide, by decide, by decide +kernel⟩, q962, q963⟩
def f_X9_torn (σ : Sg) : Int32 :=
  (σ 0 13)
set_option maxHeartbeats 4000000 in
set_option maxRecDepth 20000 in
theorem i_X9_torn (σ : Sg) (τ : Sl) (Q : Option Value → Hp → Prop) : Imp (some (f_X9_torn σ)) (fun (y : Int32) => Q (some (.int y)) (mk σ τ)) (Go M_X9_torn Q 0 0 0 [some (.ref 0)] [] (mk σ τ)) := by
  unfold f_X9_torn
  refine im_st (r_aload_n (i := 0) dX9_torn_0 rfl rfl rfl) ?_
  refine im_st (s_getI (tag := 9) (j := 13) dX9_torn_1 rfl fl_X9_89 rfl (Nat.le_of_ble_eq_true rfl) rfl) ?_
  exact im_ret (fun q => g_iret rfl rfl rfl dX9_torn_4 q)
theorem e_X9_torn (σ : Sg) (τ : Sl) : EvD M_X9_torn [.ref 0] (mk σ τ) (some (.int (f_X9_torn σ))) (mk σ τ) := EvM.of (by decide +kernel) (Nat.le_of_ble_eq_true rfl) (i_X9_torn σ τ _ _ rfl ⟨rfl, rfl⟩)
def M_X9_keptImages : Ms := (yX9_keptImages, cX9_keptImages, 3, some .int, 0, 0, 0, 0)
theorem mv_X9_keptImages : MV M_X9_keptImages 0 := ⟨⟨q972, q1, by decide, by decide, by decide +kernel⟩, q971, p22⟩
def b_X9_keptImages_4 (σ : Sg) : (Int32 × Int32) → Option ((Int32 × Int32) ⊕ (Int32 × Int32)) := fun (s1 : (Int32 × Int32)) =>
  if (2 : Int32) ≤ s1.2 then
    some (.inr (s1.1, s1.2))
  else
    if inR s1.2 2 then
    app (if (σ 35 s1.2.toNatClampNeg) = 0 then
      s1.1
    else
      (s1.1 + 1)) fun (j4 : Int32) =>
    some (.inl (j4, (s1.2 + 1)))
    else none
def f_X9_keptImages (σ : Sg) : Option Int32 :=
  (wh (b_X9_keptImages_4 σ) 4096 ((0 : Int32), (0 : Int32))).bind fun (e6 : (Int32 × Int32)) =>
  some e6.1
set_option maxHeartbeats 4000000 in
set_option maxRecDepth 20000 in
theorem i_X9_keptImages (σ : Sg) (τ : Sl) (Q : Option Value → Hp → Prop) : Imp (f_X9_keptImages σ) (fun (y : Int32) => Q (some (.int y)) (mk σ τ)) (Go M_X9_keptImages Q 0 0 0 [some (.ref 0), none, none] [] (mk σ τ)) := by
  unfold f_X9_keptImages
  refine im_st (r_iconst (v := 0) dX9_keptImages_0 rfl kI_0) ?_
  refine im_st (r_istore_n (i := 1) (L1 := [some (.ref 0), some (.int (0 : Int32)), none]) dX9_keptImages_1 rfl rfl (by decide) rfl) ?_
  refine im_st (r_iconst (v := 0) dX9_keptImages_2 rfl kI_0) ?_
  refine im_st (r_istore_n (i := 2) (L1 := [some (.ref 0), some (.int (0 : Int32)), some (.int (0 : Int32))]) dX9_keptImages_3 rfl rfl (by decide) rfl) ?_
  refine im_seq (Gm := fun (e6 : (Int32 × Int32)) => Go M_X9_keptImages Q 0 0 27 [none, some (.int e6.1), none] [] (mk σ τ)) ?_ (fun e6 => ?_)
  · refine im_wh (G := fun (s1 : (Int32 × Int32)) => Go M_X9_keptImages Q 0 0 4 [some (.ref 0), some (.int s1.1), some (.int s1.2)] [] (mk σ τ)) (fun s1 => ?_) _ _
    unfold b_X9_keptImages_4
    refine im_st (r_iload_n (i := 2) dX9_keptImages_4 rfl rfl rfl) ?_
    refine im_st (r_iconst (v := 2) dX9_keptImages_5 rfl kI_2) ?_
    refine im_br (r_icmp_ge (tgt := 27) dX9_keptImages_6 rfl (by decide)) (fun c2 => ?_) (fun c2 => ?_)
    · refine im_st (r_fgt (L1 := [none, some (.int s1.1), none]) [0, 2] rfl) ?_
      exact im_ret id
    · refine im_st (r_aload_n (i := 0) dX9_keptImages_9 rfl rfl rfl) ?_
      refine im_st (s_getR (b := 35) (tag := 9) (j := 8) dX9_keptImages_10 rfl fl_X9_58 rfl (Nat.le_of_ble_eq_true rfl) rfl rfl) ?_
      refine im_st (r_iload_n (i := 2) dX9_keptImages_13 rfl rfl rfl) ?_
      refine im_grd (fun g3 => ?_)
      refine im_st (s_zaload dX9_keptImages_14 rfl rfl (Nat.le_of_ble_eq_true rfl) (inR_in g3)) ?_
      refine im_seqT (Gm := fun (j4 : Int32) => Go M_X9_keptImages Q 0 0 21 [some (.ref 0), some (.int j4), some (.int s1.2)] [] (mk σ τ)) ?_ (fun j4 => ?_)
      · refine im_brS (r_if_eq (tgt := 21) dX9_keptImages_15 rfl (by decide)) (fun c5 => ?_) (fun c5 => ?_)
        · exact im_ret id
        · refine im_st (r_iinc (i := 1) (x := s1.1) (v := (s1.1 + 1)) (L1 := [some (.ref 0), some (.int (s1.1 + 1)), some (.int s1.2)]) dX9_keptImages_18 rfl rfl rfl (by decide) rfl) ?_
          exact im_ret id
      refine im_st (r_iinc (i := 2) (x := s1.2) (v := (s1.2 + 1)) (L1 := [some (.ref 0), some (.int j4), some (.int (s1.2 + 1))]) dX9_keptImages_21 rfl rfl rfl (by decide) rfl) ?_
      refine im_st (r_goto (pc1 := 4) dX9_keptImages_24 (by decide)) ?_
      exact im_ret id
  refine im_st (r_iload_n (i := 1) dX9_keptImages_27 rfl rfl rfl) ?_
  exact im_ret (fun q => g_iret rfl rfl rfl dX9_keptImages_28 q)
theorem e_X9_keptImages (σ : Sg) (τ : Sl) (y : Int32) (hy : f_X9_keptImages σ = some y) : EvD M_X9_keptImages [.ref 0] (mk σ τ) (some (.int y)) (mk σ τ) := EvM.of (by decide +kernel) (Nat.le_of_ble_eq_true rfl) (i_X9_keptImages σ τ _ y hy ⟨rfl, rfl⟩)
def M_X9_count : Ms := (yX9_count, cX9_count, 2, some .int, 1, 23, 0, 0)
theorem mv_X9_count : MV M_X9_count 1 := ⟨⟨q968, q1, by decide, by decide, by decide +kernel⟩, q966, q967⟩
def f_X9_count (a1 : Int32) (σ : Sg) : Option Int32 :=
  if a1 = 0 then
    some (σ 30 3)
  else
    if a1 = 1 then
      (f_X9_keptImages σ).bind fun (y3 : Int32) =>
      some y3
    else
      if a1 = 2 then
        some (σ 54 1)
      else
        if a1 = 3 then
          if (σ 67 0) = (-1 : Int32) then
            some (-4 : Int32)
          else
            some (σ 67 1)
        else
          if a1 = 4 then
            (f_X7_pegsOfRag 1 (0 : Int32) σ).bind fun (y8 : Int32) =>
            some y8
          else
            if a1 = 5 then
              (f_X7_speedOfAll 1 σ).bind fun (y10 : Int32) =>
              some y10
            else
              some (-1 : Int32)
set_option maxHeartbeats 4000000 in
set_option maxRecDepth 20000 in
theorem i_X9_count (a1 : Int32) (σ : Sg) (τ : Sl) (Q : Option Value → Hp → Prop) : Imp (f_X9_count a1 σ) (fun (y : Int32) => Q (some (.int y)) (mk σ τ)) (Go M_X9_count Q 0 0 0 [some (.ref 0), some (.int a1)] [] (mk σ τ)) := by
  unfold f_X9_count
  refine im_st (r_iload_n (i := 1) dX9_count_0 rfl rfl rfl) ?_
  refine im_if (fun c1 => ?_) (fun c1 => ?_)
  · refine im_st (r_tin (off := 39) (pc1 := 40) dX9_count_1 (by rw [c1]; decide) (by rw [c1]; decide) (by rw [c1]; rfl) (by decide)) ?_
    refine im_st (r_aload_n (i := 0) dX9_count_40 rfl rfl rfl) ?_
    refine im_st (s_getR (b := 30) (tag := 9) (j := 6) dX9_count_41 rfl fl_X9_50 rfl (Nat.le_of_ble_eq_true rfl) rfl rfl) ?_
    refine im_st (s_getI (tag := 5) (j := 3) dX9_count_44 rfl fl_X9_112 rfl (Nat.le_of_ble_eq_true rfl) rfl) ?_
    exact im_ret (fun q => g_iret rfl rfl rfl dX9_count_47 q)
  · refine im_if (fun c2 => ?_) (fun c2 => ?_)
    · refine im_st (r_tin (off := 47) (pc1 := 48) dX9_count_1 (by rw [c2]; decide) (by rw [c2]; decide) (by rw [c2]; rfl) (by decide)) ?_
      refine im_st (r_aload_n (i := 0) dX9_count_48 rfl rfl rfl) ?_
      refine im_bind (fun y3 hy3 => ?_)
      refine im_st (r_callV (as := []) (r := some (.int y3)) (kc1 := 0) (ks1 := 0) (st := []) (st1 := [.int y3]) (e_X9_keptImages σ τ y3 hy3) mv_X9_keptImages lk_X9_342 ⟨by decide, by decide⟩ rfl (Nat.le_of_ble_eq_true rfl) (by decide) ⟨_, rfl, rfl⟩ ⟨by decide, by decide⟩ (Nat.le_of_ble_eq_true rfl) dX9_count_49 rfl rfl rfl rfl rfl) ?_
      exact im_ret (fun q => g_iret rfl rfl rfl dX9_count_52 q)
    · refine im_if (fun c4 => ?_) (fun c4 => ?_)
      · refine im_st (r_tin (off := 52) (pc1 := 53) dX9_count_1 (by rw [c4]; decide) (by rw [c4]; decide) (by rw [c4]; rfl) (by decide)) ?_
        refine im_st (r_aload_n (i := 0) dX9_count_53 rfl rfl rfl) ?_
        refine im_st (s_getR (b := 54) (tag := 9) (j := 9) dX9_count_54 rfl fl_X9_65 rfl (Nat.le_of_ble_eq_true rfl) rfl rfl) ?_
        refine im_st (s_getI (tag := 8) (j := 1) dX9_count_57 rfl fl_X9_96 rfl (Nat.le_of_ble_eq_true rfl) rfl) ?_
        exact im_ret (fun q => g_iret rfl rfl rfl dX9_count_60 q)
      · refine im_if (fun c5 => ?_) (fun c5 => ?_)
        · refine im_st (r_tin (off := 60) (pc1 := 61) dX9_count_1 (by rw [c5]; decide) (by rw [c5]; decide) (by rw [c5]; rfl) (by decide)) ?_
          refine im_st (r_aload_n (i := 0) dX9_count_61 rfl rfl rfl) ?_
          refine im_st (s_getR (b := 66) (tag := 9) (j := 12) dX9_count_62 rfl fl_X9_84 rfl (Nat.le_of_ble_eq_true rfl) rfl rfl) ?_
          refine im_st (r_iconst (v := 0) dX9_count_65 rfl kI_0) ?_
          refine im_st (s_aaload15 (b := 67) dX9_count_66 rfl rfl (Nat.le_of_ble_eq_true rfl) (inR_in rfl) rfl) ?_
          refine im_st (s_getI (tag := 6) (j := 0) dX9_count_67 rfl fl_X9_324 rfl (Nat.le_of_ble_eq_true rfl) rfl) ?_
          refine im_st (r_iconst (v := -1) dX9_count_70 rfl kI_m1) ?_
          refine im_br (r_icmp_ne (tgt := 79) dX9_count_71 rfl (by decide)) (fun c6 => ?_) (fun c6 => ?_)
          · refine im_st (r_bipush (v := -4) dX9_count_74 rfl kB_m4) ?_
            refine im_st (r_goto (pc1 := 88) dX9_count_76 (by decide)) ?_
            exact im_ret (fun q => g_iret rfl rfl rfl dX9_count_88 q)
          · refine im_st (r_aload_n (i := 0) dX9_count_79 rfl rfl rfl) ?_
            refine im_st (s_getR (b := 66) (tag := 9) (j := 12) dX9_count_80 rfl fl_X9_84 rfl (Nat.le_of_ble_eq_true rfl) rfl rfl) ?_
            refine im_st (r_iconst (v := 0) dX9_count_83 rfl kI_0) ?_
            refine im_st (s_aaload15 (b := 67) dX9_count_84 rfl rfl (Nat.le_of_ble_eq_true rfl) (inR_in rfl) rfl) ?_
            refine im_st (s_getI (tag := 6) (j := 1) dX9_count_85 rfl fl_X9_345 rfl (Nat.le_of_ble_eq_true rfl) rfl) ?_
            exact im_ret (fun q => g_iret rfl rfl rfl dX9_count_88 q)
        · refine im_if (fun c7 => ?_) (fun c7 => ?_)
          · refine im_st (r_tin (off := 88) (pc1 := 89) dX9_count_1 (by rw [c7]; decide) (by rw [c7]; decide) (by rw [c7]; rfl) (by decide)) ?_
            refine im_st (r_aload_n (i := 0) dX9_count_89 rfl rfl rfl) ?_
            refine im_st (s_getR (b := 1) (tag := 9) (j := 0) dX9_count_90 rfl fl_X9_10 rfl (Nat.le_of_ble_eq_true rfl) rfl rfl) ?_
            refine im_st (r_iconst (v := 0) dX9_count_93 rfl kI_0) ?_
            refine im_bind (fun y8 hy8 => ?_)
            refine im_st (r_callV (as := [.int (0 : Int32)]) (r := some (.int y8)) (kc1 := 0) (ks1 := 0) (st := []) (st1 := [.int y8]) (e_X7_pegsOfRag 1 (0 : Int32) σ τ isSl_1 y8 hy8) mv_X7_pegsOfRag lk_X9_346 ⟨by decide, by decide⟩ rfl (Nat.le_of_ble_eq_true rfl) (by decide) ⟨_, rfl, rfl⟩ ⟨by decide, by decide⟩ (Nat.le_of_ble_eq_true rfl) dX9_count_94 rfl rfl rfl rfl rfl) ?_
            exact im_ret (fun q => g_iret rfl rfl rfl dX9_count_97 q)
          · refine im_if (fun c9 => ?_) (fun c9 => ?_)
            · refine im_st (r_tin (off := 97) (pc1 := 98) dX9_count_1 (by rw [c9]; decide) (by rw [c9]; decide) (by rw [c9]; rfl) (by decide)) ?_
              refine im_st (r_aload_n (i := 0) dX9_count_98 rfl rfl rfl) ?_
              refine im_st (s_getR (b := 1) (tag := 9) (j := 0) dX9_count_99 rfl fl_X9_10 rfl (Nat.le_of_ble_eq_true rfl) rfl rfl) ?_
              refine im_bind (fun y10 hy10 => ?_)
              refine im_st (r_callV (as := []) (r := some (.int y10)) (kc1 := 0) (ks1 := 0) (st := []) (st1 := [.int y10]) (e_X7_speedOfAll 1 σ τ isSl_1 y10 hy10) mv_X7_speedOfAll lk_X9_349 ⟨by decide, by decide⟩ rfl (Nat.le_of_ble_eq_true rfl) (by decide) ⟨_, rfl, rfl⟩ ⟨by decide, by decide⟩ (Nat.le_of_ble_eq_true rfl) dX9_count_102 rfl rfl rfl rfl rfl) ?_
              exact im_ret (fun q => g_iret rfl rfl rfl dX9_count_105 q)
            · refine im_st (r_tout (pc1 := 106) dX9_count_1 (by have h0 := tsw_not c1 (a := 0) (by decide); have h1 := tsw_not c2 (a := 1) (by decide); have h2 := tsw_not c4 (a := 2) (by decide); have h3 := tsw_not c5 (a := 3) (by decide); have h4 := tsw_not c7 (a := 4) (by decide); have h5 := tsw_not c9 (a := 5) (by decide); omega) (by decide)) ?_
              refine im_st (r_iconst (v := -1) dX9_count_106 rfl kI_m1) ?_
              exact im_ret (fun q => g_iret rfl rfl rfl dX9_count_107 q)
theorem e_X9_count (a1 : Int32) (σ : Sg) (τ : Sl) (y : Int32) (hy : f_X9_count a1 σ = some y) : EvD M_X9_count [.ref 0, .int a1] (mk σ τ) (some (.int y)) (mk σ τ) := EvM.of (by decide +kernel) (Nat.le_of_ble_eq_true rfl) (i_X9_count a1 σ τ _ y hy ⟨rfl, rfl⟩)
