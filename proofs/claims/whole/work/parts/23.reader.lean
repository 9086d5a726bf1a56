def M_X4_fail : Ms := (yX4_fail, cX4_fail, 2, none, 0, 0, 0, 0)
theorem mv_X4_fail : MV M_X4_fail 1 := ⟨⟨q382, q10, by decide, by decide, by decide +kernel⟩, q381, p2⟩
def f_X4_fail (a1 : Int32) (σ : Sg) : Sg :=
  if (σ 56 1) = 0 then
    app (up2 σ 56 1 a1) fun (σ2 : Sg) =>
    (up2 σ2 56 3 (σ2 56 5))
  else
    σ
set_option maxHeartbeats 4000000 in
set_option maxRecDepth 20000 in
theorem i_X4_fail (a1 : Int32) (σ : Sg) (τ : Sl) (Q : Option Value → Hp → Prop) : Imp (some (f_X4_fail a1 σ)) (fun (y : Sg) => Q (none) (mk y τ)) (Go M_X4_fail Q 0 0 0 [some (.ref 56), some (.int a1)] [] (mk σ τ)) := by
  unfold f_X4_fail
  refine im_st (r_aload_n (i := 0) dX4_fail_0 rfl rfl rfl) ?_
  refine im_st (s_getI (tag := 4) (j := 1) dX4_fail_1 rfl fl_X4_18 rfl (Nat.le_of_ble_eq_true rfl) rfl) ?_
  refine im_brS (r_if_ne (tgt := 20) dX4_fail_4 rfl (by decide)) (fun c1 => ?_) (fun c1 => ?_)
  · refine im_st (r_aload_n (i := 0) dX4_fail_7 rfl rfl rfl) ?_
    refine im_st (r_iload_n (i := 1) dX4_fail_8 rfl rfl rfl) ?_
    refine im_st (s_putI (tag := 4) (j := 1) dX4_fail_9 rfl fl_X4_18 rfl (Nat.le_of_ble_eq_true rfl) rfl fw_4_1) ?_
    refine im_st (r_aload_n (i := 0) dX4_fail_12 rfl rfl rfl) ?_
    refine im_st (r_aload_n (i := 0) dX4_fail_13 rfl rfl rfl) ?_
    refine im_appS (Gm := fun (σ2 : Sg) => Go M_X4_fail Q 0 0 14 [some (.ref 56), some (.int a1)] [.ref 56, .ref 56] (mk σ2 τ)) (fun σ2 => ?_)
    refine im_st (s_getI (tag := 4) (j := 5) dX4_fail_14 rfl fl_X4_28 rfl (Nat.le_of_ble_eq_true rfl) rfl) ?_
    refine im_st (s_putI (tag := 4) (j := 3) dX4_fail_17 rfl fl_X4_22 rfl (Nat.le_of_ble_eq_true rfl) rfl fw_4_3) ?_
    exact im_ret (fun q => g_vret rfl rfl rfl dX4_fail_20 q)
  · exact im_ret (fun q => g_vret rfl rfl rfl dX4_fail_20 q)
theorem e_X4_fail (a1 : Int32) (σ : Sg) (τ : Sl) : EvD M_X4_fail [.ref 56, .int a1] (mk σ τ) (none) (mk (f_X4_fail a1 σ) τ) := EvM.of (by decide +kernel) (Nat.le_of_ble_eq_true rfl) (i_X4_fail a1 σ τ _ _ rfl ⟨rfl, rfl⟩)
def M_X4_valueNumber : Ms := (yX4_valueNumber, cX4_valueNumber, 3, none, 1, 21, 0, 0)
theorem mv_X4_valueNumber : MV M_X4_valueNumber 0 := ⟨⟨q378, q10, by decide, by decide, by decide +kernel⟩, q377, p1⟩
def f_X4_valueNumber (σ : Sg) : Option Sg :=
  if ((σ 56 6) - (σ 56 5)) ≤ (2 : Int32) then
    (f_X8_byteAt ((σ 56 6) - (1 : Int32)) σ).bind fun (y2 : Int32) =>
    (if ((σ 56 6) - (σ 56 5)) = (2 : Int32) then
      (f_X8_byteAt (σ 56 5) σ).bind fun (y5 : Int32) =>
      some (((10 : Int32) * (y5 - (48 : Int32))) + (y2 - (48 : Int32)))
    else
      some (y2 - (48 : Int32))).bind fun (j3 : Int32) =>
    some (up2 σ 56 7 j3)
  else
    some (f_X4_fail (1 : Int32) σ)
set_option maxHeartbeats 4000000 in
set_option maxRecDepth 20000 in
theorem i_X4_valueNumber (σ : Sg) (τ : Sl) (Q : Option Value → Hp → Prop) : Imp (f_X4_valueNumber σ) (fun (y : Sg) => Q (none) (mk y τ)) (Go M_X4_valueNumber Q 0 0 0 [some (.ref 56), none, none] [] (mk σ τ)) := by
  unfold f_X4_valueNumber
  refine im_st (r_aload_n (i := 0) dX4_valueNumber_0 rfl rfl rfl) ?_
  refine im_st (s_getI (tag := 4) (j := 6) dX4_valueNumber_1 rfl fl_X4_31 rfl (Nat.le_of_ble_eq_true rfl) rfl) ?_
  refine im_st (r_aload_n (i := 0) dX4_valueNumber_4 rfl rfl rfl) ?_
  refine im_st (s_getI (tag := 4) (j := 5) dX4_valueNumber_5 rfl fl_X4_28 rfl (Nat.le_of_ble_eq_true rfl) rfl) ?_
  refine im_st (r_isub dX4_valueNumber_8 rfl) ?_
  refine im_st (r_istore_n (i := 1) (L1 := [some (.ref 56), some (.int ((σ 56 6) - (σ 56 5))), none]) dX4_valueNumber_9 rfl rfl (by decide) rfl) ?_
  refine im_st (r_iload_n (i := 1) dX4_valueNumber_10 rfl rfl rfl) ?_
  refine im_st (r_iconst (v := 2) dX4_valueNumber_11 rfl kI_2) ?_
  refine im_br (r_icmp_le (tgt := 23) dX4_valueNumber_12 rfl (by decide)) (fun c1 => ?_) (fun c1 => ?_)
  · refine im_st (r_aload_n (i := 0) dX4_valueNumber_23 rfl rfl rfl) ?_
    refine im_st (s_getR (b := 54) (tag := 4) (j := 2) dX4_valueNumber_24 rfl fl_X4_37 rfl (Nat.le_of_ble_eq_true rfl) rfl rfl) ?_
    refine im_st (r_aload_n (i := 0) dX4_valueNumber_27 rfl rfl rfl) ?_
    refine im_st (s_getI (tag := 4) (j := 6) dX4_valueNumber_28 rfl fl_X4_31 rfl (Nat.le_of_ble_eq_true rfl) rfl) ?_
    refine im_st (r_iconst (v := 1) dX4_valueNumber_31 rfl kI_1) ?_
    refine im_st (r_isub dX4_valueNumber_32 rfl) ?_
    refine im_bind (fun y2 hy2 => ?_)
    refine im_st (r_callV (as := [.int ((σ 56 6) - (1 : Int32))]) (r := some (.int y2)) (kc1 := 0) (ks1 := 0) (st := []) (st1 := [.int y2]) (e_X8_byteAt ((σ 56 6) - (1 : Int32)) σ τ y2 hy2) mv_X8_byteAt lk_X4_71 ⟨by decide, by decide⟩ rfl (Nat.le_of_ble_eq_true rfl) (by decide) ⟨_, rfl, rfl⟩ ⟨by decide, by decide⟩ (Nat.le_of_ble_eq_true rfl) dX4_valueNumber_33 rfl rfl rfl rfl rfl) ?_
    refine im_st (r_bipush (v := 48) dX4_valueNumber_36 rfl kB_48) ?_
    refine im_st (r_isub dX4_valueNumber_38 rfl) ?_
    refine im_st (r_istore_n (i := 2) (L1 := [some (.ref 56), some (.int ((σ 56 6) - (σ 56 5))), some (.int (y2 - (48 : Int32)))]) dX4_valueNumber_39 rfl rfl (by decide) rfl) ?_
    refine im_st (r_aload_n (i := 0) dX4_valueNumber_40 rfl rfl rfl) ?_
    refine im_st (r_iload_n (i := 1) dX4_valueNumber_41 rfl rfl rfl) ?_
    refine im_st (r_iconst (v := 2) dX4_valueNumber_42 rfl kI_2) ?_
    refine im_seq (Gm := fun (j3 : Int32) => Go M_X4_valueNumber Q 0 0 69 [none, none, none] [.int j3, .ref 56] (mk σ τ)) ?_ (fun j3 => ?_)
    · refine im_br (r_icmp_ne (tgt := 68) dX4_valueNumber_43 rfl (by decide)) (fun c4 => ?_) (fun c4 => ?_)
      · refine im_st (r_bipush (v := 10) dX4_valueNumber_46 rfl kB_10) ?_
        refine im_st (r_aload_n (i := 0) dX4_valueNumber_48 rfl rfl rfl) ?_
        refine im_st (s_getR (b := 54) (tag := 4) (j := 2) dX4_valueNumber_49 rfl fl_X4_37 rfl (Nat.le_of_ble_eq_true rfl) rfl rfl) ?_
        refine im_st (r_aload_n (i := 0) dX4_valueNumber_52 rfl rfl rfl) ?_
        refine im_st (s_getI (tag := 4) (j := 5) dX4_valueNumber_53 rfl fl_X4_28 rfl (Nat.le_of_ble_eq_true rfl) rfl) ?_
        refine im_bind (fun y5 hy5 => ?_)
        refine im_st (r_callV (as := [.int (σ 56 5)]) (r := some (.int y5)) (kc1 := 0) (ks1 := 0) (st := [.int (10 : Int32), .ref 56]) (st1 := [.int y5, .int (10 : Int32), .ref 56]) (e_X8_byteAt (σ 56 5) σ τ y5 hy5) mv_X8_byteAt lk_X4_71 ⟨by decide, by decide⟩ rfl (Nat.le_of_ble_eq_true rfl) (by decide) ⟨_, rfl, rfl⟩ ⟨by decide, by decide⟩ (Nat.le_of_ble_eq_true rfl) dX4_valueNumber_56 rfl rfl rfl rfl rfl) ?_
        refine im_st (r_bipush (v := 48) dX4_valueNumber_59 rfl kB_48) ?_
        refine im_st (r_isub dX4_valueNumber_61 rfl) ?_
        refine im_st (r_imul dX4_valueNumber_62 rfl) ?_
        refine im_st (r_iload_n (i := 2) dX4_valueNumber_63 rfl rfl rfl) ?_
        refine im_st (r_iadd dX4_valueNumber_64 rfl) ?_
        refine im_st (r_goto (pc1 := 69) dX4_valueNumber_65 (by decide)) ?_
        refine im_st (r_fgt (L1 := [none, none, none]) [0, 1, 2] rfl) ?_
        exact im_ret id
      · refine im_st (r_iload_n (i := 2) dX4_valueNumber_68 rfl rfl rfl) ?_
        refine im_st (r_fgt (L1 := [none, none, none]) [0, 1, 2] rfl) ?_
        exact im_ret id
    refine im_st (s_putI (tag := 4) (j := 7) dX4_valueNumber_69 rfl fl_X4_34 rfl (Nat.le_of_ble_eq_true rfl) rfl fw_4_7) ?_
    exact im_ret (fun q => g_vret rfl rfl rfl dX4_valueNumber_72 q)
  · refine im_st (r_aload_n (i := 0) dX4_valueNumber_15 rfl rfl rfl) ?_
    refine im_st (r_iconst (v := 1) dX4_valueNumber_16 rfl kI_1) ?_
    refine im_st (r_callV (as := [.int (1 : Int32)]) (r := none) (kc1 := 0) (ks1 := 0) (st := []) (st1 := []) (e_X4_fail (1 : Int32) σ τ) mv_X4_fail lk_X4_61 ⟨by decide, by decide⟩ rfl (Nat.le_of_ble_eq_true rfl) (by decide) ⟨_, rfl, rfl⟩ ⟨by decide, by decide⟩ (Nat.le_of_ble_eq_true rfl) dX4_valueNumber_17 rfl rfl rfl rfl rfl) ?_
    refine im_st (r_goto (pc1 := 72) dX4_valueNumber_20 (by decide)) ?_
    exact im_ret (fun q => g_vret rfl rfl rfl dX4_valueNumber_72 q)
theorem e_X4_valueNumber (σ : Sg) (τ : Sl) (y : Sg) (hy : f_X4_valueNumber σ = some y) : EvD M_X4_valueNumber [.ref 56] (mk σ τ) (none) (mk y τ) := EvM.of (by decide +kernel) (Nat.le_of_ble_eq_true rfl) (i_X4_valueNumber σ τ _ y hy ⟨rfl, rfl⟩)
def M_X4_advance : Ms := (yX4_advance, cX4_advance, 2, none, 2, 43, 0, 0)
theorem mv_X4_advance : MV M_X4_advance 0 := ⟨⟨q363, q10, by decide, by decide, by decide +kernel⟩, q362, p0⟩
def f_X4_advance (σ : Sg) : Option Sg :=
  if (σ 56 1) = 0 then
    (f_X8_endOfRun (σ 56 6) (32 : Int32) (32 : Int32) σ).bind fun (y2 : Int32) =>
    app (up2 σ 56 5 y2) fun (σ3 : Sg) =>
    (f_X8_byteAt (σ3 56 5) σ3).bind fun (y4 : Int32) =>
    if (σ3 56 5) < (σ3 54 1) then
      if y4 < (97 : Int32) then
        if y4 < (48 : Int32) then
          if y4 = (59 : Int32) then
            app (up2 σ3 56 4 (3 : Int32)) fun (σ9 : Sg) =>
            some (up2 σ9 56 6 ((σ9 56 5) + (1 : Int32)))
          else
            some (f_X4_fail (1 : Int32) σ3)
        else
          if (57 : Int32) < y4 then
            if y4 = (59 : Int32) then
              app (up2 σ3 56 4 (3 : Int32)) fun (σ12 : Sg) =>
              some (up2 σ12 56 6 ((σ12 56 5) + (1 : Int32)))
            else
              some (f_X4_fail (1 : Int32) σ3)
          else
            app (up2 σ3 56 4 (2 : Int32)) fun (σ13 : Sg) =>
            (f_X8_endOfRun (σ13 56 5) (48 : Int32) (57 : Int32) σ13).bind fun (y14 : Int32) =>
            app (up2 σ13 56 6 y14) fun (σ15 : Sg) =>
            (f_X4_valueNumber σ15).bind fun (y16 : Sg) =>
            some y16
      else
        if (122 : Int32) < y4 then
          if y4 < (48 : Int32) then
            if y4 = (59 : Int32) then
              app (up2 σ3 56 4 (3 : Int32)) fun (σ20 : Sg) =>
              some (up2 σ20 56 6 ((σ20 56 5) + (1 : Int32)))
            else
              some (f_X4_fail (1 : Int32) σ3)
          else
            if (57 : Int32) < y4 then
              if y4 = (59 : Int32) then
                app (up2 σ3 56 4 (3 : Int32)) fun (σ23 : Sg) =>
                some (up2 σ23 56 6 ((σ23 56 5) + (1 : Int32)))
              else
                some (f_X4_fail (1 : Int32) σ3)
            else
              app (up2 σ3 56 4 (2 : Int32)) fun (σ24 : Sg) =>
              (f_X8_endOfRun (σ24 56 5) (48 : Int32) (57 : Int32) σ24).bind fun (y25 : Int32) =>
              app (up2 σ24 56 6 y25) fun (σ26 : Sg) =>
              (f_X4_valueNumber σ26).bind fun (y27 : Sg) =>
              some y27
        else
          app (up2 σ3 56 4 (1 : Int32)) fun (σ28 : Sg) =>
          (f_X8_endOfRun (σ28 56 5) (97 : Int32) (122 : Int32) σ28).bind fun (y29 : Int32) =>
          some (up2 σ28 56 6 y29)
    else
      app (up2 σ3 56 4 (4 : Int32)) fun (σ30 : Sg) =>
      some (up2 σ30 56 6 (σ30 56 5))
  else
    some σ
set_option maxHeartbeats 4000000 in
set_option maxRecDepth 20000 in
theorem i_X4_advance (σ : Sg) (τ : Sl) (Q : Option Value → Hp → Prop) : Imp (f_X4_advance σ) (fun (y : Sg) => Q (none) (mk y τ)) (Go M_X4_advance Q 0 0 0 [some (.ref 56), none] [] (mk σ τ)) := by
  unfold f_X4_advance
  refine im_st (r_aload_n (i := 0) dX4_advance_0 rfl rfl rfl) ?_
  refine im_st (s_getI (tag := 4) (j := 1) dX4_advance_1 rfl fl_X4_18 rfl (Nat.le_of_ble_eq_true rfl) rfl) ?_
  refine im_br (r_if_eq (tgt := 8) dX4_advance_4 rfl (by decide)) (fun c1 => ?_) (fun c1 => ?_)
  · refine im_st (r_aload_n (i := 0) dX4_advance_8 rfl rfl rfl) ?_
    refine im_st (r_aload_n (i := 0) dX4_advance_9 rfl rfl rfl) ?_
    refine im_st (s_getR (b := 54) (tag := 4) (j := 2) dX4_advance_10 rfl fl_X4_37 rfl (Nat.le_of_ble_eq_true rfl) rfl rfl) ?_
    refine im_st (r_aload_n (i := 0) dX4_advance_13 rfl rfl rfl) ?_
    refine im_st (s_getI (tag := 4) (j := 6) dX4_advance_14 rfl fl_X4_31 rfl (Nat.le_of_ble_eq_true rfl) rfl) ?_
    refine im_st (r_bipush (v := 32) dX4_advance_17 rfl kB_32) ?_
    refine im_st (r_bipush (v := 32) dX4_advance_19 rfl kB_32) ?_
    refine im_bind (fun y2 hy2 => ?_)
    refine im_st (r_callV (as := [.int (σ 56 6), .int (32 : Int32), .int (32 : Int32)]) (r := some (.int y2)) (kc1 := 0) (ks1 := 0) (st := [.ref 56]) (st1 := [.int y2, .ref 56]) (e_X8_endOfRun (σ 56 6) (32 : Int32) (32 : Int32) σ τ y2 hy2) mv_X8_endOfRun lk_X4_65 ⟨by decide, by decide⟩ rfl (Nat.le_of_ble_eq_true rfl) (by decide) ⟨_, rfl, rfl⟩ ⟨by decide, by decide⟩ (Nat.le_of_ble_eq_true rfl) dX4_advance_21 rfl rfl rfl rfl rfl) ?_
    refine im_st (s_putI (tag := 4) (j := 5) dX4_advance_24 rfl fl_X4_28 rfl (Nat.le_of_ble_eq_true rfl) rfl fw_4_5) ?_
    refine im_st (r_aload_n (i := 0) dX4_advance_27 rfl rfl rfl) ?_
    refine im_st (s_getR (b := 54) (tag := 4) (j := 2) dX4_advance_28 rfl fl_X4_37 rfl (Nat.le_of_ble_eq_true rfl) rfl rfl) ?_
    refine im_st (r_aload_n (i := 0) dX4_advance_31 rfl rfl rfl) ?_
    refine im_app (Gm := fun (σ3 : Sg) => Go M_X4_advance Q 0 0 32 [some (.ref 56), none] [.ref 56, .ref 54] (mk σ3 τ)) (fun σ3 => ?_)
    refine im_st (s_getI (tag := 4) (j := 5) dX4_advance_32 rfl fl_X4_28 rfl (Nat.le_of_ble_eq_true rfl) rfl) ?_
    refine im_bind (fun y4 hy4 => ?_)
    refine im_st (r_callV (as := [.int (σ3 56 5)]) (r := some (.int y4)) (kc1 := 0) (ks1 := 0) (st := []) (st1 := [.int y4]) (e_X8_byteAt (σ3 56 5) σ3 τ y4 hy4) mv_X8_byteAt lk_X4_71 ⟨by decide, by decide⟩ rfl (Nat.le_of_ble_eq_true rfl) (by decide) ⟨_, rfl, rfl⟩ ⟨by decide, by decide⟩ (Nat.le_of_ble_eq_true rfl) dX4_advance_35 rfl rfl rfl rfl rfl) ?_
    refine im_st (r_istore_n (i := 1) (L1 := [some (.ref 56), some (.int y4)]) dX4_advance_38 rfl rfl (by decide) rfl) ?_
    refine im_st (r_aload_n (i := 0) dX4_advance_39 rfl rfl rfl) ?_
    refine im_st (s_getI (tag := 4) (j := 5) dX4_advance_40 rfl fl_X4_28 rfl (Nat.le_of_ble_eq_true rfl) rfl) ?_
    refine im_st (r_aload_n (i := 0) dX4_advance_43 rfl rfl rfl) ?_
    refine im_st (s_getR (b := 54) (tag := 4) (j := 2) dX4_advance_44 rfl fl_X4_37 rfl (Nat.le_of_ble_eq_true rfl) rfl rfl) ?_
    refine im_st (s_getI (tag := 8) (j := 1) dX4_advance_47 rfl fl_X4_75 rfl (Nat.le_of_ble_eq_true rfl) rfl) ?_
    refine im_br (r_icmp_lt (tgt := 69) dX4_advance_50 rfl (by decide)) (fun c5 => ?_) (fun c5 => ?_)
    · refine im_st (r_iload_n (i := 1) dX4_advance_69 rfl rfl rfl) ?_
      refine im_st (r_bipush (v := 97) dX4_advance_70 rfl kB_97) ?_
      refine im_br (r_icmp_lt (tgt := 108) dX4_advance_72 rfl (by decide)) (fun c6 => ?_) (fun c6 => ?_)
      · refine im_st (r_iload_n (i := 1) dX4_advance_108 rfl rfl rfl) ?_
        refine im_st (r_bipush (v := 48) dX4_advance_109 rfl kB_48) ?_
        refine im_br (r_icmp_lt (tgt := 151) dX4_advance_111 rfl (by decide)) (fun c7 => ?_) (fun c7 => ?_)
        · refine im_st (r_iload_n (i := 1) dX4_advance_151 rfl rfl rfl) ?_
          refine im_st (r_bipush (v := 59) dX4_advance_152 rfl kB_59) ?_
          refine im_br (r_icmp_ne (tgt := 175) dX4_advance_154 rfl (by decide)) (fun c8 => ?_) (fun c8 => ?_)
          · refine im_st (r_aload_n (i := 0) dX4_advance_157 rfl rfl rfl) ?_
            refine im_st (r_iconst (v := 3) dX4_advance_158 rfl kI_3) ?_
            refine im_st (s_putI (tag := 4) (j := 4) dX4_advance_159 rfl fl_X4_25 rfl (Nat.le_of_ble_eq_true rfl) rfl fw_4_4) ?_
            refine im_st (r_aload_n (i := 0) dX4_advance_162 rfl rfl rfl) ?_
            refine im_st (r_aload_n (i := 0) dX4_advance_163 rfl rfl rfl) ?_
            refine im_app (Gm := fun (σ9 : Sg) => Go M_X4_advance Q 0 0 164 [some (.ref 56), some (.int y4)] [.ref 56, .ref 56] (mk σ9 τ)) (fun σ9 => ?_)
            refine im_st (s_getI (tag := 4) (j := 5) dX4_advance_164 rfl fl_X4_28 rfl (Nat.le_of_ble_eq_true rfl) rfl) ?_
            refine im_st (r_iconst (v := 1) dX4_advance_167 rfl kI_1) ?_
            refine im_st (r_iadd dX4_advance_168 rfl) ?_
            refine im_st (s_putI (tag := 4) (j := 6) dX4_advance_169 rfl fl_X4_31 rfl (Nat.le_of_ble_eq_true rfl) rfl fw_4_6) ?_
            refine im_st (r_goto (pc1 := 180) dX4_advance_172 (by decide)) ?_
            exact im_ret (fun q => g_vret rfl rfl rfl dX4_advance_180 q)
          · refine im_st (r_aload_n (i := 0) dX4_advance_175 rfl rfl rfl) ?_
            refine im_st (r_iconst (v := 1) dX4_advance_176 rfl kI_1) ?_
            refine im_st (r_callV (as := [.int (1 : Int32)]) (r := none) (kc1 := 0) (ks1 := 0) (st := []) (st1 := []) (e_X4_fail (1 : Int32) σ3 τ) mv_X4_fail lk_X4_61 ⟨by decide, by decide⟩ rfl (Nat.le_of_ble_eq_true rfl) (by decide) ⟨_, rfl, rfl⟩ ⟨by decide, by decide⟩ (Nat.le_of_ble_eq_true rfl) dX4_advance_177 rfl rfl rfl rfl rfl) ?_
            exact im_ret (fun q => g_vret rfl rfl rfl dX4_advance_180 q)
        · refine im_st (r_iload_n (i := 1) dX4_advance_114 rfl rfl rfl) ?_
          refine im_st (r_bipush (v := 57) dX4_advance_115 rfl kB_57) ?_
          refine im_br (r_icmp_gt (tgt := 151) dX4_advance_117 rfl (by decide)) (fun c10 => ?_) (fun c10 => ?_)
          · refine im_st (r_iload_n (i := 1) dX4_advance_151 rfl rfl rfl) ?_
            refine im_st (r_bipush (v := 59) dX4_advance_152 rfl kB_59) ?_
            refine im_br (r_icmp_ne (tgt := 175) dX4_advance_154 rfl (by decide)) (fun c11 => ?_) (fun c11 => ?_)
            · refine im_st (r_aload_n (i := 0) dX4_advance_157 rfl rfl rfl) ?_
              refine im_st (r_iconst (v := 3) dX4_advance_158 rfl kI_3) ?_
              refine im_st (s_putI (tag := 4) (j := 4) dX4_advance_159 rfl fl_X4_25 rfl (Nat.le_of_ble_eq_true rfl) rfl fw_4_4) ?_
              refine im_st (r_aload_n (i := 0) dX4_advance_162 rfl rfl rfl) ?_
              refine im_st (r_aload_n (i := 0) dX4_advance_163 rfl rfl rfl) ?_
              refine im_app (Gm := fun (σ12 : Sg) => Go M_X4_advance Q 0 0 164 [some (.ref 56), some (.int y4)] [.ref 56, .ref 56] (mk σ12 τ)) (fun σ12 => ?_)
              refine im_st (s_getI (tag := 4) (j := 5) dX4_advance_164 rfl fl_X4_28 rfl (Nat.le_of_ble_eq_true rfl) rfl) ?_
              refine im_st (r_iconst (v := 1) dX4_advance_167 rfl kI_1) ?_
              refine im_st (r_iadd dX4_advance_168 rfl) ?_
              refine im_st (s_putI (tag := 4) (j := 6) dX4_advance_169 rfl fl_X4_31 rfl (Nat.le_of_ble_eq_true rfl) rfl fw_4_6) ?_
              refine im_st (r_goto (pc1 := 180) dX4_advance_172 (by decide)) ?_
              exact im_ret (fun q => g_vret rfl rfl rfl dX4_advance_180 q)
            · refine im_st (r_aload_n (i := 0) dX4_advance_175 rfl rfl rfl) ?_
              refine im_st (r_iconst (v := 1) dX4_advance_176 rfl kI_1) ?_
              refine im_st (r_callV (as := [.int (1 : Int32)]) (r := none) (kc1 := 0) (ks1 := 0) (st := []) (st1 := []) (e_X4_fail (1 : Int32) σ3 τ) mv_X4_fail lk_X4_61 ⟨by decide, by decide⟩ rfl (Nat.le_of_ble_eq_true rfl) (by decide) ⟨_, rfl, rfl⟩ ⟨by decide, by decide⟩ (Nat.le_of_ble_eq_true rfl) dX4_advance_177 rfl rfl rfl rfl rfl) ?_
              exact im_ret (fun q => g_vret rfl rfl rfl dX4_advance_180 q)
          · refine im_st (r_aload_n (i := 0) dX4_advance_120 rfl rfl rfl) ?_
            refine im_st (r_iconst (v := 2) dX4_advance_121 rfl kI_2) ?_
            refine im_st (s_putI (tag := 4) (j := 4) dX4_advance_122 rfl fl_X4_25 rfl (Nat.le_of_ble_eq_true rfl) rfl fw_4_4) ?_
            refine im_st (r_aload_n (i := 0) dX4_advance_125 rfl rfl rfl) ?_
            refine im_st (r_aload_n (i := 0) dX4_advance_126 rfl rfl rfl) ?_
            refine im_st (s_getR (b := 54) (tag := 4) (j := 2) dX4_advance_127 rfl fl_X4_37 rfl (Nat.le_of_ble_eq_true rfl) rfl rfl) ?_
            refine im_st (r_aload_n (i := 0) dX4_advance_130 rfl rfl rfl) ?_
            refine im_app (Gm := fun (σ13 : Sg) => Go M_X4_advance Q 0 0 131 [some (.ref 56), some (.int y4)] [.ref 56, .ref 54, .ref 56] (mk σ13 τ)) (fun σ13 => ?_)
            refine im_st (s_getI (tag := 4) (j := 5) dX4_advance_131 rfl fl_X4_28 rfl (Nat.le_of_ble_eq_true rfl) rfl) ?_
            refine im_st (r_bipush (v := 48) dX4_advance_134 rfl kB_48) ?_
            refine im_st (r_bipush (v := 57) dX4_advance_136 rfl kB_57) ?_
            refine im_bind (fun y14 hy14 => ?_)
            refine im_st (r_callV (as := [.int (σ13 56 5), .int (48 : Int32), .int (57 : Int32)]) (r := some (.int y14)) (kc1 := 0) (ks1 := 0) (st := [.ref 56]) (st1 := [.int y14, .ref 56]) (e_X8_endOfRun (σ13 56 5) (48 : Int32) (57 : Int32) σ13 τ y14 hy14) mv_X8_endOfRun lk_X4_65 ⟨by decide, by decide⟩ rfl (Nat.le_of_ble_eq_true rfl) (by decide) ⟨_, rfl, rfl⟩ ⟨by decide, by decide⟩ (Nat.le_of_ble_eq_true rfl) dX4_advance_138 rfl rfl rfl rfl rfl) ?_
            refine im_st (s_putI (tag := 4) (j := 6) dX4_advance_141 rfl fl_X4_31 rfl (Nat.le_of_ble_eq_true rfl) rfl fw_4_6) ?_
            refine im_st (r_aload_n (i := 0) dX4_advance_144 rfl rfl rfl) ?_
            refine im_app (Gm := fun (σ15 : Sg) => Go M_X4_advance Q 0 0 145 [some (.ref 56), some (.int y4)] [.ref 56] (mk σ15 τ)) (fun σ15 => ?_)
            refine im_bind (fun y16 hy16 => ?_)
            refine im_st (r_callV (as := []) (r := none) (kc1 := 0) (ks1 := 0) (st := []) (st1 := []) (e_X4_valueNumber σ15 τ y16 hy16) mv_X4_valueNumber lk_X4_78 ⟨by decide, by decide⟩ rfl (Nat.le_of_ble_eq_true rfl) (by decide) ⟨_, rfl, rfl⟩ ⟨by decide, by decide⟩ (Nat.le_of_ble_eq_true rfl) dX4_advance_145 rfl rfl rfl rfl rfl) ?_
            refine im_st (r_goto (pc1 := 180) dX4_advance_148 (by decide)) ?_
            exact im_ret (fun q => g_vret rfl rfl rfl dX4_advance_180 q)
      · refine im_st (r_iload_n (i := 1) dX4_advance_75 rfl rfl rfl) ?_
        refine im_st (r_bipush (v := 122) dX4_advance_76 rfl kB_122) ?_
        refine im_br (r_icmp_gt (tgt := 108) dX4_advance_78 rfl (by decide)) (fun c17 => ?_) (fun c17 => ?_)
        · refine im_st (r_iload_n (i := 1) dX4_advance_108 rfl rfl rfl) ?_
          refine im_st (r_bipush (v := 48) dX4_advance_109 rfl kB_48) ?_
          refine im_br (r_icmp_lt (tgt := 151) dX4_advance_111 rfl (by decide)) (fun c18 => ?_) (fun c18 => ?_)
          · refine im_st (r_iload_n (i := 1) dX4_advance_151 rfl rfl rfl) ?_
            refine im_st (r_bipush (v := 59) dX4_advance_152 rfl kB_59) ?_
            refine im_br (r_icmp_ne (tgt := 175) dX4_advance_154 rfl (by decide)) (fun c19 => ?_) (fun c19 => ?_)
            · refine im_st (r_aload_n (i := 0) dX4_advance_157 rfl rfl rfl) ?_
              refine im_st (r_iconst (v := 3) dX4_advance_158 rfl kI_3) ?_
              refine im_st (s_putI (tag := 4) (j := 4) dX4_advance_159 rfl fl_X4_25 rfl (Nat.le_of_ble_eq_true rfl) rfl fw_4_4) ?_
              refine im_st (r_aload_n (i := 0) dX4_advance_162 rfl rfl rfl) ?_
              refine im_st (r_aload_n (i := 0) dX4_advance_163 rfl rfl rfl) ?_
              refine im_app (Gm := fun (σ20 : Sg) => Go M_X4_advance Q 0 0 164 [some (.ref 56), some (.int y4)] [.ref 56, .ref 56] (mk σ20 τ)) (fun σ20 => ?_)
              refine im_st (s_getI (tag := 4) (j := 5) dX4_advance_164 rfl fl_X4_28 rfl (Nat.le_of_ble_eq_true rfl) rfl) ?_
              refine im_st (r_iconst (v := 1) dX4_advance_167 rfl kI_1) ?_
              refine im_st (r_iadd dX4_advance_168 rfl) ?_
              refine im_st (s_putI (tag := 4) (j := 6) dX4_advance_169 rfl fl_X4_31 rfl (Nat.le_of_ble_eq_true rfl) rfl fw_4_6) ?_
              refine im_st (r_goto (pc1 := 180) dX4_advance_172 (by decide)) ?_
              exact im_ret (fun q => g_vret rfl rfl rfl dX4_advance_180 q)
            · refine im_st (r_aload_n (i := 0) dX4_advance_175 rfl rfl rfl) ?_
              refine im_st (r_iconst (v := 1) dX4_advance_176 rfl kI_1) ?_
              refine im_st (r_callV (as := [.int (1 : Int32)]) (r := none) (kc1 := 0) (ks1 := 0) (st := []) (st1 := []) (e_X4_fail (1 : Int32) σ3 τ) mv_X4_fail lk_X4_61 ⟨by decide, by decide⟩ rfl (Nat.le_of_ble_eq_true rfl) (by decide) ⟨_, rfl, rfl⟩ ⟨by decide, by decide⟩ (Nat.le_of_ble_eq_true rfl) dX4_advance_177 rfl rfl rfl rfl rfl) ?_
              exact im_ret (fun q => g_vret rfl rfl rfl dX4_advance_180 q)
          · refine im_st (r_iload_n (i := 1) dX4_advance_114 rfl rfl rfl) ?_
            refine im_st (r_bipush (v := 57) dX4_advance_115 rfl kB_57) ?_
            refine im_br (r_icmp_gt (tgt := 151) dX4_advance_117 rfl (by decide)) (fun c21 => ?_) (fun c21 => ?_)
            · refine im_st (r_iload_n (i := 1) dX4_advance_151 rfl rfl rfl) ?_
              refine im_st (r_bipush (v := 59) dX4_advance_152 rfl kB_59) ?_
              refine im_br (r_icmp_ne (tgt := 175) dX4_advance_154 rfl (by decide)) (fun c22 => ?_) (fun c22 => ?_)
              · refine im_st (r_aload_n (i := 0) dX4_advance_157 rfl rfl rfl) ?_
                refine im_st (r_iconst (v := 3) dX4_advance_158 rfl kI_3) ?_
                refine im_st (s_putI (tag := 4) (j := 4) dX4_advance_159 rfl fl_X4_25 rfl (Nat.le_of_ble_eq_true rfl) rfl fw_4_4) ?_
                refine im_st (r_aload_n (i := 0) dX4_advance_162 rfl rfl rfl) ?_
                refine im_st (r_aload_n (i := 0) dX4_advance_163 rfl rfl rfl) ?_
                refine im_app (Gm := fun (σ23 : Sg) => Go M_X4_advance Q 0 0 164 [some (.ref 56), some (.int y4)] [.ref 56, .ref 56] (mk σ23 τ)) (fun σ23 => ?_)
                refine im_st (s_getI (tag := 4) (j := 5) dX4_advance_164 rfl fl_X4_28 rfl (Nat.le_of_ble_eq_true rfl) rfl) ?_
                refine im_st (r_iconst (v := 1) dX4_advance_167 rfl kI_1) ?_
                refine im_st (r_iadd dX4_advance_168 rfl) ?_
                refine im_st (s_putI (tag := 4) (j := 6) dX4_advance_169 rfl fl_X4_31 rfl (Nat.le_of_ble_eq_true rfl) rfl fw_4_6) ?_
                refine im_st (r_goto (pc1 := 180) dX4_advance_172 (by decide)) ?_
                exact im_ret (fun q => g_vret rfl rfl rfl dX4_advance_180 q)
              · refine im_st (r_aload_n (i := 0) dX4_advance_175 rfl rfl rfl) ?_
                refine im_st (r_iconst (v := 1) dX4_advance_176 rfl kI_1) ?_
                refine im_st (r_callV (as := [.int (1 : Int32)]) (r := none) (kc1 := 0) (ks1 := 0) (st := []) (st1 := []) (e_X4_fail (1 : Int32) σ3 τ) mv_X4_fail lk_X4_61 ⟨by decide, by decide⟩ rfl (Nat.le_of_ble_eq_true rfl) (by decide) ⟨_, rfl, rfl⟩ ⟨by decide, by decide⟩ (Nat.le_of_ble_eq_true rfl) dX4_advance_177 rfl rfl rfl rfl rfl) ?_
                exact im_ret (fun q => g_vret rfl rfl rfl dX4_advance_180 q)
            · refine im_st (r_aload_n (i := 0) dX4_advance_120 rfl rfl rfl) ?_
              refine im_st (r_iconst (v := 2) dX4_advance_121 rfl kI_2) ?_
              refine im_st (s_putI (tag := 4) (j := 4) dX4_advance_122 rfl fl_X4_25 rfl (Nat.le_of_ble_eq_true rfl) rfl fw_4_4) ?_
              refine im_st (r_aload_n (i := 0) dX4_advance_125 rfl rfl rfl) ?_
              refine im_st (r_aload_n (i := 0) dX4_advance_126 rfl rfl rfl) ?_
              refine im_st (s_getR (b := 54) (tag := 4) (j := 2) dX4_advance_127 rfl fl_X4_37 rfl (Nat.le_of_ble_eq_true rfl) rfl rfl) ?_
              refine im_st (r_aload_n (i := 0) dX4_advance_130 rfl rfl rfl) ?_
              refine im_app (Gm := fun (σ24 : Sg) => Go M_X4_advance Q 0 0 131 [some (.ref 56), some (.int y4)] [.ref 56, .ref 54, .ref 56] (mk σ24 τ)) (fun σ24 => ?_)
              refine im_st (s_getI (tag := 4) (j := 5) dX4_advance_131 rfl fl_X4_28 rfl (Nat.le_of_ble_eq_true rfl) rfl) ?_
              refine im_st (r_bipush (v := 48) dX4_advance_134 rfl kB_48) ?_
              refine im_st (r_bipush (v := 57) dX4_advance_136 rfl kB_57) ?_
              refine im_bind (fun y25 hy25 => ?_)
              refine im_st (r_callV (as := [.int (σ24 56 5), .int (48 : Int32), .int (57 : Int32)]) (r := some (.int y25)) (kc1 := 0) (ks1 := 0) (st := [.ref 56]) (st1 := [.int y25, .ref 56]) (e_X8_endOfRun (σ24 56 5) (48 : Int32) (57 : Int32) σ24 τ y25 hy25) mv_X8_endOfRun lk_X4_65 ⟨by decide, by decide⟩ rfl (Nat.le_of_ble_eq_true rfl) (by decide) ⟨_, rfl, rfl⟩ ⟨by decide, by decide⟩ (Nat.le_of_ble_eq_true rfl) dX4_advance_138 rfl rfl rfl rfl rfl) ?_
              refine im_st (s_putI (tag := 4) (j := 6) dX4_advance_141 rfl fl_X4_31 rfl (Nat.le_of_ble_eq_true rfl) rfl fw_4_6) ?_
              refine im_st (r_aload_n (i := 0) dX4_advance_144 rfl rfl rfl) ?_
              refine im_app (Gm := fun (σ26 : Sg) => Go M_X4_advance Q 0 0 145 [some (.ref 56), some (.int y4)] [.ref 56] (mk σ26 τ)) (fun σ26 => ?_)
              refine im_bind (fun y27 hy27 => ?_)
              refine im_st (r_callV (as := []) (r := none) (kc1 := 0) (ks1 := 0) (st := []) (st1 := []) (e_X4_valueNumber σ26 τ y27 hy27) mv_X4_valueNumber lk_X4_78 ⟨by decide, by decide⟩ rfl (Nat.le_of_ble_eq_true rfl) (by decide) ⟨_, rfl, rfl⟩ ⟨by decide, by decide⟩ (Nat.le_of_ble_eq_true rfl) dX4_advance_145 rfl rfl rfl rfl rfl) ?_
              refine im_st (r_goto (pc1 := 180) dX4_advance_148 (by decide)) ?_
              exact im_ret (fun q => g_vret rfl rfl rfl dX4_advance_180 q)
        · refine im_st (r_aload_n (i := 0) dX4_advance_81 rfl rfl rfl) ?_
          refine im_st (r_iconst (v := 1) dX4_advance_82 rfl kI_1) ?_
          refine im_st (s_putI (tag := 4) (j := 4) dX4_advance_83 rfl fl_X4_25 rfl (Nat.le_of_ble_eq_true rfl) rfl fw_4_4) ?_
          refine im_st (r_aload_n (i := 0) dX4_advance_86 rfl rfl rfl) ?_
          refine im_st (r_aload_n (i := 0) dX4_advance_87 rfl rfl rfl) ?_
          refine im_st (s_getR (b := 54) (tag := 4) (j := 2) dX4_advance_88 rfl fl_X4_37 rfl (Nat.le_of_ble_eq_true rfl) rfl rfl) ?_
          refine im_st (r_aload_n (i := 0) dX4_advance_91 rfl rfl rfl) ?_
          refine im_app (Gm := fun (σ28 : Sg) => Go M_X4_advance Q 0 0 92 [some (.ref 56), some (.int y4)] [.ref 56, .ref 54, .ref 56] (mk σ28 τ)) (fun σ28 => ?_)
          refine im_st (s_getI (tag := 4) (j := 5) dX4_advance_92 rfl fl_X4_28 rfl (Nat.le_of_ble_eq_true rfl) rfl) ?_
          refine im_st (r_bipush (v := 97) dX4_advance_95 rfl kB_97) ?_
          refine im_st (r_bipush (v := 122) dX4_advance_97 rfl kB_122) ?_
          refine im_bind (fun y29 hy29 => ?_)
          refine im_st (r_callV (as := [.int (σ28 56 5), .int (97 : Int32), .int (122 : Int32)]) (r := some (.int y29)) (kc1 := 0) (ks1 := 0) (st := [.ref 56]) (st1 := [.int y29, .ref 56]) (e_X8_endOfRun (σ28 56 5) (97 : Int32) (122 : Int32) σ28 τ y29 hy29) mv_X8_endOfRun lk_X4_65 ⟨by decide, by decide⟩ rfl (Nat.le_of_ble_eq_true rfl) (by decide) ⟨_, rfl, rfl⟩ ⟨by decide, by decide⟩ (Nat.le_of_ble_eq_true rfl) dX4_advance_99 rfl rfl rfl rfl rfl) ?_
          refine im_st (s_putI (tag := 4) (j := 6) dX4_advance_102 rfl fl_X4_31 rfl (Nat.le_of_ble_eq_true rfl) rfl fw_4_6) ?_
          refine im_st (r_goto (pc1 := 180) dX4_advance_105 (by decide)) ?_
          exact im_ret (fun q => g_vret rfl rfl rfl dX4_advance_180 q)
    · refine im_st (r_aload_n (i := 0) dX4_advance_53 rfl rfl rfl) ?_
      refine im_st (r_iconst (v := 4) dX4_advance_54 rfl kI_4) ?_
      refine im_st (s_putI (tag := 4) (j := 4) dX4_advance_55 rfl fl_X4_25 rfl (Nat.le_of_ble_eq_true rfl) rfl fw_4_4) ?_
      refine im_st (r_aload_n (i := 0) dX4_advance_58 rfl rfl rfl) ?_
      refine im_st (r_aload_n (i := 0) dX4_advance_59 rfl rfl rfl) ?_
      refine im_app (Gm := fun (σ30 : Sg) => Go M_X4_advance Q 0 0 60 [some (.ref 56), some (.int y4)] [.ref 56, .ref 56] (mk σ30 τ)) (fun σ30 => ?_)
      refine im_st (s_getI (tag := 4) (j := 5) dX4_advance_60 rfl fl_X4_28 rfl (Nat.le_of_ble_eq_true rfl) rfl) ?_
      refine im_st (s_putI (tag := 4) (j := 6) dX4_advance_63 rfl fl_X4_31 rfl (Nat.le_of_ble_eq_true rfl) rfl fw_4_6) ?_
      refine im_st (r_goto (pc1 := 180) dX4_advance_66 (by decide)) ?_
      exact im_ret (fun q => g_vret rfl rfl rfl dX4_advance_180 q)
  · exact im_ret (fun q => g_vret rfl rfl rfl dX4_advance_7 q)
theorem e_X4_advance (σ : Sg) (τ : Sl) (y : Sg) (hy : f_X4_advance σ = some y) : EvD M_X4_advance [.ref 56] (mk σ τ) (none) (mk y τ) := EvM.of (by decide +kernel) (Nat.le_of_ble_eq_true rfl) (i_X4_advance σ τ _ y hy ⟨rfl, rfl⟩)
def M_X4_isNamed : Ms := (yX4_isNamed, cX4_isNamed, 3, some .boolean, 5, 221, 0, 0)
theorem mv_X4_isNamed : MV M_X4_isNamed 1 := ⟨⟨q391, q10, by decide, by decide, by decide +kernel⟩, q390, p4⟩
def b_X4_isNamed_28 (w1 : Nat) (σ : Sg) : Int32 → Option (Int32 ⊕ (Int32 ⊕ Int32)) := fun (s3 : Int32) =>
  if (f_J0_length_8abf5 w1) ≤ s3 then
    some (.inr (.inl s3))
  else
    (f_X8_byteAt ((σ 56 5) + s3) σ).bind fun (y5 : Int32) =>
    if inR s3 (lenS.getD w1 0) then
    if y5 = (f_J0_charAt_5068e w1 s3) then
      some (.inl (s3 + 1))
    else
      some (.inr (.inr (0 : Int32)))
    else none
def f_X4_isNamed (w1 : Nat) (σ : Sg) : Option Int32 :=
  if (σ 56 4) = (1 : Int32) then
    if ((σ 56 6) - (σ 56 5)) = (f_J0_length_8abf5 w1) then
      (wh (b_X4_isNamed_28 w1 σ) 4096 (0 : Int32)).bind fun (r10 : (Int32 ⊕ Int32)) =>
      Sum.elim (fun (e8 : Int32) =>
        some (1 : Int32)) (fun (y9 : Int32) => some y9) r10
    else
      some (0 : Int32)
  else
    some (0 : Int32)
set_option maxHeartbeats 4000000 in
set_option maxRecDepth 20000 in
theorem i_X4_isNamed (w1 : Nat) (σ : Sg) (τ : Sl) (hw1 : w1 < 7) (Q : Option Value → Hp → Prop) : Imp (f_X4_isNamed w1 σ) (fun (y : Int32) => Q (some (.int y)) (mk σ τ)) (Go M_X4_isNamed Q 0 0 0 [some (.ref 56), some (.retAddr w1), none] [] (mk σ τ)) := by
  unfold f_X4_isNamed
  refine im_st (r_aload_n (i := 0) dX4_isNamed_0 rfl rfl rfl) ?_
  refine im_st (s_getI (tag := 4) (j := 4) dX4_isNamed_1 rfl fl_X4_25 rfl (Nat.le_of_ble_eq_true rfl) rfl) ?_
  refine im_st (r_iconst (v := 1) dX4_isNamed_4 rfl kI_1) ?_
  refine im_br (r_icmp_ne (tgt := 24) dX4_isNamed_5 rfl (by decide)) (fun c1 => ?_) (fun c1 => ?_)
  · refine im_st (r_aload_n (i := 0) dX4_isNamed_8 rfl rfl rfl) ?_
    refine im_st (s_getI (tag := 4) (j := 6) dX4_isNamed_9 rfl fl_X4_31 rfl (Nat.le_of_ble_eq_true rfl) rfl) ?_
    refine im_st (r_aload_n (i := 0) dX4_isNamed_12 rfl rfl rfl) ?_
    refine im_st (s_getI (tag := 4) (j := 5) dX4_isNamed_13 rfl fl_X4_28 rfl (Nat.le_of_ble_eq_true rfl) rfl) ?_
    refine im_st (r_isub dX4_isNamed_16 rfl) ?_
    refine im_st (r_aloadS_n (i := 1) dX4_isNamed_17 rfl rfl hw1 rfl) ?_
    refine im_st (r_callStr (w := w1) (as := []) (r := some (.int (f_J0_length_8abf5 w1))) (st := [.int ((σ 56 6) - (σ 56 5))]) (st1 := [.int (f_J0_length_8abf5 w1), .int ((σ 56 6) - (σ 56 5))]) (e_J0_length_8abf5 w1 _ hw1) mv_J0_length_8abf5 lk_X4_81 ⟨by decide, by decide⟩ ⟨by decide, by decide⟩ (Nat.le_of_ble_eq_true rfl) hw1 dX4_isNamed_18 rfl rfl rfl rfl rfl) ?_
    refine im_br (r_icmp_eq (tgt := 26) dX4_isNamed_21 rfl (by decide)) (fun c2 => ?_) (fun c2 => ?_)
    · refine im_st (r_iconst (v := 0) dX4_isNamed_26 rfl kI_0) ?_
      refine im_st (r_istore_n (i := 2) (L1 := [some (.ref 56), some (.retAddr w1), some (.int (0 : Int32))]) dX4_isNamed_27 rfl rfl (by decide) rfl) ?_
      refine im_seq (Gm := Sum.elim (fun (e8 : Int32) => Go M_X4_isNamed Q 0 0 65 [none, none, none] [] (mk σ τ)) (fun (y : Int32) => Q (some (.int y)) (mk σ τ))) ?_ (fun r10 => ?_)
      · refine im_wh (G := fun (s3 : Int32) => Go M_X4_isNamed Q 0 0 28 [some (.ref 56), some (.retAddr w1), some (.int s3)] [] (mk σ τ)) (fun s3 => ?_) _ _
        unfold b_X4_isNamed_28
        refine im_st (r_iload_n (i := 2) dX4_isNamed_28 rfl rfl rfl) ?_
        refine im_st (r_aloadS_n (i := 1) dX4_isNamed_29 rfl rfl hw1 rfl) ?_
        refine im_st (r_callStr (w := w1) (as := []) (r := some (.int (f_J0_length_8abf5 w1))) (st := [.int s3]) (st1 := [.int (f_J0_length_8abf5 w1), .int s3]) (e_J0_length_8abf5 w1 _ hw1) mv_J0_length_8abf5 lk_X4_81 ⟨by decide, by decide⟩ ⟨by decide, by decide⟩ (Nat.le_of_ble_eq_true rfl) hw1 dX4_isNamed_30 rfl rfl rfl rfl rfl) ?_
        refine im_br (r_icmp_ge (tgt := 65) dX4_isNamed_33 rfl (by decide)) (fun c4 => ?_) (fun c4 => ?_)
        · refine im_st (r_fgt (L1 := [none, none, none]) [0, 1, 2] rfl) ?_
          exact im_ret id
        · refine im_st (r_aload_n (i := 0) dX4_isNamed_36 rfl rfl rfl) ?_
          refine im_st (s_getR (b := 54) (tag := 4) (j := 2) dX4_isNamed_37 rfl fl_X4_37 rfl (Nat.le_of_ble_eq_true rfl) rfl rfl) ?_
          refine im_st (r_aload_n (i := 0) dX4_isNamed_40 rfl rfl rfl) ?_
          refine im_st (s_getI (tag := 4) (j := 5) dX4_isNamed_41 rfl fl_X4_28 rfl (Nat.le_of_ble_eq_true rfl) rfl) ?_
          refine im_st (r_iload_n (i := 2) dX4_isNamed_44 rfl rfl rfl) ?_
          refine im_st (r_iadd dX4_isNamed_45 rfl) ?_
          refine im_bind (fun y5 hy5 => ?_)
          refine im_st (r_callV (as := [.int ((σ 56 5) + s3)]) (r := some (.int y5)) (kc1 := 0) (ks1 := 0) (st := []) (st1 := [.int y5]) (e_X8_byteAt ((σ 56 5) + s3) σ τ y5 hy5) mv_X8_byteAt lk_X4_71 ⟨by decide, by decide⟩ rfl (Nat.le_of_ble_eq_true rfl) (by decide) ⟨_, rfl, rfl⟩ ⟨by decide, by decide⟩ (Nat.le_of_ble_eq_true rfl) dX4_isNamed_46 rfl rfl rfl rfl rfl) ?_
          refine im_st (r_aloadS_n (i := 1) dX4_isNamed_49 rfl rfl hw1 rfl) ?_
          refine im_st (r_iload_n (i := 2) dX4_isNamed_50 rfl rfl rfl) ?_
          refine im_grd (fun g6 => ?_)
          refine im_st (r_callStr (w := w1) (as := [.int s3]) (r := some (.int (f_J0_charAt_5068e w1 s3))) (st := [.int y5]) (st1 := [.int (f_J0_charAt_5068e w1 s3), .int y5]) (e_J0_charAt_5068e w1 s3 _ hw1 g6) mv_J0_charAt_5068e lk_X4_86 ⟨by decide, by decide⟩ ⟨by decide, by decide⟩ (Nat.le_of_ble_eq_true rfl) hw1 dX4_isNamed_51 rfl rfl rfl rfl rfl) ?_
          refine im_br (r_icmp_eq (tgt := 59) dX4_isNamed_54 rfl (by decide)) (fun c7 => ?_) (fun c7 => ?_)
          · refine im_st (r_iinc (i := 2) (x := s3) (v := (s3 + 1)) (L1 := [some (.ref 56), some (.retAddr w1), some (.int (s3 + 1))]) dX4_isNamed_59 rfl rfl rfl (by decide) rfl) ?_
            refine im_st (r_goto (pc1 := 28) dX4_isNamed_62 (by decide)) ?_
            exact im_ret id
          · refine im_st (r_iconst (v := 0) dX4_isNamed_57 rfl kI_0) ?_
            exact im_ret (fun q => g_zret (ty := .boolean) rfl rfl rfl rfl dX4_isNamed_58 q)
      refine im_sum (fun e8 => ?_) (fun y9 => im_ret id) r10
      refine im_st (r_iconst (v := 1) dX4_isNamed_65 rfl kI_1) ?_
      exact im_ret (fun q => g_zret (ty := .boolean) rfl rfl rfl rfl dX4_isNamed_66 q)
    · refine im_st (r_iconst (v := 0) dX4_isNamed_24 rfl kI_0) ?_
      exact im_ret (fun q => g_zret (ty := .boolean) rfl rfl rfl rfl dX4_isNamed_25 q)
  · refine im_st (r_iconst (v := 0) dX4_isNamed_24 rfl kI_0) ?_
    exact im_ret (fun q => g_zret (ty := .boolean) rfl rfl rfl rfl dX4_isNamed_25 q)
theorem e_X4_isNamed (w1 : Nat) (σ : Sg) (τ : Sl) (hw1 : w1 < 7) (y : Int32) (hy : f_X4_isNamed w1 σ = some y) : EvD M_X4_isNamed [.ref 56, .retAddr w1] (mk σ τ) (some (.int y)) (mk σ τ) := EvM.of (by decide +kernel) (Nat.le_of_ble_eq_true rfl) (i_X4_isNamed w1 σ τ hw1 _ y hy ⟨rfl, rfl⟩)
def M_X4_takeNumber : Ms := (yX4_takeNumber, cX4_takeNumber, 3, some .int, 3, 64, 0, 0)
theorem mv_X4_takeNumber : MV M_X4_takeNumber 2 := ⟨⟨q447, q10, by decide, by decide, by decide +kernel⟩, q446, p6⟩
def f_X4_takeNumber (a1 : Int32) (a2 : Int32) (σ : Sg) : Option (Int32 × Sg) :=
  (f_X4_advance σ).bind fun (y1 : Sg) =>
  app (if (y1 56 4) = (2 : Int32) then
    if (y1 56 7) < a1 then
      (f_X4_fail (3 : Int32) y1)
    else
      if (y1 56 7) ≤ a2 then
        y1
      else
        (f_X4_fail (3 : Int32) y1)
  else
    (f_X4_fail (2 : Int32) y1)) fun (j2 : Sg) =>
  some ((j2 56 7), j2)
set_option maxHeartbeats 4000000 in
set_option maxRecDepth 20000 in
theorem i_X4_takeNumber (a1 : Int32) (a2 : Int32) (σ : Sg) (τ : Sl) (Q : Option Value → Hp → Prop) : Imp (f_X4_takeNumber a1 a2 σ) (fun (y : (Int32 × Sg)) => Q (some (.int y.1)) (mk y.2 τ)) (Go M_X4_takeNumber Q 0 0 0 [some (.ref 56), some (.int a1), some (.int a2)] [] (mk σ τ)) := by
  unfold f_X4_takeNumber
  refine im_st (r_aload_n (i := 0) dX4_takeNumber_0 rfl rfl rfl) ?_
  refine im_bind (fun y1 hy1 => ?_)
  refine im_st (r_callV (as := []) (r := none) (kc1 := 0) (ks1 := 0) (st := []) (st1 := []) (e_X4_advance σ τ y1 hy1) mv_X4_advance lk_X4_44 ⟨by decide, by decide⟩ rfl (Nat.le_of_ble_eq_true rfl) (by decide) ⟨_, rfl, rfl⟩ ⟨by decide, by decide⟩ (Nat.le_of_ble_eq_true rfl) dX4_takeNumber_1 rfl rfl rfl rfl rfl) ?_
  refine im_st (r_aload_n (i := 0) dX4_takeNumber_4 rfl rfl rfl) ?_
  refine im_st (s_getI (tag := 4) (j := 4) dX4_takeNumber_5 rfl fl_X4_25 rfl (Nat.le_of_ble_eq_true rfl) rfl) ?_
  refine im_st (r_iconst (v := 2) dX4_takeNumber_8 rfl kI_2) ?_
  refine im_seqT (Gm := fun (j2 : Sg) => Go M_X4_takeNumber Q 0 0 41 [some (.ref 56), none, none] [] (mk j2 τ)) ?_ (fun j2 => ?_)
  · refine im_brS (r_icmp_eq (tgt := 20) dX4_takeNumber_9 rfl (by decide)) (fun c3 => ?_) (fun c3 => ?_)
    · refine im_st (r_aload_n (i := 0) dX4_takeNumber_20 rfl rfl rfl) ?_
      refine im_st (s_getI (tag := 4) (j := 7) dX4_takeNumber_21 rfl fl_X4_34 rfl (Nat.le_of_ble_eq_true rfl) rfl) ?_
      refine im_st (r_iload_n (i := 1) dX4_takeNumber_24 rfl rfl rfl) ?_
      refine im_brS (r_icmp_lt (tgt := 36) dX4_takeNumber_25 rfl (by decide)) (fun c4 => ?_) (fun c4 => ?_)
      · refine im_st (r_aload_n (i := 0) dX4_takeNumber_36 rfl rfl rfl) ?_
        refine im_st (r_iconst (v := 3) dX4_takeNumber_37 rfl kI_3) ?_
        refine im_st (r_callV (as := [.int (3 : Int32)]) (r := none) (kc1 := 0) (ks1 := 0) (st := []) (st1 := []) (e_X4_fail (3 : Int32) y1 τ) mv_X4_fail lk_X4_61 ⟨by decide, by decide⟩ rfl (Nat.le_of_ble_eq_true rfl) (by decide) ⟨_, rfl, rfl⟩ ⟨by decide, by decide⟩ (Nat.le_of_ble_eq_true rfl) dX4_takeNumber_38 rfl rfl rfl rfl rfl) ?_
        refine im_st (r_fgt (L1 := [some (.ref 56), none, none]) [1, 2] rfl) ?_
        exact im_ret id
      · refine im_st (r_aload_n (i := 0) dX4_takeNumber_28 rfl rfl rfl) ?_
        refine im_st (s_getI (tag := 4) (j := 7) dX4_takeNumber_29 rfl fl_X4_34 rfl (Nat.le_of_ble_eq_true rfl) rfl) ?_
        refine im_st (r_iload_n (i := 2) dX4_takeNumber_32 rfl rfl rfl) ?_
        refine im_brS (r_icmp_le (tgt := 41) dX4_takeNumber_33 rfl (by decide)) (fun c5 => ?_) (fun c5 => ?_)
        · refine im_st (r_fgt (L1 := [some (.ref 56), none, none]) [1, 2] rfl) ?_
          exact im_ret id
        · refine im_st (r_aload_n (i := 0) dX4_takeNumber_36 rfl rfl rfl) ?_
          refine im_st (r_iconst (v := 3) dX4_takeNumber_37 rfl kI_3) ?_
          refine im_st (r_callV (as := [.int (3 : Int32)]) (r := none) (kc1 := 0) (ks1 := 0) (st := []) (st1 := []) (e_X4_fail (3 : Int32) y1 τ) mv_X4_fail lk_X4_61 ⟨by decide, by decide⟩ rfl (Nat.le_of_ble_eq_true rfl) (by decide) ⟨_, rfl, rfl⟩ ⟨by decide, by decide⟩ (Nat.le_of_ble_eq_true rfl) dX4_takeNumber_38 rfl rfl rfl rfl rfl) ?_
          refine im_st (r_fgt (L1 := [some (.ref 56), none, none]) [1, 2] rfl) ?_
          exact im_ret id
    · refine im_st (r_aload_n (i := 0) dX4_takeNumber_12 rfl rfl rfl) ?_
      refine im_st (r_iconst (v := 2) dX4_takeNumber_13 rfl kI_2) ?_
      refine im_st (r_callV (as := [.int (2 : Int32)]) (r := none) (kc1 := 0) (ks1 := 0) (st := []) (st1 := []) (e_X4_fail (2 : Int32) y1 τ) mv_X4_fail lk_X4_61 ⟨by decide, by decide⟩ rfl (Nat.le_of_ble_eq_true rfl) (by decide) ⟨_, rfl, rfl⟩ ⟨by decide, by decide⟩ (Nat.le_of_ble_eq_true rfl) dX4_takeNumber_14 rfl rfl rfl rfl rfl) ?_
      refine im_st (r_goto (pc1 := 41) dX4_takeNumber_17 (by decide)) ?_
      refine im_st (r_fgt (L1 := [some (.ref 56), none, none]) [1, 2] rfl) ?_
      exact im_ret id
  refine im_st (r_aload_n (i := 0) dX4_takeNumber_41 rfl rfl rfl) ?_
  refine im_st (s_getI (tag := 4) (j := 7) dX4_takeNumber_42 rfl fl_X4_34 rfl (Nat.le_of_ble_eq_true rfl) rfl) ?_
  exact im_ret (fun q => g_iret rfl rfl rfl dX4_takeNumber_45 q)
theorem e_X4_takeNumber (a1 : Int32) (a2 : Int32) (σ : Sg) (τ : Sl) (y : (Int32 × Sg)) (hy : f_X4_takeNumber a1 a2 σ = some y) : EvD M_X4_takeNumber [.ref 56, .int a1, .int a2] (mk σ τ) (some (.int y.1)) (mk y.2 τ) := EvM.of (by decide +kernel) (Nat.le_of_ble_eq_true rfl) (i_X4_takeNumber a1 a2 σ τ _ y hy ⟨rfl, rfl⟩)
def M_X4_takeSemicolon : Ms := (yX4_takeSemicolon, cX4_takeSemicolon, 1, none, 3, 64, 0, 0)
theorem mv_X4_takeSemicolon : MV M_X4_takeSemicolon 0 := ⟨⟨q463, q10, by decide, by decide, by decide +kernel⟩, q462, p8⟩
def f_X4_takeSemicolon (σ : Sg) : Option Sg :=
  (f_X4_advance σ).bind fun (y1 : Sg) =>
  if (y1 56 4) = (3 : Int32) then
    some y1
  else
    some (f_X4_fail (2 : Int32) y1)
set_option maxHeartbeats 4000000 in
set_option maxRecDepth 20000 in
theorem i_X4_takeSemicolon (σ : Sg) (τ : Sl) (Q : Option Value → Hp → Prop) : Imp (f_X4_takeSemicolon σ) (fun (y : Sg) => Q (none) (mk y τ)) (Go M_X4_takeSemicolon Q 0 0 0 [some (.ref 56)] [] (mk σ τ)) := by
  unfold f_X4_takeSemicolon
  refine im_st (r_aload_n (i := 0) dX4_takeSemicolon_0 rfl rfl rfl) ?_
  refine im_bind (fun y1 hy1 => ?_)
  refine im_st (r_callV (as := []) (r := none) (kc1 := 0) (ks1 := 0) (st := []) (st1 := []) (e_X4_advance σ τ y1 hy1) mv_X4_advance lk_X4_44 ⟨by decide, by decide⟩ rfl (Nat.le_of_ble_eq_true rfl) (by decide) ⟨_, rfl, rfl⟩ ⟨by decide, by decide⟩ (Nat.le_of_ble_eq_true rfl) dX4_takeSemicolon_1 rfl rfl rfl rfl rfl) ?_
  refine im_st (r_aload_n (i := 0) dX4_takeSemicolon_4 rfl rfl rfl) ?_
  refine im_st (s_getI (tag := 4) (j := 4) dX4_takeSemicolon_5 rfl fl_X4_25 rfl (Nat.le_of_ble_eq_true rfl) rfl) ?_
  refine im_st (r_iconst (v := 3) dX4_takeSemicolon_8 rfl kI_3) ?_
  refine im_br (r_icmp_eq (tgt := 17) dX4_takeSemicolon_9 rfl (by decide)) (fun c2 => ?_) (fun c2 => ?_)
  · exact im_ret (fun q => g_vret rfl rfl rfl dX4_takeSemicolon_17 q)
  · refine im_st (r_aload_n (i := 0) dX4_takeSemicolon_12 rfl rfl rfl) ?_
    refine im_st (r_iconst (v := 2) dX4_takeSemicolon_13 rfl kI_2) ?_
    refine im_st (r_callV (as := [.int (2 : Int32)]) (r := none) (kc1 := 0) (ks1 := 0) (st := []) (st1 := []) (e_X4_fail (2 : Int32) y1 τ) mv_X4_fail lk_X4_61 ⟨by decide, by decide⟩ rfl (Nat.le_of_ble_eq_true rfl) (by decide) ⟨_, rfl, rfl⟩ ⟨by decide, by decide⟩ (Nat.le_of_ble_eq_true rfl) dX4_takeSemicolon_14 rfl rfl rfl rfl rfl) ?_
    exact im_ret (fun q => g_vret rfl rfl rfl dX4_takeSemicolon_17 q)
theorem e_X4_takeSemicolon (σ : Sg) (τ : Sl) (y : Sg) (hy : f_X4_takeSemicolon σ = some y) : EvD M_X4_takeSemicolon [.ref 56] (mk σ τ) (none) (mk y τ) := EvM.of (by decide +kernel) (Nat.le_of_ble_eq_true rfl) (i_X4_takeSemicolon σ τ _ y hy ⟨rfl, rfl⟩)
def M_X4_readHedgehog : Ms := (yX4_readHedgehog, cX4_readHedgehog, 3, none, 4, 86, 0, 0)
theorem mv_X4_readHedgehog : MV M_X4_readHedgehog 1 := ⟨⟨q498, q10, by decide, by decide, by decide +kernel⟩, q497, p12⟩
def f_X4_readHedgehog (a1 : Int32) (σ : Sg) : Option Sg :=
  app (if (σ 57 7) < (4 : Int32) then
    σ
  else
    (f_X4_fail (5 : Int32) σ)) fun (j1 : Sg) =>
  (f_X4_takeNumber (1 : Int32) (9 : Int32) j1).bind fun (y3 : (Int32 × Sg)) =>
  (f_X4_takeSemicolon y3.2).bind fun (y4 : Sg) =>
  if (y4 56 1) = 0 then
    (f_X7_addHedgehog 57 a1 y3.1 y4).bind fun (y6 : (Int32 × Sg)) =>
    some y6.2
  else
    some y4
set_option maxHeartbeats 4000000 in
set_option maxRecDepth 20000 in
theorem i_X4_readHedgehog (a1 : Int32) (σ : Sg) (τ : Sl) (Q : Option Value → Hp → Prop) : Imp (f_X4_readHedgehog a1 σ) (fun (y : Sg) => Q (none) (mk y τ)) (Go M_X4_readHedgehog Q 0 0 0 [some (.ref 56), some (.int a1), none] [] (mk σ τ)) := by
  unfold f_X4_readHedgehog
  refine im_st (r_aload_n (i := 0) dX4_readHedgehog_0 rfl rfl rfl) ?_
  refine im_st (s_getR (b := 57) (tag := 4) (j := 0) dX4_readHedgehog_1 rfl fl_X4_12 rfl (Nat.le_of_ble_eq_true rfl) rfl rfl) ?_
  refine im_st (s_getI (tag := 7) (j := 7) dX4_readHedgehog_4 rfl fl_X4_142 rfl (Nat.le_of_ble_eq_true rfl) rfl) ?_
  refine im_st (r_iconst (v := 4) dX4_readHedgehog_7 rfl kI_4) ?_
  refine im_seqT (Gm := fun (j1 : Sg) => Go M_X4_readHedgehog Q 0 0 16 [some (.ref 56), some (.int a1), none] [] (mk j1 τ)) ?_ (fun j1 => ?_)
  · refine im_brS (r_icmp_lt (tgt := 16) dX4_readHedgehog_8 rfl (by decide)) (fun c2 => ?_) (fun c2 => ?_)
    · exact im_ret id
    · refine im_st (r_aload_n (i := 0) dX4_readHedgehog_11 rfl rfl rfl) ?_
      refine im_st (r_iconst (v := 5) dX4_readHedgehog_12 rfl kI_5) ?_
      refine im_st (r_callV (as := [.int (5 : Int32)]) (r := none) (kc1 := 0) (ks1 := 0) (st := []) (st1 := []) (e_X4_fail (5 : Int32) σ τ) mv_X4_fail lk_X4_61 ⟨by decide, by decide⟩ rfl (Nat.le_of_ble_eq_true rfl) (by decide) ⟨_, rfl, rfl⟩ ⟨by decide, by decide⟩ (Nat.le_of_ble_eq_true rfl) dX4_readHedgehog_13 rfl rfl rfl rfl rfl) ?_
      exact im_ret id
  refine im_st (r_aload_n (i := 0) dX4_readHedgehog_16 rfl rfl rfl) ?_
  refine im_st (r_iconst (v := 1) dX4_readHedgehog_17 rfl kI_1) ?_
  refine im_st (r_bipush (v := 9) dX4_readHedgehog_18 rfl kB_9) ?_
  refine im_bind (fun y3 hy3 => ?_)
  refine im_st (r_callV (as := [.int (1 : Int32), .int (9 : Int32)]) (r := some (.int y3.1)) (kc1 := 0) (ks1 := 0) (st := []) (st1 := [.int y3.1]) (e_X4_takeNumber (1 : Int32) (9 : Int32) j1 τ y3 hy3) mv_X4_takeNumber lk_X4_123 ⟨by decide, by decide⟩ rfl (Nat.le_of_ble_eq_true rfl) (by decide) ⟨_, rfl, rfl⟩ ⟨by decide, by decide⟩ (Nat.le_of_ble_eq_true rfl) dX4_readHedgehog_20 rfl rfl rfl rfl rfl) ?_
  refine im_st (r_istore_n (i := 2) (L1 := [some (.ref 56), some (.int a1), some (.int y3.1)]) dX4_readHedgehog_23 rfl rfl (by decide) rfl) ?_
  refine im_st (r_aload_n (i := 0) dX4_readHedgehog_24 rfl rfl rfl) ?_
  refine im_bind (fun y4 hy4 => ?_)
  refine im_st (r_callV (as := []) (r := none) (kc1 := 0) (ks1 := 0) (st := []) (st1 := []) (e_X4_takeSemicolon y3.2 τ y4 hy4) mv_X4_takeSemicolon lk_X4_130 ⟨by decide, by decide⟩ rfl (Nat.le_of_ble_eq_true rfl) (by decide) ⟨_, rfl, rfl⟩ ⟨by decide, by decide⟩ (Nat.le_of_ble_eq_true rfl) dX4_readHedgehog_25 rfl rfl rfl rfl rfl) ?_
  refine im_st (r_aload_n (i := 0) dX4_readHedgehog_28 rfl rfl rfl) ?_
  refine im_st (s_getI (tag := 4) (j := 1) dX4_readHedgehog_29 rfl fl_X4_18 rfl (Nat.le_of_ble_eq_true rfl) rfl) ?_
  refine im_br (r_if_ne (tgt := 45) dX4_readHedgehog_32 rfl (by decide)) (fun c5 => ?_) (fun c5 => ?_)
  · refine im_st (r_aload_n (i := 0) dX4_readHedgehog_35 rfl rfl rfl) ?_
    refine im_st (s_getR (b := 57) (tag := 4) (j := 0) dX4_readHedgehog_36 rfl fl_X4_12 rfl (Nat.le_of_ble_eq_true rfl) rfl rfl) ?_
    refine im_st (r_iload_n (i := 1) dX4_readHedgehog_39 rfl rfl rfl) ?_
    refine im_st (r_iload_n (i := 2) dX4_readHedgehog_40 rfl rfl rfl) ?_
    refine im_bind (fun y6 hy6 => ?_)
    refine im_st (r_callV (as := [.int a1, .int y3.1]) (r := some (.int y6.1)) (kc1 := 0) (ks1 := 0) (st := []) (st1 := [.int y6.1]) (e_X7_addHedgehog 57 a1 y3.1 y4 τ isSl_57 y6 hy6) mv_X7_addHedgehog lk_X4_145 ⟨by decide, by decide⟩ rfl (Nat.le_of_ble_eq_true rfl) (by decide) ⟨_, rfl, rfl⟩ ⟨by decide, by decide⟩ (Nat.le_of_ble_eq_true rfl) dX4_readHedgehog_41 rfl rfl rfl rfl rfl) ?_
    refine im_st (r_pop dX4_readHedgehog_44 rfl rfl) ?_
    exact im_ret (fun q => g_vret rfl rfl rfl dX4_readHedgehog_45 q)
  · exact im_ret (fun q => g_vret rfl rfl rfl dX4_readHedgehog_45 q)
theorem e_X4_readHedgehog (a1 : Int32) (σ : Sg) (τ : Sl) (y : Sg) (hy : f_X4_readHedgehog a1 σ = some y) : EvD M_X4_readHedgehog [.ref 56, .int a1] (mk σ τ) (none) (mk y τ) := EvM.of (by decide +kernel) (Nat.le_of_ble_eq_true rfl) (i_X4_readHedgehog a1 σ τ _ y hy ⟨rfl, rfl⟩)
def M_X4_mustBeFree : Ms := (yX4_mustBeFree, cX4_mustBeFree, 2, none, 2, 41, 0, 0)
theorem mv_X4_mustBeFree : MV M_X4_mustBeFree 1 := ⟨⟨q451, q10, by decide, by decide, by decide +kernel⟩, q450, p7⟩
def f_X4_mustBeFree (a1 : Int32) (σ : Sg) : Option Sg :=
  if (f_X7_isCell a1) = 0 then
    some (f_X4_fail (3 : Int32) σ)
  else
    (f_X7_isFree 57 a1 σ).bind fun (y2 : Int32) =>
    if y2 = 0 then
      some (f_X4_fail (4 : Int32) σ)
    else
      some σ
set_option maxHeartbeats 4000000 in
set_option maxRecDepth 20000 in
theorem i_X4_mustBeFree (a1 : Int32) (σ : Sg) (τ : Sl) (Q : Option Value → Hp → Prop) : Imp (f_X4_mustBeFree a1 σ) (fun (y : Sg) => Q (none) (mk y τ)) (Go M_X4_mustBeFree Q 0 0 0 [some (.ref 56), some (.int a1)] [] (mk σ τ)) := by
  unfold f_X4_mustBeFree
  refine im_st (r_iload_n (i := 1) dX4_mustBeFree_0 rfl rfl rfl) ?_
  refine im_st (r_callS (as := [.int a1]) (r := some (.int (f_X7_isCell a1))) (kc1 := 0) (ks1 := 0) (st := []) (st1 := [.int (f_X7_isCell a1)]) (e_X7_isCell a1 σ τ) ms_X7_isCell lk_X4_151 ⟨by decide, by decide⟩ ⟨by decide, by decide⟩ (Nat.le_of_ble_eq_true rfl) dX4_mustBeFree_1 rfl rfl rfl rfl rfl) ?_
  refine im_br (r_if_ne (tgt := 15) dX4_mustBeFree_4 rfl (by decide)) (fun c1 => ?_) (fun c1 => ?_)
  · refine im_st (r_aload_n (i := 0) dX4_mustBeFree_7 rfl rfl rfl) ?_
    refine im_st (r_iconst (v := 3) dX4_mustBeFree_8 rfl kI_3) ?_
    refine im_st (r_callV (as := [.int (3 : Int32)]) (r := none) (kc1 := 0) (ks1 := 0) (st := []) (st1 := []) (e_X4_fail (3 : Int32) σ τ) mv_X4_fail lk_X4_61 ⟨by decide, by decide⟩ rfl (Nat.le_of_ble_eq_true rfl) (by decide) ⟨_, rfl, rfl⟩ ⟨by decide, by decide⟩ (Nat.le_of_ble_eq_true rfl) dX4_mustBeFree_9 rfl rfl rfl rfl rfl) ?_
    refine im_st (r_goto (pc1 := 31) dX4_mustBeFree_12 (by decide)) ?_
    exact im_ret (fun q => g_vret rfl rfl rfl dX4_mustBeFree_31 q)
  · refine im_st (r_aload_n (i := 0) dX4_mustBeFree_15 rfl rfl rfl) ?_
    refine im_st (s_getR (b := 57) (tag := 4) (j := 0) dX4_mustBeFree_16 rfl fl_X4_12 rfl (Nat.le_of_ble_eq_true rfl) rfl rfl) ?_
    refine im_st (r_iload_n (i := 1) dX4_mustBeFree_19 rfl rfl rfl) ?_
    refine im_bind (fun y2 hy2 => ?_)
    refine im_st (r_callV (as := [.int a1]) (r := some (.int y2)) (kc1 := 0) (ks1 := 0) (st := []) (st1 := [.int y2]) (e_X7_isFree 57 a1 σ τ isSl_57 y2 hy2) mv_X7_isFree lk_X4_154 ⟨by decide, by decide⟩ rfl (Nat.le_of_ble_eq_true rfl) (by decide) ⟨_, rfl, rfl⟩ ⟨by decide, by decide⟩ (Nat.le_of_ble_eq_true rfl) dX4_mustBeFree_20 rfl rfl rfl rfl rfl) ?_
    refine im_br (r_if_ne (tgt := 31) dX4_mustBeFree_23 rfl (by decide)) (fun c3 => ?_) (fun c3 => ?_)
    · refine im_st (r_aload_n (i := 0) dX4_mustBeFree_26 rfl rfl rfl) ?_
      refine im_st (r_iconst (v := 4) dX4_mustBeFree_27 rfl kI_4) ?_
      refine im_st (r_callV (as := [.int (4 : Int32)]) (r := none) (kc1 := 0) (ks1 := 0) (st := []) (st1 := []) (e_X4_fail (4 : Int32) σ τ) mv_X4_fail lk_X4_61 ⟨by decide, by decide⟩ rfl (Nat.le_of_ble_eq_true rfl) (by decide) ⟨_, rfl, rfl⟩ ⟨by decide, by decide⟩ (Nat.le_of_ble_eq_true rfl) dX4_mustBeFree_28 rfl rfl rfl rfl rfl) ?_
      exact im_ret (fun q => g_vret rfl rfl rfl dX4_mustBeFree_31 q)
    · exact im_ret (fun q => g_vret rfl rfl rfl dX4_mustBeFree_31 q)
theorem e_X4_mustBeFree (a1 : Int32) (σ : Sg) (τ : Sl) (y : Sg) (hy : f_X4_mustBeFree a1 σ = some y) : EvD M_X4_mustBeFree [.ref 56, .int a1] (mk σ τ) (none) (mk y τ) := EvM.of (by decide +kernel) (Nat.le_of_ble_eq_true rfl) (i_X4_mustBeFree a1 σ τ _ y hy ⟨rfl, rfl⟩)
def M_X4_readPeg : Ms := (yX4_readPeg, cX4_readPeg, 3, none, 4, 86, 0, 0)
theorem mv_X4_readPeg : MV M_X4_readPeg 0 := ⟨⟨q443, q10, by decide, by decide, by decide +kernel⟩, q442, p5⟩
def f_X4_readPeg (σ : Sg) : Option Sg :=
  app (if (σ 57 2) < (7 : Int32) then
    σ
  else
    (f_X4_fail (5 : Int32) σ)) fun (j1 : Sg) =>
  (f_X4_takeNumber (0 : Int32) (99 : Int32) j1).bind fun (y3 : (Int32 × Sg)) =>
  (f_X4_mustBeFree y3.1 y3.2).bind fun (y4 : Sg) =>
  (f_X4_takeNumber (0 : Int32) (3 : Int32) y4).bind fun (y5 : (Int32 × Sg)) =>
  (f_X4_takeSemicolon y5.2).bind fun (y6 : Sg) =>
  if (y6 56 1) = 0 then
    (f_X7_addPeg 57 y3.1 y5.1 y6).bind fun (y8 : (Int32 × Sg)) =>
    some y8.2
  else
    some y6
set_option maxHeartbeats 4000000 in
set_option maxRecDepth 20000 in
theorem i_X4_readPeg (σ : Sg) (τ : Sl) (Q : Option Value → Hp → Prop) : Imp (f_X4_readPeg σ) (fun (y : Sg) => Q (none) (mk y τ)) (Go M_X4_readPeg Q 0 0 0 [some (.ref 56), none, none] [] (mk σ τ)) := by
  unfold f_X4_readPeg
  refine im_st (r_aload_n (i := 0) dX4_readPeg_0 rfl rfl rfl) ?_
  refine im_st (s_getR (b := 57) (tag := 4) (j := 0) dX4_readPeg_1 rfl fl_X4_12 rfl (Nat.le_of_ble_eq_true rfl) rfl rfl) ?_
  refine im_st (s_getI (tag := 7) (j := 2) dX4_readPeg_4 rfl fl_X4_120 rfl (Nat.le_of_ble_eq_true rfl) rfl) ?_
  refine im_st (r_bipush (v := 7) dX4_readPeg_7 rfl kB_7) ?_
  refine im_seqT (Gm := fun (j1 : Sg) => Go M_X4_readPeg Q 0 0 17 [some (.ref 56), none, none] [] (mk j1 τ)) ?_ (fun j1 => ?_)
  · refine im_brS (r_icmp_lt (tgt := 17) dX4_readPeg_9 rfl (by decide)) (fun c2 => ?_) (fun c2 => ?_)
    · exact im_ret id
    · refine im_st (r_aload_n (i := 0) dX4_readPeg_12 rfl rfl rfl) ?_
      refine im_st (r_iconst (v := 5) dX4_readPeg_13 rfl kI_5) ?_
      refine im_st (r_callV (as := [.int (5 : Int32)]) (r := none) (kc1 := 0) (ks1 := 0) (st := []) (st1 := []) (e_X4_fail (5 : Int32) σ τ) mv_X4_fail lk_X4_61 ⟨by decide, by decide⟩ rfl (Nat.le_of_ble_eq_true rfl) (by decide) ⟨_, rfl, rfl⟩ ⟨by decide, by decide⟩ (Nat.le_of_ble_eq_true rfl) dX4_readPeg_14 rfl rfl rfl rfl rfl) ?_
      exact im_ret id
  refine im_st (r_aload_n (i := 0) dX4_readPeg_17 rfl rfl rfl) ?_
  refine im_st (r_iconst (v := 0) dX4_readPeg_18 rfl kI_0) ?_
  refine im_st (r_bipush (v := 99) dX4_readPeg_19 rfl kB_99) ?_
  refine im_bind (fun y3 hy3 => ?_)
  refine im_st (r_callV (as := [.int (0 : Int32), .int (99 : Int32)]) (r := some (.int y3.1)) (kc1 := 0) (ks1 := 0) (st := []) (st1 := [.int y3.1]) (e_X4_takeNumber (0 : Int32) (99 : Int32) j1 τ y3 hy3) mv_X4_takeNumber lk_X4_123 ⟨by decide, by decide⟩ rfl (Nat.le_of_ble_eq_true rfl) (by decide) ⟨_, rfl, rfl⟩ ⟨by decide, by decide⟩ (Nat.le_of_ble_eq_true rfl) dX4_readPeg_21 rfl rfl rfl rfl rfl) ?_
  refine im_st (r_istore_n (i := 1) (L1 := [some (.ref 56), some (.int y3.1), none]) dX4_readPeg_24 rfl rfl (by decide) rfl) ?_
  refine im_st (r_aload_n (i := 0) dX4_readPeg_25 rfl rfl rfl) ?_
  refine im_st (r_iload_n (i := 1) dX4_readPeg_26 rfl rfl rfl) ?_
  refine im_bind (fun y4 hy4 => ?_)
  refine im_st (r_callV (as := [.int y3.1]) (r := none) (kc1 := 0) (ks1 := 0) (st := []) (st1 := []) (e_X4_mustBeFree y3.1 y3.2 τ y4 hy4) mv_X4_mustBeFree lk_X4_127 ⟨by decide, by decide⟩ rfl (Nat.le_of_ble_eq_true rfl) (by decide) ⟨_, rfl, rfl⟩ ⟨by decide, by decide⟩ (Nat.le_of_ble_eq_true rfl) dX4_readPeg_27 rfl rfl rfl rfl rfl) ?_
  refine im_st (r_aload_n (i := 0) dX4_readPeg_30 rfl rfl rfl) ?_
  refine im_st (r_iconst (v := 0) dX4_readPeg_31 rfl kI_0) ?_
  refine im_st (r_iconst (v := 3) dX4_readPeg_32 rfl kI_3) ?_
  refine im_bind (fun y5 hy5 => ?_)
  refine im_st (r_callV (as := [.int (0 : Int32), .int (3 : Int32)]) (r := some (.int y5.1)) (kc1 := 0) (ks1 := 0) (st := []) (st1 := [.int y5.1]) (e_X4_takeNumber (0 : Int32) (3 : Int32) y4 τ y5 hy5) mv_X4_takeNumber lk_X4_123 ⟨by decide, by decide⟩ rfl (Nat.le_of_ble_eq_true rfl) (by decide) ⟨_, rfl, rfl⟩ ⟨by decide, by decide⟩ (Nat.le_of_ble_eq_true rfl) dX4_readPeg_33 rfl rfl rfl rfl rfl) ?_
  refine im_st (r_istore_n (i := 2) (L1 := [some (.ref 56), some (.int y3.1), some (.int y5.1)]) dX4_readPeg_36 rfl rfl (by decide) rfl) ?_
  refine im_st (r_aload_n (i := 0) dX4_readPeg_37 rfl rfl rfl) ?_
  refine im_bind (fun y6 hy6 => ?_)
  refine im_st (r_callV (as := []) (r := none) (kc1 := 0) (ks1 := 0) (st := []) (st1 := []) (e_X4_takeSemicolon y5.2 τ y6 hy6) mv_X4_takeSemicolon lk_X4_130 ⟨by decide, by decide⟩ rfl (Nat.le_of_ble_eq_true rfl) (by decide) ⟨_, rfl, rfl⟩ ⟨by decide, by decide⟩ (Nat.le_of_ble_eq_true rfl) dX4_readPeg_38 rfl rfl rfl rfl rfl) ?_
  refine im_st (r_aload_n (i := 0) dX4_readPeg_41 rfl rfl rfl) ?_
  refine im_st (s_getI (tag := 4) (j := 1) dX4_readPeg_42 rfl fl_X4_18 rfl (Nat.le_of_ble_eq_true rfl) rfl) ?_
  refine im_br (r_if_ne (tgt := 58) dX4_readPeg_45 rfl (by decide)) (fun c7 => ?_) (fun c7 => ?_)
  · refine im_st (r_aload_n (i := 0) dX4_readPeg_48 rfl rfl rfl) ?_
    refine im_st (s_getR (b := 57) (tag := 4) (j := 0) dX4_readPeg_49 rfl fl_X4_12 rfl (Nat.le_of_ble_eq_true rfl) rfl rfl) ?_
    refine im_st (r_iload_n (i := 1) dX4_readPeg_52 rfl rfl rfl) ?_
    refine im_st (r_iload_n (i := 2) dX4_readPeg_53 rfl rfl rfl) ?_
    refine im_bind (fun y8 hy8 => ?_)
    refine im_st (r_callV (as := [.int y3.1, .int y5.1]) (r := some (.int y8.1)) (kc1 := 0) (ks1 := 0) (st := []) (st1 := [.int y8.1]) (e_X7_addPeg 57 y3.1 y5.1 y6 τ isSl_57 y8 hy8) mv_X7_addPeg lk_X4_133 ⟨by decide, by decide⟩ rfl (Nat.le_of_ble_eq_true rfl) (by decide) ⟨_, rfl, rfl⟩ ⟨by decide, by decide⟩ (Nat.le_of_ble_eq_true rfl) dX4_readPeg_54 rfl rfl rfl rfl rfl) ?_
    refine im_st (r_pop dX4_readPeg_57 rfl rfl) ?_
    exact im_ret (fun q => g_vret rfl rfl rfl dX4_readPeg_58 q)
  · exact im_ret (fun q => g_vret rfl rfl rfl dX4_readPeg_58 q)
theorem e_X4_readPeg (σ : Sg) (τ : Sl) (y : Sg) (hy : f_X4_readPeg σ = some y) : EvD M_X4_readPeg [.ref 56] (mk σ τ) (none) (mk y τ) := EvM.of (by decide +kernel) (Nat.le_of_ble_eq_true rfl) (i_X4_readPeg σ τ _ y hy ⟨rfl, rfl⟩)
def M_X4_readSlug : Ms := (yX4_readSlug, cX4_readSlug, 2, none, 4, 86, 0, 0)
theorem mv_X4_readSlug : MV M_X4_readSlug 0 := ⟨⟨q480, q10, by decide, by decide, by decide +kernel⟩, q479, p10⟩
def f_X4_readSlug (σ : Sg) : Option Sg :=
  app (if (σ 57 4) < (4 : Int32) then
    σ
  else
    (f_X4_fail (5 : Int32) σ)) fun (j1 : Sg) =>
  (f_X4_takeNumber (0 : Int32) (99 : Int32) j1).bind fun (y3 : (Int32 × Sg)) =>
  (f_X4_mustBeFree y3.1 y3.2).bind fun (y4 : Sg) =>
  (f_X4_takeSemicolon y4).bind fun (y5 : Sg) =>
  if (y5 56 1) = 0 then
    (f_X7_addSlug 57 y3.1 y5).bind fun (y7 : (Int32 × Sg)) =>
    some y7.2
  else
    some y5
set_option maxHeartbeats 4000000 in
set_option maxRecDepth 20000 in
theorem i_X4_readSlug (σ : Sg) (τ : Sl) (Q : Option Value → Hp → Prop) : Imp (f_X4_readSlug σ) (fun (y : Sg) => Q (none) (mk y τ)) (Go M_X4_readSlug Q 0 0 0 [some (.ref 56), none] [] (mk σ τ)) := by
  unfold f_X4_readSlug
  refine im_st (r_aload_n (i := 0) dX4_readSlug_0 rfl rfl rfl) ?_
  refine im_st (s_getR (b := 57) (tag := 4) (j := 0) dX4_readSlug_1 rfl fl_X4_12 rfl (Nat.le_of_ble_eq_true rfl) rfl rfl) ?_
  refine im_st (s_getI (tag := 7) (j := 4) dX4_readSlug_4 rfl fl_X4_136 rfl (Nat.le_of_ble_eq_true rfl) rfl) ?_
  refine im_st (r_iconst (v := 4) dX4_readSlug_7 rfl kI_4) ?_
  refine im_seqT (Gm := fun (j1 : Sg) => Go M_X4_readSlug Q 0 0 16 [some (.ref 56), none] [] (mk j1 τ)) ?_ (fun j1 => ?_)
  · refine im_brS (r_icmp_lt (tgt := 16) dX4_readSlug_8 rfl (by decide)) (fun c2 => ?_) (fun c2 => ?_)
    · exact im_ret id
    · refine im_st (r_aload_n (i := 0) dX4_readSlug_11 rfl rfl rfl) ?_
      refine im_st (r_iconst (v := 5) dX4_readSlug_12 rfl kI_5) ?_
      refine im_st (r_callV (as := [.int (5 : Int32)]) (r := none) (kc1 := 0) (ks1 := 0) (st := []) (st1 := []) (e_X4_fail (5 : Int32) σ τ) mv_X4_fail lk_X4_61 ⟨by decide, by decide⟩ rfl (Nat.le_of_ble_eq_true rfl) (by decide) ⟨_, rfl, rfl⟩ ⟨by decide, by decide⟩ (Nat.le_of_ble_eq_true rfl) dX4_readSlug_13 rfl rfl rfl rfl rfl) ?_
      exact im_ret id
  refine im_st (r_aload_n (i := 0) dX4_readSlug_16 rfl rfl rfl) ?_
  refine im_st (r_iconst (v := 0) dX4_readSlug_17 rfl kI_0) ?_
  refine im_st (r_bipush (v := 99) dX4_readSlug_18 rfl kB_99) ?_
  refine im_bind (fun y3 hy3 => ?_)
  refine im_st (r_callV (as := [.int (0 : Int32), .int (99 : Int32)]) (r := some (.int y3.1)) (kc1 := 0) (ks1 := 0) (st := []) (st1 := [.int y3.1]) (e_X4_takeNumber (0 : Int32) (99 : Int32) j1 τ y3 hy3) mv_X4_takeNumber lk_X4_123 ⟨by decide, by decide⟩ rfl (Nat.le_of_ble_eq_true rfl) (by decide) ⟨_, rfl, rfl⟩ ⟨by decide, by decide⟩ (Nat.le_of_ble_eq_true rfl) dX4_readSlug_20 rfl rfl rfl rfl rfl) ?_
  refine im_st (r_istore_n (i := 1) (L1 := [some (.ref 56), some (.int y3.1)]) dX4_readSlug_23 rfl rfl (by decide) rfl) ?_
  refine im_st (r_aload_n (i := 0) dX4_readSlug_24 rfl rfl rfl) ?_
  refine im_st (r_iload_n (i := 1) dX4_readSlug_25 rfl rfl rfl) ?_
  refine im_bind (fun y4 hy4 => ?_)
  refine im_st (r_callV (as := [.int y3.1]) (r := none) (kc1 := 0) (ks1 := 0) (st := []) (st1 := []) (e_X4_mustBeFree y3.1 y3.2 τ y4 hy4) mv_X4_mustBeFree lk_X4_127 ⟨by decide, by decide⟩ rfl (Nat.le_of_ble_eq_true rfl) (by decide) ⟨_, rfl, rfl⟩ ⟨by decide, by decide⟩ (Nat.le_of_ble_eq_true rfl) dX4_readSlug_26 rfl rfl rfl rfl rfl) ?_
  refine im_st (r_aload_n (i := 0) dX4_readSlug_29 rfl rfl rfl) ?_
  refine im_bind (fun y5 hy5 => ?_)
  refine im_st (r_callV (as := []) (r := none) (kc1 := 0) (ks1 := 0) (st := []) (st1 := []) (e_X4_takeSemicolon y4 τ y5 hy5) mv_X4_takeSemicolon lk_X4_130 ⟨by decide, by decide⟩ rfl (Nat.le_of_ble_eq_true rfl) (by decide) ⟨_, rfl, rfl⟩ ⟨by decide, by decide⟩ (Nat.le_of_ble_eq_true rfl) dX4_readSlug_30 rfl rfl rfl rfl rfl) ?_
  refine im_st (r_aload_n (i := 0) dX4_readSlug_33 rfl rfl rfl) ?_
  refine im_st (s_getI (tag := 4) (j := 1) dX4_readSlug_34 rfl fl_X4_18 rfl (Nat.le_of_ble_eq_true rfl) rfl) ?_
  refine im_br (r_if_ne (tgt := 49) dX4_readSlug_37 rfl (by decide)) (fun c6 => ?_) (fun c6 => ?_)
  · refine im_st (r_aload_n (i := 0) dX4_readSlug_40 rfl rfl rfl) ?_
    refine im_st (s_getR (b := 57) (tag := 4) (j := 0) dX4_readSlug_41 rfl fl_X4_12 rfl (Nat.le_of_ble_eq_true rfl) rfl rfl) ?_
    refine im_st (r_iload_n (i := 1) dX4_readSlug_44 rfl rfl rfl) ?_
    refine im_bind (fun y7 hy7 => ?_)
    refine im_st (r_callV (as := [.int y3.1]) (r := some (.int y7.1)) (kc1 := 0) (ks1 := 0) (st := []) (st1 := [.int y7.1]) (e_X7_addSlug 57 y3.1 y5 τ isSl_57 y7 hy7) mv_X7_addSlug lk_X4_139 ⟨by decide, by decide⟩ rfl (Nat.le_of_ble_eq_true rfl) (by decide) ⟨_, rfl, rfl⟩ ⟨by decide, by decide⟩ (Nat.le_of_ble_eq_true rfl) dX4_readSlug_45 rfl rfl rfl rfl rfl) ?_
    refine im_st (r_pop dX4_readSlug_48 rfl rfl) ?_
    exact im_ret (fun q => g_vret rfl rfl rfl dX4_readSlug_49 q)
  · exact im_ret (fun q => g_vret rfl rfl rfl dX4_readSlug_49 q)
theorem e_X4_readSlug (σ : Sg) (τ : Sl) (y : Sg) (hy : f_X4_readSlug σ = some y) : EvD M_X4_readSlug [.ref 56] (mk σ τ) (none) (mk y τ) := EvM.of (by decide +kernel) (Nat.le_of_ble_eq_true rfl) (i_X4_readSlug σ τ _ y hy ⟨rfl, rfl⟩)
def M_X4_readSuit : Ms := (yX4_readSuit, cX4_readSuit, 3, none, 4, 86, 0, 0)
theorem mv_X4_readSuit : MV M_X4_readSuit 0 := ⟨⟨q489, q10, by decide, by decide, by decide +kernel⟩, q488, p11⟩
def f_X4_readSuit (σ : Sg) : Option Sg :=
  app (if (σ 57 10) < (6 : Int32) then
    σ
  else
    (f_X4_fail (5 : Int32) σ)) fun (j1 : Sg) =>
  (f_X4_takeNumber (0 : Int32) (3 : Int32) j1).bind fun (y3 : (Int32 × Sg)) =>
  (f_X4_takeNumber (0 : Int32) (7 : Int32) y3.2).bind fun (y4 : (Int32 × Sg)) =>
  (f_X4_takeSemicolon y4.2).bind fun (y5 : Sg) =>
  if (y5 56 1) = 0 then
    (f_X7_addSuit 57 y3.1 y4.1 y5).bind fun (y7 : (Int32 × Sg)) =>
    some y7.2
  else
    some y5
set_option maxHeartbeats 4000000 in
set_option maxRecDepth 20000 in
theorem i_X4_readSuit (σ : Sg) (τ : Sl) (Q : Option Value → Hp → Prop) : Imp (f_X4_readSuit σ) (fun (y : Sg) => Q (none) (mk y τ)) (Go M_X4_readSuit Q 0 0 0 [some (.ref 56), none, none] [] (mk σ τ)) := by
  unfold f_X4_readSuit
  refine im_st (r_aload_n (i := 0) dX4_readSuit_0 rfl rfl rfl) ?_
  refine im_st (s_getR (b := 57) (tag := 4) (j := 0) dX4_readSuit_1 rfl fl_X4_12 rfl (Nat.le_of_ble_eq_true rfl) rfl rfl) ?_
  refine im_st (s_getI (tag := 7) (j := 10) dX4_readSuit_4 rfl fl_X4_50 rfl (Nat.le_of_ble_eq_true rfl) rfl) ?_
  refine im_st (r_bipush (v := 6) dX4_readSuit_7 rfl kB_6) ?_
  refine im_seqT (Gm := fun (j1 : Sg) => Go M_X4_readSuit Q 0 0 17 [some (.ref 56), none, none] [] (mk j1 τ)) ?_ (fun j1 => ?_)
  · refine im_brS (r_icmp_lt (tgt := 17) dX4_readSuit_9 rfl (by decide)) (fun c2 => ?_) (fun c2 => ?_)
    · exact im_ret id
    · refine im_st (r_aload_n (i := 0) dX4_readSuit_12 rfl rfl rfl) ?_
      refine im_st (r_iconst (v := 5) dX4_readSuit_13 rfl kI_5) ?_
      refine im_st (r_callV (as := [.int (5 : Int32)]) (r := none) (kc1 := 0) (ks1 := 0) (st := []) (st1 := []) (e_X4_fail (5 : Int32) σ τ) mv_X4_fail lk_X4_61 ⟨by decide, by decide⟩ rfl (Nat.le_of_ble_eq_true rfl) (by decide) ⟨_, rfl, rfl⟩ ⟨by decide, by decide⟩ (Nat.le_of_ble_eq_true rfl) dX4_readSuit_14 rfl rfl rfl rfl rfl) ?_
      exact im_ret id
  refine im_st (r_aload_n (i := 0) dX4_readSuit_17 rfl rfl rfl) ?_
  refine im_st (r_iconst (v := 0) dX4_readSuit_18 rfl kI_0) ?_
  refine im_st (r_iconst (v := 3) dX4_readSuit_19 rfl kI_3) ?_
  refine im_bind (fun y3 hy3 => ?_)
  refine im_st (r_callV (as := [.int (0 : Int32), .int (3 : Int32)]) (r := some (.int y3.1)) (kc1 := 0) (ks1 := 0) (st := []) (st1 := [.int y3.1]) (e_X4_takeNumber (0 : Int32) (3 : Int32) j1 τ y3 hy3) mv_X4_takeNumber lk_X4_123 ⟨by decide, by decide⟩ rfl (Nat.le_of_ble_eq_true rfl) (by decide) ⟨_, rfl, rfl⟩ ⟨by decide, by decide⟩ (Nat.le_of_ble_eq_true rfl) dX4_readSuit_20 rfl rfl rfl rfl rfl) ?_
  refine im_st (r_istore_n (i := 1) (L1 := [some (.ref 56), some (.int y3.1), none]) dX4_readSuit_23 rfl rfl (by decide) rfl) ?_
  refine im_st (r_aload_n (i := 0) dX4_readSuit_24 rfl rfl rfl) ?_
  refine im_st (r_iconst (v := 0) dX4_readSuit_25 rfl kI_0) ?_
  refine im_st (r_bipush (v := 7) dX4_readSuit_26 rfl kB_7) ?_
  refine im_bind (fun y4 hy4 => ?_)
  refine im_st (r_callV (as := [.int (0 : Int32), .int (7 : Int32)]) (r := some (.int y4.1)) (kc1 := 0) (ks1 := 0) (st := []) (st1 := [.int y4.1]) (e_X4_takeNumber (0 : Int32) (7 : Int32) y3.2 τ y4 hy4) mv_X4_takeNumber lk_X4_123 ⟨by decide, by decide⟩ rfl (Nat.le_of_ble_eq_true rfl) (by decide) ⟨_, rfl, rfl⟩ ⟨by decide, by decide⟩ (Nat.le_of_ble_eq_true rfl) dX4_readSuit_28 rfl rfl rfl rfl rfl) ?_
  refine im_st (r_istore_n (i := 2) (L1 := [some (.ref 56), some (.int y3.1), some (.int y4.1)]) dX4_readSuit_31 rfl rfl (by decide) rfl) ?_
  refine im_st (r_aload_n (i := 0) dX4_readSuit_32 rfl rfl rfl) ?_
  refine im_bind (fun y5 hy5 => ?_)
  refine im_st (r_callV (as := []) (r := none) (kc1 := 0) (ks1 := 0) (st := []) (st1 := []) (e_X4_takeSemicolon y4.2 τ y5 hy5) mv_X4_takeSemicolon lk_X4_130 ⟨by decide, by decide⟩ rfl (Nat.le_of_ble_eq_true rfl) (by decide) ⟨_, rfl, rfl⟩ ⟨by decide, by decide⟩ (Nat.le_of_ble_eq_true rfl) dX4_readSuit_33 rfl rfl rfl rfl rfl) ?_
  refine im_st (r_aload_n (i := 0) dX4_readSuit_36 rfl rfl rfl) ?_
  refine im_st (s_getI (tag := 4) (j := 1) dX4_readSuit_37 rfl fl_X4_18 rfl (Nat.le_of_ble_eq_true rfl) rfl) ?_
  refine im_br (r_if_ne (tgt := 53) dX4_readSuit_40 rfl (by decide)) (fun c6 => ?_) (fun c6 => ?_)
  · refine im_st (r_aload_n (i := 0) dX4_readSuit_43 rfl rfl rfl) ?_
    refine im_st (s_getR (b := 57) (tag := 4) (j := 0) dX4_readSuit_44 rfl fl_X4_12 rfl (Nat.le_of_ble_eq_true rfl) rfl rfl) ?_
    refine im_st (r_iload_n (i := 1) dX4_readSuit_47 rfl rfl rfl) ?_
    refine im_st (r_iload_n (i := 2) dX4_readSuit_48 rfl rfl rfl) ?_
    refine im_bind (fun y7 hy7 => ?_)
    refine im_st (r_callV (as := [.int y3.1, .int y4.1]) (r := some (.int y7.1)) (kc1 := 0) (ks1 := 0) (st := []) (st1 := [.int y7.1]) (e_X7_addSuit 57 y3.1 y4.1 y5 τ isSl_57 y7 hy7) mv_X7_addSuit lk_X4_148 ⟨by decide, by decide⟩ rfl (Nat.le_of_ble_eq_true rfl) (by decide) ⟨_, rfl, rfl⟩ ⟨by decide, by decide⟩ (Nat.le_of_ble_eq_true rfl) dX4_readSuit_49 rfl rfl rfl rfl rfl) ?_
    refine im_st (r_pop dX4_readSuit_52 rfl rfl) ?_
    exact im_ret (fun q => g_vret rfl rfl rfl dX4_readSuit_53 q)
  · exact im_ret (fun q => g_vret rfl rfl rfl dX4_readSuit_53 q)
theorem e_X4_readSuit (σ : Sg) (τ : Sl) (y : Sg) (hy : f_X4_readSuit σ = some y) : EvD M_X4_readSuit [.ref 56] (mk σ τ) (none) (mk y τ) := EvM.of (by decide +kernel) (Nat.le_of_ble_eq_true rfl) (i_X4_readSuit σ τ _ y hy ⟨rfl, rfl⟩)
def M_X4_readLine : Ms := (yX4_readLine, cX4_readLine, 1, none, 6, 243, 0, 0)
theorem mv_X4_readLine : MV M_X4_readLine 0 := ⟨⟨q386, q10, by decide, by decide, by decide +kernel⟩, q385, p3⟩
def f_X4_readLine (σ : Sg) : Option Sg :=
  (f_X4_isNamed 0 σ).bind fun (y1 : Int32) =>
  if y1 = 0 then
    (f_X4_isNamed 1 σ).bind fun (y3 : Int32) =>
    if y3 = 0 then
      (f_X4_isNamed 2 σ).bind fun (y5 : Int32) =>
      if y5 = 0 then
        (f_X4_isNamed 3 σ).bind fun (y7 : Int32) =>
        if y7 = 0 then
          (f_X4_isNamed 4 σ).bind fun (y9 : Int32) =>
          if y9 = 0 then
            (f_X4_isNamed 5 σ).bind fun (y11 : Int32) =>
            if y11 = 0 then
              (f_X4_isNamed 6 σ).bind fun (y13 : Int32) =>
              if y13 = 0 then
                some (f_X4_fail (2 : Int32) σ)
              else
                (f_X4_readHedgehog (3 : Int32) σ).bind fun (y15 : Sg) =>
                some y15
            else
              (f_X4_readHedgehog (2 : Int32) σ).bind fun (y16 : Sg) =>
              some y16
          else
            (f_X4_readHedgehog (1 : Int32) σ).bind fun (y17 : Sg) =>
            some y17
        else
          (f_X4_readHedgehog (0 : Int32) σ).bind fun (y18 : Sg) =>
          some y18
      else
        (f_X4_readSuit σ).bind fun (y19 : Sg) =>
        some y19
    else
      (f_X4_readSlug σ).bind fun (y20 : Sg) =>
      some y20
  else
    (f_X4_readPeg σ).bind fun (y21 : Sg) =>
    some y21
set_option maxHeartbeats 4000000 in
set_option maxRecDepth 20000 in
theorem i_X4_readLine (σ : Sg) (τ : Sl) (Q : Option Value → Hp → Prop) : Imp (f_X4_readLine σ) (fun (y : Sg) => Q (none) (mk y τ)) (Go M_X4_readLine Q 0 0 0 [some (.ref 56)] [] (mk σ τ)) := by
  unfold f_X4_readLine
  refine im_st (r_aload_n (i := 0) dX4_readLine_0 rfl rfl rfl) ?_
  refine im_st (r_ldcS (i := 0) dX4_readLine_1 rfl (by decide) rfl rfl) ?_
  refine im_bind (fun y1 hy1 => ?_)
  refine im_st (r_callV (as := [.retAddr 0]) (r := some (.int y1)) (kc1 := 0) (ks1 := 0) (st := []) (st1 := [.int y1]) (e_X4_isNamed 0 σ τ (by decide) y1 hy1) mv_X4_isNamed lk_X4_92 ⟨by decide, by decide⟩ rfl (Nat.le_of_ble_eq_true rfl) (by decide) ⟨_, rfl, rfl⟩ ⟨by decide, by decide⟩ (Nat.le_of_ble_eq_true rfl) dX4_readLine_3 rfl rfl rfl rfl rfl) ?_
  refine im_br (r_if_eq (tgt := 16) dX4_readLine_6 rfl (by decide)) (fun c2 => ?_) (fun c2 => ?_)
  · refine im_st (r_aload_n (i := 0) dX4_readLine_16 rfl rfl rfl) ?_
    refine im_st (r_ldcS (i := 1) dX4_readLine_17 rfl (by decide) rfl rfl) ?_
    refine im_bind (fun y3 hy3 => ?_)
    refine im_st (r_callV (as := [.retAddr 1]) (r := some (.int y3)) (kc1 := 0) (ks1 := 0) (st := []) (st1 := [.int y3]) (e_X4_isNamed 1 σ τ (by decide) y3 hy3) mv_X4_isNamed lk_X4_92 ⟨by decide, by decide⟩ rfl (Nat.le_of_ble_eq_true rfl) (by decide) ⟨_, rfl, rfl⟩ ⟨by decide, by decide⟩ (Nat.le_of_ble_eq_true rfl) dX4_readLine_19 rfl rfl rfl rfl rfl) ?_
    refine im_br (r_if_eq (tgt := 32) dX4_readLine_22 rfl (by decide)) (fun c4 => ?_) (fun c4 => ?_)
    · refine im_st (r_aload_n (i := 0) dX4_readLine_32 rfl rfl rfl) ?_
      refine im_st (r_ldcS (i := 2) dX4_readLine_33 rfl (by decide) rfl rfl) ?_
      refine im_bind (fun y5 hy5 => ?_)
      refine im_st (r_callV (as := [.retAddr 2]) (r := some (.int y5)) (kc1 := 0) (ks1 := 0) (st := []) (st1 := [.int y5]) (e_X4_isNamed 2 σ τ (by decide) y5 hy5) mv_X4_isNamed lk_X4_92 ⟨by decide, by decide⟩ rfl (Nat.le_of_ble_eq_true rfl) (by decide) ⟨_, rfl, rfl⟩ ⟨by decide, by decide⟩ (Nat.le_of_ble_eq_true rfl) dX4_readLine_35 rfl rfl rfl rfl rfl) ?_
      refine im_br (r_if_eq (tgt := 48) dX4_readLine_38 rfl (by decide)) (fun c6 => ?_) (fun c6 => ?_)
      · refine im_st (r_aload_n (i := 0) dX4_readLine_48 rfl rfl rfl) ?_
        refine im_st (r_ldcS (i := 3) dX4_readLine_49 rfl (by decide) rfl rfl) ?_
        refine im_bind (fun y7 hy7 => ?_)
        refine im_st (r_callV (as := [.retAddr 3]) (r := some (.int y7)) (kc1 := 0) (ks1 := 0) (st := []) (st1 := [.int y7]) (e_X4_isNamed 3 σ τ (by decide) y7 hy7) mv_X4_isNamed lk_X4_92 ⟨by decide, by decide⟩ rfl (Nat.le_of_ble_eq_true rfl) (by decide) ⟨_, rfl, rfl⟩ ⟨by decide, by decide⟩ (Nat.le_of_ble_eq_true rfl) dX4_readLine_51 rfl rfl rfl rfl rfl) ?_
        refine im_br (r_if_eq (tgt := 65) dX4_readLine_54 rfl (by decide)) (fun c8 => ?_) (fun c8 => ?_)
        · refine im_st (r_aload_n (i := 0) dX4_readLine_65 rfl rfl rfl) ?_
          refine im_st (r_ldcS (i := 4) dX4_readLine_66 rfl (by decide) rfl rfl) ?_
          refine im_bind (fun y9 hy9 => ?_)
          refine im_st (r_callV (as := [.retAddr 4]) (r := some (.int y9)) (kc1 := 0) (ks1 := 0) (st := []) (st1 := [.int y9]) (e_X4_isNamed 4 σ τ (by decide) y9 hy9) mv_X4_isNamed lk_X4_92 ⟨by decide, by decide⟩ rfl (Nat.le_of_ble_eq_true rfl) (by decide) ⟨_, rfl, rfl⟩ ⟨by decide, by decide⟩ (Nat.le_of_ble_eq_true rfl) dX4_readLine_68 rfl rfl rfl rfl rfl) ?_
          refine im_br (r_if_eq (tgt := 82) dX4_readLine_71 rfl (by decide)) (fun c10 => ?_) (fun c10 => ?_)
          · refine im_st (r_aload_n (i := 0) dX4_readLine_82 rfl rfl rfl) ?_
            refine im_st (r_ldcS (i := 5) dX4_readLine_83 rfl (by decide) rfl rfl) ?_
            refine im_bind (fun y11 hy11 => ?_)
            refine im_st (r_callV (as := [.retAddr 5]) (r := some (.int y11)) (kc1 := 0) (ks1 := 0) (st := []) (st1 := [.int y11]) (e_X4_isNamed 5 σ τ (by decide) y11 hy11) mv_X4_isNamed lk_X4_92 ⟨by decide, by decide⟩ rfl (Nat.le_of_ble_eq_true rfl) (by decide) ⟨_, rfl, rfl⟩ ⟨by decide, by decide⟩ (Nat.le_of_ble_eq_true rfl) dX4_readLine_85 rfl rfl rfl rfl rfl) ?_
            refine im_br (r_if_eq (tgt := 99) dX4_readLine_88 rfl (by decide)) (fun c12 => ?_) (fun c12 => ?_)
            · refine im_st (r_aload_n (i := 0) dX4_readLine_99 rfl rfl rfl) ?_
              refine im_st (r_ldcS (i := 6) dX4_readLine_100 rfl (by decide) rfl rfl) ?_
              refine im_bind (fun y13 hy13 => ?_)
              refine im_st (r_callV (as := [.retAddr 6]) (r := some (.int y13)) (kc1 := 0) (ks1 := 0) (st := []) (st1 := [.int y13]) (e_X4_isNamed 6 σ τ (by decide) y13 hy13) mv_X4_isNamed lk_X4_92 ⟨by decide, by decide⟩ rfl (Nat.le_of_ble_eq_true rfl) (by decide) ⟨_, rfl, rfl⟩ ⟨by decide, by decide⟩ (Nat.le_of_ble_eq_true rfl) dX4_readLine_102 rfl rfl rfl rfl rfl) ?_
              refine im_br (r_if_eq (tgt := 116) dX4_readLine_105 rfl (by decide)) (fun c14 => ?_) (fun c14 => ?_)
              · refine im_st (r_aload_n (i := 0) dX4_readLine_116 rfl rfl rfl) ?_
                refine im_st (r_iconst (v := 2) dX4_readLine_117 rfl kI_2) ?_
                refine im_st (r_callV (as := [.int (2 : Int32)]) (r := none) (kc1 := 0) (ks1 := 0) (st := []) (st1 := []) (e_X4_fail (2 : Int32) σ τ) mv_X4_fail lk_X4_61 ⟨by decide, by decide⟩ rfl (Nat.le_of_ble_eq_true rfl) (by decide) ⟨_, rfl, rfl⟩ ⟨by decide, by decide⟩ (Nat.le_of_ble_eq_true rfl) dX4_readLine_118 rfl rfl rfl rfl rfl) ?_
                exact im_ret (fun q => g_vret rfl rfl rfl dX4_readLine_121 q)
              · refine im_st (r_aload_n (i := 0) dX4_readLine_108 rfl rfl rfl) ?_
                refine im_st (r_iconst (v := 3) dX4_readLine_109 rfl kI_3) ?_
                refine im_bind (fun y15 hy15 => ?_)
                refine im_st (r_callV (as := [.int (3 : Int32)]) (r := none) (kc1 := 0) (ks1 := 0) (st := []) (st1 := []) (e_X4_readHedgehog (3 : Int32) σ τ y15 hy15) mv_X4_readHedgehog lk_X4_111 ⟨by decide, by decide⟩ rfl (Nat.le_of_ble_eq_true rfl) (by decide) ⟨_, rfl, rfl⟩ ⟨by decide, by decide⟩ (Nat.le_of_ble_eq_true rfl) dX4_readLine_110 rfl rfl rfl rfl rfl) ?_
                refine im_st (r_goto (pc1 := 121) dX4_readLine_113 (by decide)) ?_
                exact im_ret (fun q => g_vret rfl rfl rfl dX4_readLine_121 q)
            · refine im_st (r_aload_n (i := 0) dX4_readLine_91 rfl rfl rfl) ?_
              refine im_st (r_iconst (v := 2) dX4_readLine_92 rfl kI_2) ?_
              refine im_bind (fun y16 hy16 => ?_)
              refine im_st (r_callV (as := [.int (2 : Int32)]) (r := none) (kc1 := 0) (ks1 := 0) (st := []) (st1 := []) (e_X4_readHedgehog (2 : Int32) σ τ y16 hy16) mv_X4_readHedgehog lk_X4_111 ⟨by decide, by decide⟩ rfl (Nat.le_of_ble_eq_true rfl) (by decide) ⟨_, rfl, rfl⟩ ⟨by decide, by decide⟩ (Nat.le_of_ble_eq_true rfl) dX4_readLine_93 rfl rfl rfl rfl rfl) ?_
              refine im_st (r_goto (pc1 := 121) dX4_readLine_96 (by decide)) ?_
              exact im_ret (fun q => g_vret rfl rfl rfl dX4_readLine_121 q)
          · refine im_st (r_aload_n (i := 0) dX4_readLine_74 rfl rfl rfl) ?_
            refine im_st (r_iconst (v := 1) dX4_readLine_75 rfl kI_1) ?_
            refine im_bind (fun y17 hy17 => ?_)
            refine im_st (r_callV (as := [.int (1 : Int32)]) (r := none) (kc1 := 0) (ks1 := 0) (st := []) (st1 := []) (e_X4_readHedgehog (1 : Int32) σ τ y17 hy17) mv_X4_readHedgehog lk_X4_111 ⟨by decide, by decide⟩ rfl (Nat.le_of_ble_eq_true rfl) (by decide) ⟨_, rfl, rfl⟩ ⟨by decide, by decide⟩ (Nat.le_of_ble_eq_true rfl) dX4_readLine_76 rfl rfl rfl rfl rfl) ?_
            refine im_st (r_goto (pc1 := 121) dX4_readLine_79 (by decide)) ?_
            exact im_ret (fun q => g_vret rfl rfl rfl dX4_readLine_121 q)
        · refine im_st (r_aload_n (i := 0) dX4_readLine_57 rfl rfl rfl) ?_
          refine im_st (r_iconst (v := 0) dX4_readLine_58 rfl kI_0) ?_
          refine im_bind (fun y18 hy18 => ?_)
          refine im_st (r_callV (as := [.int (0 : Int32)]) (r := none) (kc1 := 0) (ks1 := 0) (st := []) (st1 := []) (e_X4_readHedgehog (0 : Int32) σ τ y18 hy18) mv_X4_readHedgehog lk_X4_111 ⟨by decide, by decide⟩ rfl (Nat.le_of_ble_eq_true rfl) (by decide) ⟨_, rfl, rfl⟩ ⟨by decide, by decide⟩ (Nat.le_of_ble_eq_true rfl) dX4_readLine_59 rfl rfl rfl rfl rfl) ?_
          refine im_st (r_goto (pc1 := 121) dX4_readLine_62 (by decide)) ?_
          exact im_ret (fun q => g_vret rfl rfl rfl dX4_readLine_121 q)
      · refine im_st (r_aload_n (i := 0) dX4_readLine_41 rfl rfl rfl) ?_
        refine im_bind (fun y19 hy19 => ?_)
        refine im_st (r_callV (as := []) (r := none) (kc1 := 0) (ks1 := 0) (st := []) (st1 := []) (e_X4_readSuit σ τ y19 hy19) mv_X4_readSuit lk_X4_106 ⟨by decide, by decide⟩ rfl (Nat.le_of_ble_eq_true rfl) (by decide) ⟨_, rfl, rfl⟩ ⟨by decide, by decide⟩ (Nat.le_of_ble_eq_true rfl) dX4_readLine_42 rfl rfl rfl rfl rfl) ?_
        refine im_st (r_goto (pc1 := 121) dX4_readLine_45 (by decide)) ?_
        exact im_ret (fun q => g_vret rfl rfl rfl dX4_readLine_121 q)
    · refine im_st (r_aload_n (i := 0) dX4_readLine_25 rfl rfl rfl) ?_
      refine im_bind (fun y20 hy20 => ?_)
      refine im_st (r_callV (as := []) (r := none) (kc1 := 0) (ks1 := 0) (st := []) (st1 := []) (e_X4_readSlug σ τ y20 hy20) mv_X4_readSlug lk_X4_101 ⟨by decide, by decide⟩ rfl (Nat.le_of_ble_eq_true rfl) (by decide) ⟨_, rfl, rfl⟩ ⟨by decide, by decide⟩ (Nat.le_of_ble_eq_true rfl) dX4_readLine_26 rfl rfl rfl rfl rfl) ?_
      refine im_st (r_goto (pc1 := 121) dX4_readLine_29 (by decide)) ?_
      exact im_ret (fun q => g_vret rfl rfl rfl dX4_readLine_121 q)
  · refine im_st (r_aload_n (i := 0) dX4_readLine_9 rfl rfl rfl) ?_
    refine im_bind (fun y21 hy21 => ?_)
    refine im_st (r_callV (as := []) (r := none) (kc1 := 0) (ks1 := 0) (st := []) (st1 := []) (e_X4_readPeg σ τ y21 hy21) mv_X4_readPeg lk_X4_96 ⟨by decide, by decide⟩ rfl (Nat.le_of_ble_eq_true rfl) (by decide) ⟨_, rfl, rfl⟩ ⟨by decide, by decide⟩ (Nat.le_of_ble_eq_true rfl) dX4_readLine_10 rfl rfl rfl rfl rfl) ?_
    refine im_st (r_goto (pc1 := 121) dX4_readLine_13 (by decide)) ?_
    exact im_ret (fun q => g_vret rfl rfl rfl dX4_readLine_121 q)
theorem e_X4_readLine (σ : Sg) (τ : Sl) (y : Sg) (hy : f_X4_readLine σ = some y) : EvD M_X4_readLine [.ref 56] (mk σ τ) (none) (mk y τ) := EvM.of (by decide +kernel) (Nat.le_of_ble_eq_true rfl) (i_X4_readLine σ τ _ y hy ⟨rfl, rfl⟩)
def M_X4_readAll : Ms := (yX4_readAll, cX4_readAll, 3, some .int, 7, 263, 0, 0)
theorem mv_X4_readAll : MV M_X4_readAll 0 := ⟨⟨q355, q10, by decide, by decide, by decide +kernel⟩, q353, q354⟩
def b_X4_readAll_23 : (Int32 × Sg) → Option ((Int32 × Sg) ⊕ (Int32 × Sg)) := fun (s5 : (Int32 × Sg)) =>
  if (160 : Int32) ≤ s5.1 then
    some (.inr (s5.1, s5.2))
  else
    if (s5.2 56 1) = 0 then
      if (s5.2 56 4) = (4 : Int32) then
        some (.inr (s5.1, s5.2))
      else
        (f_X4_readLine s5.2).bind fun (y9 : Sg) =>
        (f_X4_advance y9).bind fun (y10 : Sg) =>
        some (.inl ((s5.1 + 1), y10))
    else
      some (.inr (s5.1, s5.2))
def b_X4_readAll_61 : (Int32 × Sg) → Option ((Int32 × Sg) ⊕ (Int32 × Sg)) := fun (s12 : (Int32 × Sg)) =>
  if (s12.2 57 10) ≤ s12.1 then
    some (.inr (s12.1, s12.2))
  else
    if inR s12.1 6 then
    app (if (f_X7_isHedgehog 57 (s12.2 63 s12.1.toNatClampNeg) s12.2) = 0 then
      (f_X4_fail (6 : Int32) s12.2)
    else
      s12.2) fun (j15 : Sg) =>
    some (.inl ((s12.1 + 1), j15))
    else none
def f_X4_readAll (σ : Sg) : Option (Int32 × Sg) :=
  app (f_X7_empty 57 σ) fun (σ1 : Sg) =>
  app (up2 σ1 56 1 (0 : Int32)) fun (σ2 : Sg) =>
  app (up2 σ2 56 6 (0 : Int32)) fun (σ3 : Sg) =>
  (f_X4_advance σ3).bind fun (y4 : Sg) =>
  (wh b_X4_readAll_23 4096 ((0 : Int32), y4)).bind fun (e11 : (Int32 × Sg)) =>
  (wh b_X4_readAll_61 4096 ((0 : Int32), e11.2)).bind fun (e17 : (Int32 × Sg)) =>
  if (e17.2 56 1) = 0 then
    some (e11.1, e17.2)
  else
    some (((-10 : Int32) - (e17.2 56 3)), e17.2)
set_option maxHeartbeats 4000000 in
set_option maxRecDepth 20000 in
theorem i_X4_readAll (σ : Sg) (τ : Sl) (Q : Option Value → Hp → Prop) : Imp (f_X4_readAll σ) (fun (y : (Int32 × Sg)) => Q (some (.int y.1)) (mk y.2 τ)) (Go M_X4_readAll Q 0 0 0 [some (.ref 56), none, none] [] (mk σ τ)) := by
  unfold f_X4_readAll
  refine im_st (r_aload_n (i := 0) dX4_readAll_0 rfl rfl rfl) ?_
  refine im_st (s_getR (b := 57) (tag := 4) (j := 0) dX4_readAll_1 rfl fl_X4_12 rfl (Nat.le_of_ble_eq_true rfl) rfl rfl) ?_
  refine im_st (r_callV (as := []) (r := none) (kc1 := 0) (ks1 := 0) (st := []) (st1 := []) (e_X7_empty 57 σ τ isSl_57) mv_X7_empty lk_X4_41 ⟨by decide, by decide⟩ rfl (Nat.le_of_ble_eq_true rfl) (by decide) ⟨_, rfl, rfl⟩ ⟨by decide, by decide⟩ (Nat.le_of_ble_eq_true rfl) dX4_readAll_4 rfl rfl rfl rfl rfl) ?_
  refine im_st (r_aload_n (i := 0) dX4_readAll_7 rfl rfl rfl) ?_
  refine im_st (r_iconst (v := 0) dX4_readAll_8 rfl kI_0) ?_
  refine im_app (Gm := fun (σ1 : Sg) => Go M_X4_readAll Q 0 0 9 [some (.ref 56), none, none] [.int (0 : Int32), .ref 56] (mk σ1 τ)) (fun σ1 => ?_)
  refine im_st (s_putI (tag := 4) (j := 1) dX4_readAll_9 rfl fl_X4_18 rfl (Nat.le_of_ble_eq_true rfl) rfl fw_4_1) ?_
  refine im_st (r_aload_n (i := 0) dX4_readAll_12 rfl rfl rfl) ?_
  refine im_st (r_iconst (v := 0) dX4_readAll_13 rfl kI_0) ?_
  refine im_app (Gm := fun (σ2 : Sg) => Go M_X4_readAll Q 0 0 14 [some (.ref 56), none, none] [.int (0 : Int32), .ref 56] (mk σ2 τ)) (fun σ2 => ?_)
  refine im_st (s_putI (tag := 4) (j := 6) dX4_readAll_14 rfl fl_X4_31 rfl (Nat.le_of_ble_eq_true rfl) rfl fw_4_6) ?_
  refine im_st (r_iconst (v := 0) dX4_readAll_17 rfl kI_0) ?_
  refine im_st (r_istore_n (i := 1) (L1 := [some (.ref 56), some (.int (0 : Int32)), none]) dX4_readAll_18 rfl rfl (by decide) rfl) ?_
  refine im_st (r_aload_n (i := 0) dX4_readAll_19 rfl rfl rfl) ?_
  refine im_app (Gm := fun (σ3 : Sg) => Go M_X4_readAll Q 0 0 20 [some (.ref 56), some (.int (0 : Int32)), none] [.ref 56] (mk σ3 τ)) (fun σ3 => ?_)
  refine im_bind (fun y4 hy4 => ?_)
  refine im_st (r_callV (as := []) (r := none) (kc1 := 0) (ks1 := 0) (st := []) (st1 := []) (e_X4_advance σ3 τ y4 hy4) mv_X4_advance lk_X4_44 ⟨by decide, by decide⟩ rfl (Nat.le_of_ble_eq_true rfl) (by decide) ⟨_, rfl, rfl⟩ ⟨by decide, by decide⟩ (Nat.le_of_ble_eq_true rfl) dX4_readAll_20 rfl rfl rfl rfl rfl) ?_
  refine im_seq (Gm := fun (e11 : (Int32 × Sg)) => Go M_X4_readAll Q 0 0 59 [some (.ref 56), some (.int e11.1), none] [] (mk e11.2 τ)) ?_ (fun e11 => ?_)
  · refine im_wh (G := fun (s5 : (Int32 × Sg)) => Go M_X4_readAll Q 0 0 23 [some (.ref 56), some (.int s5.1), none] [] (mk s5.2 τ)) (fun s5 => ?_) _ _
    unfold b_X4_readAll_23
    refine im_st (r_iload_n (i := 1) dX4_readAll_23 rfl rfl rfl) ?_
    refine im_st (r_sipush (v := 160) dX4_readAll_24 rfl kS_160) ?_
    refine im_br (r_icmp_ge (tgt := 59) dX4_readAll_27 rfl (by decide)) (fun c6 => ?_) (fun c6 => ?_)
    · exact im_ret id
    · refine im_st (r_aload_n (i := 0) dX4_readAll_30 rfl rfl rfl) ?_
      refine im_st (s_getI (tag := 4) (j := 1) dX4_readAll_31 rfl fl_X4_18 rfl (Nat.le_of_ble_eq_true rfl) rfl) ?_
      refine im_br (r_if_ne (tgt := 59) dX4_readAll_34 rfl (by decide)) (fun c7 => ?_) (fun c7 => ?_)
      · refine im_st (r_aload_n (i := 0) dX4_readAll_37 rfl rfl rfl) ?_
        refine im_st (s_getI (tag := 4) (j := 4) dX4_readAll_38 rfl fl_X4_25 rfl (Nat.le_of_ble_eq_true rfl) rfl) ?_
        refine im_st (r_iconst (v := 4) dX4_readAll_41 rfl kI_4) ?_
        refine im_br (r_icmp_eq (tgt := 59) dX4_readAll_42 rfl (by decide)) (fun c8 => ?_) (fun c8 => ?_)
        · exact im_ret id
        · refine im_st (r_aload_n (i := 0) dX4_readAll_45 rfl rfl rfl) ?_
          refine im_bind (fun y9 hy9 => ?_)
          refine im_st (r_callV (as := []) (r := none) (kc1 := 0) (ks1 := 0) (st := []) (st1 := []) (e_X4_readLine s5.2 τ y9 hy9) mv_X4_readLine lk_X4_47 ⟨by decide, by decide⟩ rfl (Nat.le_of_ble_eq_true rfl) (by decide) ⟨_, rfl, rfl⟩ ⟨by decide, by decide⟩ (Nat.le_of_ble_eq_true rfl) dX4_readAll_46 rfl rfl rfl rfl rfl) ?_
          refine im_st (r_aload_n (i := 0) dX4_readAll_49 rfl rfl rfl) ?_
          refine im_bind (fun y10 hy10 => ?_)
          refine im_st (r_callV (as := []) (r := none) (kc1 := 0) (ks1 := 0) (st := []) (st1 := []) (e_X4_advance y9 τ y10 hy10) mv_X4_advance lk_X4_44 ⟨by decide, by decide⟩ rfl (Nat.le_of_ble_eq_true rfl) (by decide) ⟨_, rfl, rfl⟩ ⟨by decide, by decide⟩ (Nat.le_of_ble_eq_true rfl) dX4_readAll_50 rfl rfl rfl rfl rfl) ?_
          refine im_st (r_iinc (i := 1) (x := s5.1) (v := (s5.1 + 1)) (L1 := [some (.ref 56), some (.int (s5.1 + 1)), none]) dX4_readAll_53 rfl rfl rfl (by decide) rfl) ?_
          refine im_st (r_goto (pc1 := 23) dX4_readAll_56 (by decide)) ?_
          exact im_ret id
      · exact im_ret id
  refine im_st (r_iconst (v := 0) dX4_readAll_59 rfl kI_0) ?_
  refine im_st (r_istore_n (i := 2) (L1 := [some (.ref 56), some (.int e11.1), some (.int (0 : Int32))]) dX4_readAll_60 rfl rfl (by decide) rfl) ?_
  refine im_seq (Gm := fun (e17 : (Int32 × Sg)) => Go M_X4_readAll Q 0 0 103 [some (.ref 56), some (.int e11.1), none] [] (mk e17.2 τ)) ?_ (fun e17 => ?_)
  · refine im_wh (G := fun (s12 : (Int32 × Sg)) => Go M_X4_readAll Q 0 0 61 [some (.ref 56), some (.int e11.1), some (.int s12.1)] [] (mk s12.2 τ)) (fun s12 => ?_) _ _
    unfold b_X4_readAll_61
    refine im_st (r_iload_n (i := 2) dX4_readAll_61 rfl rfl rfl) ?_
    refine im_st (r_aload_n (i := 0) dX4_readAll_62 rfl rfl rfl) ?_
    refine im_st (s_getR (b := 57) (tag := 4) (j := 0) dX4_readAll_63 rfl fl_X4_12 rfl (Nat.le_of_ble_eq_true rfl) rfl rfl) ?_
    refine im_st (s_getI (tag := 7) (j := 10) dX4_readAll_66 rfl fl_X4_50 rfl (Nat.le_of_ble_eq_true rfl) rfl) ?_
    refine im_br (r_icmp_ge (tgt := 103) dX4_readAll_69 rfl (by decide)) (fun c13 => ?_) (fun c13 => ?_)
    · refine im_st (r_fgt (L1 := [some (.ref 56), some (.int e11.1), none]) [2] rfl) ?_
      exact im_ret id
    · refine im_st (r_aload_n (i := 0) dX4_readAll_72 rfl rfl rfl) ?_
      refine im_st (s_getR (b := 57) (tag := 4) (j := 0) dX4_readAll_73 rfl fl_X4_12 rfl (Nat.le_of_ble_eq_true rfl) rfl rfl) ?_
      refine im_st (r_aload_n (i := 0) dX4_readAll_76 rfl rfl rfl) ?_
      refine im_st (s_getR (b := 57) (tag := 4) (j := 0) dX4_readAll_77 rfl fl_X4_12 rfl (Nat.le_of_ble_eq_true rfl) rfl rfl) ?_
      refine im_st (s_getR (b := 63) (tag := 7) (j := 8) dX4_readAll_80 rfl fl_X4_53 rfl (Nat.le_of_ble_eq_true rfl) rfl rfl) ?_
      refine im_st (r_iload_n (i := 2) dX4_readAll_83 rfl rfl rfl) ?_
      refine im_grd (fun g14 => ?_)
      refine im_st (s_iaload dX4_readAll_84 rfl rfl (Nat.le_of_ble_eq_true rfl) (inR_in g14)) ?_
      refine im_st (r_callV (as := [.int (s12.2 63 s12.1.toNatClampNeg)]) (r := some (.int (f_X7_isHedgehog 57 (s12.2 63 s12.1.toNatClampNeg) s12.2))) (kc1 := 0) (ks1 := 0) (st := []) (st1 := [.int (f_X7_isHedgehog 57 (s12.2 63 s12.1.toNatClampNeg) s12.2)]) (e_X7_isHedgehog 57 (s12.2 63 s12.1.toNatClampNeg) s12.2 τ isSl_57) mv_X7_isHedgehog lk_X4_57 ⟨by decide, by decide⟩ rfl (Nat.le_of_ble_eq_true rfl) (by decide) ⟨_, rfl, rfl⟩ ⟨by decide, by decide⟩ (Nat.le_of_ble_eq_true rfl) dX4_readAll_85 rfl rfl rfl rfl rfl) ?_
      refine im_seqT (Gm := fun (j15 : Sg) => Go M_X4_readAll Q 0 0 97 [some (.ref 56), some (.int e11.1), some (.int s12.1)] [] (mk j15 τ)) ?_ (fun j15 => ?_)
      · refine im_brS (r_if_ne (tgt := 97) dX4_readAll_88 rfl (by decide)) (fun c16 => ?_) (fun c16 => ?_)
        · refine im_st (r_aload_n (i := 0) dX4_readAll_91 rfl rfl rfl) ?_
          refine im_st (r_bipush (v := 6) dX4_readAll_92 rfl kB_6) ?_
          refine im_st (r_callV (as := [.int (6 : Int32)]) (r := none) (kc1 := 0) (ks1 := 0) (st := []) (st1 := []) (e_X4_fail (6 : Int32) s12.2 τ) mv_X4_fail lk_X4_61 ⟨by decide, by decide⟩ rfl (Nat.le_of_ble_eq_true rfl) (by decide) ⟨_, rfl, rfl⟩ ⟨by decide, by decide⟩ (Nat.le_of_ble_eq_true rfl) dX4_readAll_94 rfl rfl rfl rfl rfl) ?_
          exact im_ret id
        · exact im_ret id
      refine im_st (r_iinc (i := 2) (x := s12.1) (v := (s12.1 + 1)) (L1 := [some (.ref 56), some (.int e11.1), some (.int (s12.1 + 1))]) dX4_readAll_97 rfl rfl rfl (by decide) rfl) ?_
      refine im_st (r_goto (pc1 := 61) dX4_readAll_100 (by decide)) ?_
      exact im_ret id
  refine im_st (r_aload_n (i := 0) dX4_readAll_103 rfl rfl rfl) ?_
  refine im_st (s_getI (tag := 4) (j := 1) dX4_readAll_104 rfl fl_X4_18 rfl (Nat.le_of_ble_eq_true rfl) rfl) ?_
  refine im_br (r_if_ne (tgt := 114) dX4_readAll_107 rfl (by decide)) (fun c18 => ?_) (fun c18 => ?_)
  · refine im_st (r_iload_n (i := 1) dX4_readAll_110 rfl rfl rfl) ?_
    refine im_st (r_goto (pc1 := 121) dX4_readAll_111 (by decide)) ?_
    exact im_ret (fun q => g_iret rfl rfl rfl dX4_readAll_121 q)
  · refine im_st (r_bipush (v := -10) dX4_readAll_114 rfl kB_m10) ?_
    refine im_st (r_aload_n (i := 0) dX4_readAll_116 rfl rfl rfl) ?_
    refine im_st (s_getI (tag := 4) (j := 3) dX4_readAll_117 rfl fl_X4_22 rfl (Nat.le_of_ble_eq_true rfl) rfl) ?_
    refine im_st (r_isub dX4_readAll_120 rfl) ?_
    exact im_ret (fun q => g_iret rfl rfl rfl dX4_readAll_121 q)
theorem e_X4_readAll (σ : Sg) (τ : Sl) (y : (Int32 × Sg)) (hy : f_X4_readAll σ = some y) : EvD M_X4_readAll [.ref 56] (mk σ τ) (some (.int y.1)) (mk y.2 τ) := EvM.of (by decide +kernel) (Nat.le_of_ble_eq_true rfl) (i_X4_readAll σ τ _ y hy ⟨rfl, rfl⟩)
