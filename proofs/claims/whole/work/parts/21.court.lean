def M_X1_columnBeside : Ms := (yX1_columnBeside, cX1_columnBeside, 2, some .int, 1, 14, 0, 0)
theorem ms_X1_columnBeside : MS M_X1_columnBeside 2 := ⟨⟨q564, q5, by decide, by decide, by decide +kernel⟩, q563⟩
def f_X1_columnBeside (a0 : Int32) (a1 : Int32) : Int32 :=
  (iMax (0 : Int32) (iMin (7 : Int32) (a0 + a1)))
set_option maxHeartbeats 4000000 in
set_option maxRecDepth 20000 in
theorem i_X1_columnBeside (a0 : Int32) (a1 : Int32) (σ : Sg) (τ : Sl) (Q : Option Value → Hp → Prop) : Imp (some (f_X1_columnBeside a0 a1)) (fun (y : Int32) => Q (some (.int y)) (mk σ τ)) (Go M_X1_columnBeside Q 0 0 0 [some (.int a0), some (.int a1)] [] (mk σ τ)) := by
  unfold f_X1_columnBeside
  refine im_st (r_iconst (v := 0) dX1_columnBeside_0 rfl kI_0) ?_
  refine im_st (r_bipush (v := 7) dX1_columnBeside_1 rfl kB_7) ?_
  refine im_st (r_iload_n (i := 0) dX1_columnBeside_3 rfl rfl rfl) ?_
  refine im_st (r_iload_n (i := 1) dX1_columnBeside_4 rfl rfl rfl) ?_
  refine im_st (r_iadd dX1_columnBeside_5 rfl) ?_
  refine im_st (s_iMin lk_X1_32 (by decide) (Nat.le_of_ble_eq_true rfl) dX1_columnBeside_6 rfl) ?_
  refine im_st (s_iMax lk_X1_38 (by decide) (Nat.le_of_ble_eq_true rfl) dX1_columnBeside_9 rfl) ?_
  exact im_ret (fun q => g_iret rfl rfl rfl dX1_columnBeside_12 q)
theorem e_X1_columnBeside (a0 : Int32) (a1 : Int32) (σ : Sg) (τ : Sl) : EvD M_X1_columnBeside [.int a0, .int a1] (mk σ τ) (some (.int (f_X1_columnBeside a0 a1))) (mk σ τ) := EvM.of (by decide +kernel) (Nat.le_of_ble_eq_true rfl) (i_X1_columnBeside a0 a1 σ τ _ _ rfl ⟨rfl, rfl⟩)
def M_X1_loss : Ms := (yX1_loss, cX1_loss, 1, some .int, 0, 0, 0, 0)
theorem ms_X1_loss : MS M_X1_loss 1 := ⟨⟨q558, q5, by decide, by decide, by decide +kernel⟩, q557⟩
def f_X1_loss (a0 : Int32) : Int32 :=
  if a0 = 1 then
    (3 : Int32)
  else
    if a0 = 2 then
      (1 : Int32)
    else
      if a0 = 3 then
        (6 : Int32)
      else
        (2 : Int32)
set_option maxHeartbeats 4000000 in
set_option maxRecDepth 20000 in
theorem i_X1_loss (a0 : Int32) (σ : Sg) (τ : Sl) (Q : Option Value → Hp → Prop) : Imp (some (f_X1_loss a0)) (fun (y : Int32) => Q (some (.int y)) (mk σ τ)) (Go M_X1_loss Q 0 0 0 [some (.int a0)] [] (mk σ τ)) := by
  unfold f_X1_loss
  refine im_st (r_iload_n (i := 0) dX1_loss_0 rfl rfl rfl) ?_
  refine im_ifS (fun c1 => ?_) (fun c1 => ?_)
  · refine im_st (r_tin (off := 27) (pc1 := 28) dX1_loss_1 (by rw [c1]; decide) (by rw [c1]; decide) (by rw [c1]; rfl) (by decide)) ?_
    refine im_st (r_iconst (v := 3) dX1_loss_28 rfl kI_3) ?_
    exact im_ret (fun q => g_iret rfl rfl rfl dX1_loss_29 q)
  · refine im_ifS (fun c2 => ?_) (fun c2 => ?_)
    · refine im_st (r_tin (off := 29) (pc1 := 30) dX1_loss_1 (by rw [c2]; decide) (by rw [c2]; decide) (by rw [c2]; rfl) (by decide)) ?_
      refine im_st (r_iconst (v := 1) dX1_loss_30 rfl kI_1) ?_
      exact im_ret (fun q => g_iret rfl rfl rfl dX1_loss_31 q)
    · refine im_ifS (fun c3 => ?_) (fun c3 => ?_)
      · refine im_st (r_tin (off := 31) (pc1 := 32) dX1_loss_1 (by rw [c3]; decide) (by rw [c3]; decide) (by rw [c3]; rfl) (by decide)) ?_
        refine im_st (r_bipush (v := 6) dX1_loss_32 rfl kB_6) ?_
        exact im_ret (fun q => g_iret rfl rfl rfl dX1_loss_34 q)
      · refine im_st (r_tout (pc1 := 35) dX1_loss_1 (by have h0 := tsw_not c1 (a := 1) (by decide); have h1 := tsw_not c2 (a := 2) (by decide); have h2 := tsw_not c3 (a := 3) (by decide); omega) (by decide)) ?_
        refine im_st (r_iconst (v := 2) dX1_loss_35 rfl kI_2) ?_
        exact im_ret (fun q => g_iret rfl rfl rfl dX1_loss_36 q)
theorem e_X1_loss (a0 : Int32) (σ : Sg) (τ : Sl) : EvD M_X1_loss [.int a0] (mk σ τ) (some (.int (f_X1_loss a0))) (mk σ τ) := EvM.of (by decide +kernel) (Nat.le_of_ble_eq_true rfl) (i_X1_loss a0 σ τ _ _ rfl ⟨rfl, rfl⟩)
def M_X1_startAfresh : Ms := (yX1_startAfresh, cX1_startAfresh, 1, none, 0, 0, 0, 0)
theorem mv_X1_startAfresh : MV M_X1_startAfresh 0 := ⟨⟨q537, q5, by decide, by decide, by decide +kernel⟩, q535, q536⟩
def f_X1_startAfresh (b : Nat) (σ : Sg) : Sg :=
  app (up2 σ (b + 10) 0 (-4 : Int32)) fun (σ1 : Sg) =>
  app (up2 σ1 (b + 10) 1 (-4 : Int32)) fun (σ2 : Sg) =>
  app (up2 σ2 (b + 10) 2 (0 : Int32)) fun (σ3 : Sg) =>
  app (up2 σ3 (b + 10) 3 (0 : Int32)) fun (σ4 : Sg) =>
  (up2 σ4 (b + 10) 4 (0 : Int32))
set_option maxHeartbeats 4000000 in
set_option maxRecDepth 20000 in
theorem i_X1_startAfresh (b : Nat) (σ : Sg) (τ : Sl) (hb : isCt b) (Q : Option Value → Hp → Prop) : Imp (some (f_X1_startAfresh b σ)) (fun (y : Sg) => Q (none) (mk y τ)) (Go M_X1_startAfresh Q 0 0 0 [some (.ref (b + 10))] [] (mk σ τ)) := by
  unfold f_X1_startAfresh
  refine im_st (r_aload_n (i := 0) dX1_startAfresh_0 rfl rfl rfl) ?_
  refine im_st (r_bipush (v := -4) dX1_startAfresh_1 rfl kB_m4) ?_
  refine im_st (s_putI (tag := 1) (j := 0) dX1_startAfresh_3 rfl fl_X1_9 (co_sh hb) (co_lt hb) rfl fw_1_0) ?_
  refine im_st (r_aload_n (i := 0) dX1_startAfresh_6 rfl rfl rfl) ?_
  refine im_st (r_bipush (v := -4) dX1_startAfresh_7 rfl kB_m4) ?_
  refine im_appS (Gm := fun (σ1 : Sg) => Go M_X1_startAfresh Q 0 0 9 [some (.ref (b + 10))] [.int (-4 : Int32), .ref (b + 10)] (mk σ1 τ)) (fun σ1 => ?_)
  refine im_st (s_putI (tag := 1) (j := 1) dX1_startAfresh_9 rfl fl_X1_15 (co_sh hb) (co_lt hb) rfl fw_1_1) ?_
  refine im_st (r_aload_n (i := 0) dX1_startAfresh_12 rfl rfl rfl) ?_
  refine im_st (r_iconst (v := 0) dX1_startAfresh_13 rfl kI_0) ?_
  refine im_appS (Gm := fun (σ2 : Sg) => Go M_X1_startAfresh Q 0 0 14 [some (.ref (b + 10))] [.int (0 : Int32), .ref (b + 10)] (mk σ2 τ)) (fun σ2 => ?_)
  refine im_st (s_putI (tag := 1) (j := 2) dX1_startAfresh_14 rfl fl_X1_18 (co_sh hb) (co_lt hb) rfl fw_1_2) ?_
  refine im_st (r_aload_n (i := 0) dX1_startAfresh_17 rfl rfl rfl) ?_
  refine im_st (r_iconst (v := 0) dX1_startAfresh_18 rfl kI_0) ?_
  refine im_appS (Gm := fun (σ3 : Sg) => Go M_X1_startAfresh Q 0 0 19 [some (.ref (b + 10))] [.int (0 : Int32), .ref (b + 10)] (mk σ3 τ)) (fun σ3 => ?_)
  refine im_st (s_putI (tag := 1) (j := 3) dX1_startAfresh_19 rfl fl_X1_21 (co_sh hb) (co_lt hb) rfl fw_1_3) ?_
  refine im_st (r_aload_n (i := 0) dX1_startAfresh_22 rfl rfl rfl) ?_
  refine im_st (r_iconst (v := 0) dX1_startAfresh_23 rfl kI_0) ?_
  refine im_appS (Gm := fun (σ4 : Sg) => Go M_X1_startAfresh Q 0 0 24 [some (.ref (b + 10))] [.int (0 : Int32), .ref (b + 10)] (mk σ4 τ)) (fun σ4 => ?_)
  refine im_st (s_putZ (tag := 1) (j := 4) dX1_startAfresh_24 rfl fl_X1_24 (co_sh hb) (co_lt hb) rfl fw_1_4 rfl) ?_
  exact im_ret (fun q => g_vret rfl rfl rfl dX1_startAfresh_27 q)
theorem e_X1_startAfresh (b : Nat) (σ : Sg) (τ : Sl) (hb : isCt b) : EvD M_X1_startAfresh [.ref (b + 10)] (mk σ τ) (none) (mk (f_X1_startAfresh b σ) τ) := EvM.of (by decide +kernel) (Nat.le_of_ble_eq_true rfl) (i_X1_startAfresh b σ τ hb _ _ rfl ⟨rfl, rfl⟩)
def M_X1_turn : Ms := (yX1_turn, cX1_turn, 3, some .int, 0, 0, 0, 0)
theorem ms_X1_turn : MS M_X1_turn 2 := ⟨⟨q561, q5, by decide, by decide, by decide +kernel⟩, q560⟩
def f_X1_turn (a0 : Int32) (a1 : Int32) : Int32 :=
  app (if (a1 - a1 / (2 : Int32) * (2 : Int32)) = 0 then
    (-1 : Int32)
  else
    (1 : Int32)) fun (j1 : Int32) =>
  if a0 = 1 then
    (-j1)
  else
    if a0 = 2 then
      (1 : Int32)
    else
      if a0 = 3 then
        ((-2 : Int32) * j1)
      else
        j1
set_option maxHeartbeats 4000000 in
set_option maxRecDepth 20000 in
theorem i_X1_turn (a0 : Int32) (a1 : Int32) (σ : Sg) (τ : Sl) (Q : Option Value → Hp → Prop) : Imp (some (f_X1_turn a0 a1)) (fun (y : Int32) => Q (some (.int y)) (mk σ τ)) (Go M_X1_turn Q 0 0 0 [some (.int a0), some (.int a1), none] [] (mk σ τ)) := by
  unfold f_X1_turn
  refine im_st (r_iload_n (i := 1) dX1_turn_0 rfl rfl rfl) ?_
  refine im_st (r_iconst (v := 2) dX1_turn_1 rfl kI_2) ?_
  refine im_st (r_irem dX1_turn_2 rfl (by decide)) ?_
  refine im_seqS (Gm := fun (j1 : Int32) => Go M_X1_turn Q 0 0 11 [some (.int a0), none, none] [.int j1] (mk σ τ)) ?_ (fun j1 => ?_)
  · refine im_brS (r_if_ne (tgt := 10) dX1_turn_3 rfl (by decide)) (fun c2 => ?_) (fun c2 => ?_)
    · refine im_st (r_iconst (v := -1) dX1_turn_6 rfl kI_m1) ?_
      refine im_st (r_goto (pc1 := 11) dX1_turn_7 (by decide)) ?_
      refine im_st (r_fgt (L1 := [some (.int a0), none, none]) [1] rfl) ?_
      exact im_ret id
    · refine im_st (r_iconst (v := 1) dX1_turn_10 rfl kI_1) ?_
      refine im_st (r_fgt (L1 := [some (.int a0), none, none]) [1] rfl) ?_
      exact im_ret id
  refine im_st (r_istore_n (i := 2) (L1 := [some (.int a0), none, some (.int j1)]) dX1_turn_11 rfl rfl (by decide) rfl) ?_
  refine im_st (r_iload_n (i := 0) dX1_turn_12 rfl rfl rfl) ?_
  refine im_ifS (fun c3 => ?_) (fun c3 => ?_)
  · refine im_st (r_tin (off := 27) (pc1 := 40) dX1_turn_13 (by rw [c3]; decide) (by rw [c3]; decide) (by rw [c3]; rfl) (by decide)) ?_
    refine im_st (r_iload_n (i := 2) dX1_turn_40 rfl rfl rfl) ?_
    refine im_st (r_ineg dX1_turn_41 rfl) ?_
    exact im_ret (fun q => g_iret rfl rfl rfl dX1_turn_42 q)
  · refine im_ifS (fun c4 => ?_) (fun c4 => ?_)
    · refine im_st (r_tin (off := 30) (pc1 := 43) dX1_turn_13 (by rw [c4]; decide) (by rw [c4]; decide) (by rw [c4]; rfl) (by decide)) ?_
      refine im_st (r_iconst (v := 1) dX1_turn_43 rfl kI_1) ?_
      exact im_ret (fun q => g_iret rfl rfl rfl dX1_turn_44 q)
    · refine im_ifS (fun c5 => ?_) (fun c5 => ?_)
      · refine im_st (r_tin (off := 32) (pc1 := 45) dX1_turn_13 (by rw [c5]; decide) (by rw [c5]; decide) (by rw [c5]; rfl) (by decide)) ?_
        refine im_st (r_bipush (v := -2) dX1_turn_45 rfl kB_m2) ?_
        refine im_st (r_iload_n (i := 2) dX1_turn_47 rfl rfl rfl) ?_
        refine im_st (r_imul dX1_turn_48 rfl) ?_
        exact im_ret (fun q => g_iret rfl rfl rfl dX1_turn_49 q)
      · refine im_st (r_tout (pc1 := 50) dX1_turn_13 (by have h0 := tsw_not c3 (a := 1) (by decide); have h1 := tsw_not c4 (a := 2) (by decide); have h2 := tsw_not c5 (a := 3) (by decide); omega) (by decide)) ?_
        refine im_st (r_iload_n (i := 2) dX1_turn_50 rfl rfl rfl) ?_
        exact im_ret (fun q => g_iret rfl rfl rfl dX1_turn_51 q)
theorem e_X1_turn (a0 : Int32) (a1 : Int32) (σ : Sg) (τ : Sl) : EvD M_X1_turn [.int a0, .int a1] (mk σ τ) (some (.int (f_X1_turn a0 a1))) (mk σ τ) := EvM.of (by decide +kernel) (Nat.le_of_ble_eq_true rfl) (i_X1_turn a0 a1 σ τ _ _ rfl ⟨rfl, rfl⟩)
def M_X1_follow : Ms := (yX1_follow, cX1_follow, 9, none, 2, 35, 0, 0)
theorem mv_X1_follow : MV M_X1_follow 4 := ⟨⟨q546, q5, by decide, by decide, by decide +kernel⟩, q544, q545⟩
def b_X1_follow_14 (b : Nat) (b1 : Nat) (a2 : Int32) : (Int32 × Int32 × Int32 × Sg) → Option ((Int32 × Int32 × Int32 × Sg) ⊕ ((Int32 × Int32 × Int32 × Sg) ⊕ Sg)) := fun (s2 : (Int32 × Int32 × Int32 × Sg)) =>
  if (10 : Int32) ≤ s2.2.2.1 then
    some (.inr (.inl (s2.1, s2.2.1, s2.2.2.1, s2.2.2.2)))
  else
    app (up2 s2.2.2.2 (b + 10) 2 s2.2.2.1) fun (σ4 : Sg) =>
    if inR s2.2.2.1 10 then
    app (up2 σ4 (b + 11) s2.2.2.1.toNatClampNeg s2.1) fun (σ6 : Sg) =>
    (f_X7_standingAt b1 (((10 : Int32) * s2.2.2.1) + s2.1) σ6).bind fun (y7 : Int32) =>
    if y7 = (-2 : Int32) then
      some (.inr (.inr (up2 σ6 (b + 10) 4 (1 : Int32))))
    else
      if (f_X7_isPeg b1 y7 σ6) = 0 then
        some (.inl (s2.1, s2.2.1, (s2.2.2.1 + 1), σ6))
      else
        app (s2.2.1 - (f_X1_loss a2)) fun (v10 : Int32) =>
        if 0 < v10 then
          app (f_X1_columnBeside s2.1 (f_X1_turn a2 s2.2.2.1)) fun (v12 : Int32) =>
          some (.inl (v12, v10, (s2.2.2.1 + 1), (up2 σ6 (b + 10) 3 ((σ6 (b + 10) 3) + (1 : Int32)))))
        else
          app (up2 σ6 (b + 10) 3 ((σ6 (b + 10) 3) + (1 : Int32))) fun (σ13 : Sg) =>
          app (up2 σ13 (b + 10) 0 y7) fun (σ14 : Sg) =>
          if inR y7 7 then
          some (.inr (.inr (up2 σ14 (b + 10) 1 (σ14 (b1 + 2) y7.toNatClampNeg))))
          else none
    else none
def f_X1_follow (b : Nat) (b1 : Nat) (a2 : Int32) (a3 : Int32) (a4 : Int32) (σ : Sg) : Option Sg :=
  app (f_X1_startAfresh b σ) fun (σ1 : Sg) =>
  (wh (b_X1_follow_14 b b1 a2) 4096 (a4, a3, (0 : Int32), σ1)).bind fun (r18 : ((Int32 × Int32 × Int32 × Sg) ⊕ Sg)) =>
  Sum.elim (fun (e16 : (Int32 × Int32 × Int32 × Sg)) =>
    some (up2 e16.2.2.2 (b + 10) 2 (10 : Int32))) (fun (y17 : Sg) => some y17) r18
set_option maxHeartbeats 4000000 in
set_option maxRecDepth 20000 in
theorem i_X1_follow (b : Nat) (b1 : Nat) (a2 : Int32) (a3 : Int32) (a4 : Int32) (σ : Sg) (τ : Sl) (hb : isCt b) (hb1 : isSl b1) (Q : Option Value → Hp → Prop) : Imp (f_X1_follow b b1 a2 a3 a4 σ) (fun (y : Sg) => Q (none) (mk y τ)) (Go M_X1_follow Q 0 0 0 [some (.ref (b + 10)), some (.ref b1), some (.int a2), some (.int a3), some (.int a4), none, none, none, none] [] (mk σ τ)) := by
  unfold f_X1_follow
  refine im_st (r_aload_n (i := 0) dX1_follow_0 rfl rfl rfl) ?_
  refine im_st (r_callV (as := []) (r := none) (kc1 := 0) (ks1 := 0) (st := []) (st1 := []) (e_X1_startAfresh b σ τ hb) mv_X1_startAfresh lk_X1_41 ⟨by decide, by decide⟩ (co_sh hb) (co_lt hb) (by decide) ⟨_, rfl, rfl⟩ ⟨by decide, by decide⟩ (Nat.le_of_ble_eq_true rfl) dX1_follow_1 rfl rfl rfl rfl rfl) ?_
  refine im_st (r_iload (i := 4) dX1_follow_4 rfl rfl) ?_
  refine im_st (r_istore (i := 5) (L1 := [some (.ref (b + 10)), some (.ref b1), some (.int a2), some (.int a3), some (.int a4), some (.int a4), none, none, none]) dX1_follow_6 rfl (by decide) rfl) ?_
  refine im_st (r_iload_n (i := 3) dX1_follow_8 rfl rfl rfl) ?_
  refine im_st (r_istore (i := 6) (L1 := [some (.ref (b + 10)), some (.ref b1), some (.int a2), some (.int a3), some (.int a4), some (.int a4), some (.int a3), none, none]) dX1_follow_9 rfl (by decide) rfl) ?_
  refine im_st (r_iconst (v := 0) dX1_follow_11 rfl kI_0) ?_
  refine im_st (r_istore (i := 7) (L1 := [some (.ref (b + 10)), some (.ref b1), some (.int a2), some (.int a3), some (.int a4), some (.int a4), some (.int a3), some (.int (0 : Int32)), none]) dX1_follow_12 rfl (by decide) rfl) ?_
  refine im_app (Gm := fun (σ1 : Sg) => Go M_X1_follow Q 0 0 14 [some (.ref (b + 10)), some (.ref b1), some (.int a2), some (.int a3), some (.int a4), some (.int a4), some (.int a3), some (.int (0 : Int32)), none] [] (mk σ1 τ)) (fun σ1 => ?_)
  refine im_st (r_fgt (L1 := [some (.ref (b + 10)), some (.ref b1), some (.int a2), none, none, some (.int a4), some (.int a3), some (.int (0 : Int32)), none]) [3, 4] rfl) ?_
  refine im_seq (Gm := Sum.elim (fun (e16 : (Int32 × Int32 × Int32 × Sg)) => Go M_X1_follow Q 0 0 133 [some (.ref (b + 10)), none, none, none, none, none, none, none, none] [] (mk e16.2.2.2 τ)) (fun (y : Sg) => Q (none) (mk y τ))) ?_ (fun r18 => ?_)
  · refine im_wh (G := fun (s2 : (Int32 × Int32 × Int32 × Sg)) => Go M_X1_follow Q 0 0 14 [some (.ref (b + 10)), some (.ref b1), some (.int a2), none, none, some (.int s2.1), some (.int s2.2.1), some (.int s2.2.2.1), none] [] (mk s2.2.2.2 τ)) (fun s2 => ?_) _ _
    unfold b_X1_follow_14
    refine im_st (r_iload (i := 7) dX1_follow_14 rfl rfl) ?_
    refine im_st (r_bipush (v := 10) dX1_follow_16 rfl kB_10) ?_
    refine im_br (r_icmp_ge (tgt := 133) dX1_follow_18 rfl (by decide)) (fun c3 => ?_) (fun c3 => ?_)
    · refine im_st (r_fgt (L1 := [some (.ref (b + 10)), none, none, none, none, none, none, none, none]) [1, 2, 5, 6, 7] rfl) ?_
      exact im_ret id
    · refine im_st (r_aload_n (i := 0) dX1_follow_21 rfl rfl rfl) ?_
      refine im_st (r_iload (i := 7) dX1_follow_22 rfl rfl) ?_
      refine im_st (s_putI (tag := 1) (j := 2) dX1_follow_24 rfl fl_X1_18 (co_sh hb) (co_lt hb) rfl fw_1_2) ?_
      refine im_st (r_aload_n (i := 0) dX1_follow_27 rfl rfl rfl) ?_
      refine im_st (s_getR (b := (b + 11)) (tag := 1) (j := 5) dX1_follow_28 rfl fl_X1_28 (co_sh hb) (co_lt hb) rfl (co_rf5 hb)) ?_
      refine im_st (r_iload (i := 7) dX1_follow_31 rfl rfl) ?_
      refine im_st (r_iload (i := 5) dX1_follow_33 rfl rfl) ?_
      refine im_app (Gm := fun (σ4 : Sg) => Go M_X1_follow Q 0 0 35 [some (.ref (b + 10)), some (.ref b1), some (.int a2), none, none, some (.int s2.1), some (.int s2.2.1), some (.int s2.2.2.1), none] [.int s2.1, .int s2.2.2.1, .ref (b + 11)] (mk σ4 τ)) (fun σ4 => ?_)
      refine im_grd (fun g5 => ?_)
      refine im_st (s_iastore dX1_follow_35 rfl (co_sh1 hb) (co_lt1 hb) (inR_in g5)) ?_
      refine im_st (r_aload_n (i := 1) dX1_follow_36 rfl rfl rfl) ?_
      refine im_st (r_bipush (v := 10) dX1_follow_37 rfl kB_10) ?_
      refine im_st (r_iload (i := 7) dX1_follow_39 rfl rfl) ?_
      refine im_st (r_imul dX1_follow_41 rfl) ?_
      refine im_st (r_iload (i := 5) dX1_follow_42 rfl rfl) ?_
      refine im_st (r_iadd dX1_follow_44 rfl) ?_
      refine im_app (Gm := fun (σ6 : Sg) => Go M_X1_follow Q 0 0 45 [some (.ref (b + 10)), some (.ref b1), some (.int a2), none, none, some (.int s2.1), some (.int s2.2.1), some (.int s2.2.2.1), none] [.int (((10 : Int32) * s2.2.2.1) + s2.1), .ref b1] (mk σ6 τ)) (fun σ6 => ?_)
      refine im_bind (fun y7 hy7 => ?_)
      refine im_st (r_callV (as := [.int (((10 : Int32) * s2.2.2.1) + s2.1)]) (r := some (.int y7)) (kc1 := 0) (ks1 := 0) (st := []) (st1 := [.int y7]) (e_X7_standingAt b1 (((10 : Int32) * s2.2.2.1) + s2.1) σ6 τ hb1 y7 hy7) mv_X7_standingAt lk_X1_44 ⟨by decide, by decide⟩ (sl_sh hb1) (sl_lt hb1) (by decide) ⟨_, rfl, rfl⟩ ⟨by decide, by decide⟩ (Nat.le_of_ble_eq_true rfl) dX1_follow_45 rfl rfl rfl rfl rfl) ?_
      refine im_st (r_istore (i := 8) (L1 := [some (.ref (b + 10)), some (.ref b1), some (.int a2), none, none, some (.int s2.1), some (.int s2.2.1), some (.int s2.2.2.1), some (.int y7)]) dX1_follow_48 rfl (by decide) rfl) ?_
      refine im_st (r_iload (i := 8) dX1_follow_50 rfl rfl) ?_
      refine im_st (r_bipush (v := -2) dX1_follow_52 rfl kB_m2) ?_
      refine im_br (r_icmp_ne (tgt := 63) dX1_follow_54 rfl (by decide)) (fun c8 => ?_) (fun c8 => ?_)
      · refine im_st (r_aload_n (i := 0) dX1_follow_57 rfl rfl rfl) ?_
        refine im_st (r_iconst (v := 1) dX1_follow_58 rfl kI_1) ?_
        refine im_st (s_putZ (tag := 1) (j := 4) dX1_follow_59 rfl fl_X1_24 (co_sh hb) (co_lt hb) rfl fw_1_4 rfl) ?_
        exact im_ret (fun q => g_vret rfl rfl rfl dX1_follow_62 q)
      · refine im_st (r_aload_n (i := 1) dX1_follow_63 rfl rfl rfl) ?_
        refine im_st (r_iload (i := 8) dX1_follow_64 rfl rfl) ?_
        refine im_st (r_callV (as := [.int y7]) (r := some (.int (f_X7_isPeg b1 y7 σ6))) (kc1 := 0) (ks1 := 0) (st := []) (st1 := [.int (f_X7_isPeg b1 y7 σ6)]) (e_X7_isPeg b1 y7 σ6 τ hb1) mv_X7_isPeg lk_X1_50 ⟨by decide, by decide⟩ (sl_sh hb1) (sl_lt hb1) (by decide) ⟨_, rfl, rfl⟩ ⟨by decide, by decide⟩ (Nat.le_of_ble_eq_true rfl) dX1_follow_66 rfl rfl rfl rfl rfl) ?_
        refine im_br (r_if_eq (tgt := 127) dX1_follow_69 rfl (by decide)) (fun c9 => ?_) (fun c9 => ?_)
        · refine im_st (r_iinc (i := 7) (x := s2.2.2.1) (v := (s2.2.2.1 + 1)) (L1 := [some (.ref (b + 10)), some (.ref b1), some (.int a2), none, none, some (.int s2.1), some (.int s2.2.1), some (.int (s2.2.2.1 + 1)), some (.int y7)]) dX1_follow_127 rfl rfl rfl (by decide) rfl) ?_
          refine im_st (r_goto (pc1 := 14) dX1_follow_130 (by decide)) ?_
          refine im_st (r_fgt (L1 := [some (.ref (b + 10)), some (.ref b1), some (.int a2), none, none, some (.int s2.1), some (.int s2.2.1), some (.int (s2.2.2.1 + 1)), none]) [8] rfl) ?_
          exact im_ret id
        · refine im_st (r_aload_n (i := 0) dX1_follow_72 rfl rfl rfl) ?_
          refine im_st (r_dup dX1_follow_73 rfl rfl) ?_
          refine im_st (s_getI (tag := 1) (j := 3) dX1_follow_74 rfl fl_X1_21 (co_sh hb) (co_lt hb) rfl) ?_
          refine im_st (r_iconst (v := 1) dX1_follow_77 rfl kI_1) ?_
          refine im_st (r_iadd dX1_follow_78 rfl) ?_
          refine im_st (s_putI (tag := 1) (j := 3) dX1_follow_79 rfl fl_X1_21 (co_sh hb) (co_lt hb) rfl fw_1_3) ?_
          refine im_st (r_iload (i := 6) dX1_follow_82 rfl rfl) ?_
          refine im_st (r_iload_n (i := 2) dX1_follow_84 rfl rfl rfl) ?_
          refine im_st (r_callS (as := [.int a2]) (r := some (.int (f_X1_loss a2))) (kc1 := 0) (ks1 := 0) (st := [.int s2.2.1]) (st1 := [.int (f_X1_loss a2), .int s2.2.1]) (e_X1_loss a2 (up2 σ6 (b + 10) 3 ((σ6 (b + 10) 3) + (1 : Int32))) τ) ms_X1_loss lk_X1_54 ⟨by decide, by decide⟩ ⟨by decide, by decide⟩ (Nat.le_of_ble_eq_true rfl) dX1_follow_85 rfl rfl rfl rfl rfl) ?_
          refine im_st (r_isub dX1_follow_88 rfl) ?_
          refine im_app (Gm := fun (v10 : Int32) => Go M_X1_follow Q 0 0 89 [some (.ref (b + 10)), some (.ref b1), some (.int a2), none, none, some (.int s2.1), some (.int s2.2.1), some (.int s2.2.2.1), some (.int y7)] [.int v10] (mk (up2 σ6 (b + 10) 3 ((σ6 (b + 10) 3) + (1 : Int32))) τ)) (fun v10 => ?_)
          refine im_st (r_istore (i := 6) (L1 := [some (.ref (b + 10)), some (.ref b1), some (.int a2), none, none, some (.int s2.1), some (.int v10), some (.int s2.2.2.1), some (.int y7)]) dX1_follow_89 rfl (by decide) rfl) ?_
          refine im_st (r_iload (i := 6) dX1_follow_91 rfl rfl) ?_
          refine im_br (r_if_gt (tgt := 114) dX1_follow_93 rfl (by decide)) (fun c11 => ?_) (fun c11 => ?_)
          · refine im_st (r_iload (i := 5) dX1_follow_114 rfl rfl) ?_
            refine im_st (r_iload_n (i := 2) dX1_follow_116 rfl rfl rfl) ?_
            refine im_st (r_iload (i := 7) dX1_follow_117 rfl rfl) ?_
            refine im_st (r_callS (as := [.int a2, .int s2.2.2.1]) (r := some (.int (f_X1_turn a2 s2.2.2.1))) (kc1 := 0) (ks1 := 0) (st := [.int s2.1]) (st1 := [.int (f_X1_turn a2 s2.2.2.1), .int s2.1]) (e_X1_turn a2 s2.2.2.1 (up2 σ6 (b + 10) 3 ((σ6 (b + 10) 3) + (1 : Int32))) τ) ms_X1_turn lk_X1_60 ⟨by decide, by decide⟩ ⟨by decide, by decide⟩ (Nat.le_of_ble_eq_true rfl) dX1_follow_119 rfl rfl rfl rfl rfl) ?_
            refine im_st (r_callS (as := [.int s2.1, .int (f_X1_turn a2 s2.2.2.1)]) (r := some (.int (f_X1_columnBeside s2.1 (f_X1_turn a2 s2.2.2.1)))) (kc1 := 0) (ks1 := 0) (st := []) (st1 := [.int (f_X1_columnBeside s2.1 (f_X1_turn a2 s2.2.2.1))]) (e_X1_columnBeside s2.1 (f_X1_turn a2 s2.2.2.1) (up2 σ6 (b + 10) 3 ((σ6 (b + 10) 3) + (1 : Int32))) τ) ms_X1_columnBeside lk_X1_63 ⟨by decide, by decide⟩ ⟨by decide, by decide⟩ (Nat.le_of_ble_eq_true rfl) dX1_follow_122 rfl rfl rfl rfl rfl) ?_
            refine im_app (Gm := fun (v12 : Int32) => Go M_X1_follow Q 0 0 125 [some (.ref (b + 10)), some (.ref b1), some (.int a2), none, none, some (.int s2.1), some (.int v10), some (.int s2.2.2.1), some (.int y7)] [.int v12] (mk (up2 σ6 (b + 10) 3 ((σ6 (b + 10) 3) + (1 : Int32))) τ)) (fun v12 => ?_)
            refine im_st (r_istore (i := 5) (L1 := [some (.ref (b + 10)), some (.ref b1), some (.int a2), none, none, some (.int v12), some (.int v10), some (.int s2.2.2.1), some (.int y7)]) dX1_follow_125 rfl (by decide) rfl) ?_
            refine im_st (r_iinc (i := 7) (x := s2.2.2.1) (v := (s2.2.2.1 + 1)) (L1 := [some (.ref (b + 10)), some (.ref b1), some (.int a2), none, none, some (.int v12), some (.int v10), some (.int (s2.2.2.1 + 1)), some (.int y7)]) dX1_follow_127 rfl rfl rfl (by decide) rfl) ?_
            refine im_st (r_goto (pc1 := 14) dX1_follow_130 (by decide)) ?_
            refine im_st (r_fgt (L1 := [some (.ref (b + 10)), some (.ref b1), some (.int a2), none, none, some (.int v12), some (.int v10), some (.int (s2.2.2.1 + 1)), none]) [8] rfl) ?_
            exact im_ret id
          · refine im_st (r_aload_n (i := 0) dX1_follow_96 rfl rfl rfl) ?_
            refine im_st (r_iload (i := 8) dX1_follow_97 rfl rfl) ?_
            refine im_app (Gm := fun (σ13 : Sg) => Go M_X1_follow Q 0 0 99 [some (.ref (b + 10)), some (.ref b1), some (.int a2), none, none, some (.int s2.1), some (.int v10), some (.int s2.2.2.1), some (.int y7)] [.int y7, .ref (b + 10)] (mk σ13 τ)) (fun σ13 => ?_)
            refine im_st (s_putI (tag := 1) (j := 0) dX1_follow_99 rfl fl_X1_9 (co_sh hb) (co_lt hb) rfl fw_1_0) ?_
            refine im_st (r_aload_n (i := 0) dX1_follow_102 rfl rfl rfl) ?_
            refine im_st (r_aload_n (i := 1) dX1_follow_103 rfl rfl rfl) ?_
            refine im_st (s_getR (b := (b1 + 2)) (tag := 7) (j := 1) dX1_follow_104 rfl fl_X1_57 (sl_sh hb1) (sl_lt hb1) rfl (sl_rf1 hb1)) ?_
            refine im_st (r_iload (i := 8) dX1_follow_107 rfl rfl) ?_
            refine im_app (Gm := fun (σ14 : Sg) => Go M_X1_follow Q 0 0 109 [some (.ref (b + 10)), some (.ref b1), some (.int a2), none, none, some (.int s2.1), some (.int v10), some (.int s2.2.2.1), some (.int y7)] [.int y7, .ref (b1 + 2), .ref (b + 10)] (mk σ14 τ)) (fun σ14 => ?_)
            refine im_grd (fun g15 => ?_)
            refine im_st (s_iaload dX1_follow_109 rfl (sl_sh2 hb1) (sl_lt2 hb1) (inR_in g15)) ?_
            refine im_st (s_putI (tag := 1) (j := 1) dX1_follow_110 rfl fl_X1_15 (co_sh hb) (co_lt hb) rfl fw_1_1) ?_
            exact im_ret (fun q => g_vret rfl rfl rfl dX1_follow_113 q)
  refine im_sum (fun e16 => ?_) (fun y17 => im_ret id) r18
  refine im_st (r_aload_n (i := 0) dX1_follow_133 rfl rfl rfl) ?_
  refine im_st (r_bipush (v := 10) dX1_follow_134 rfl kB_10) ?_
  refine im_st (s_putI (tag := 1) (j := 2) dX1_follow_136 rfl fl_X1_18 (co_sh hb) (co_lt hb) rfl fw_1_2) ?_
  exact im_ret (fun q => g_vret rfl rfl rfl dX1_follow_139 q)
theorem e_X1_follow (b : Nat) (b1 : Nat) (a2 : Int32) (a3 : Int32) (a4 : Int32) (σ : Sg) (τ : Sl) (hb : isCt b) (hb1 : isSl b1) (y : Sg) (hy : f_X1_follow b b1 a2 a3 a4 σ = some y) : EvD M_X1_follow [.ref (b + 10), .ref b1, .int a2, .int a3, .int a4] (mk σ τ) (none) (mk y τ) := EvM.of (by decide +kernel) (Nat.le_of_ble_eq_true rfl) (i_X1_follow b b1 a2 a3 a4 σ τ hb hb1 _ y hy ⟨rfl, rfl⟩)
def M_X2_letGoInSuit : Ms := (yX2_letGoInSuit, cX2_letGoInSuit, 3, some (.object "HedgehogLots$Course"), 3, 63, 0, 0)
theorem mv_X2_letGoInSuit : MV M_X2_letGoInSuit 1 := ⟨⟨q533, q4, by decide, by decide, by decide +kernel⟩, q531, q532⟩
def f_X2_letGoInSuit (b : Nat) (a1 : Int32) (σ : Sg) : Option Sg :=
  app (f_X1_startAfresh b σ) fun (σ1 : Sg) =>
  (if (f_X7_isSuit b a1 σ1) = 0 then
    some σ1
  else
    if inR a1 6 then
    if (f_X7_isHedgehog b (σ1 (b + 6) a1.toNatClampNeg) σ1) = 0 then
      some σ1
    else
      if inR a1 6 then
      app (σ1 (b + 6) a1.toNatClampNeg) fun (v7 : Int32) =>
      if inR v7 4 then
      if inR v7 4 then
      if inR a1 6 then
      (f_X1_follow b b (σ1 (b + 4) v7.toNatClampNeg) (σ1 (b + 5) v7.toNatClampNeg) (σ1 (b + 7) a1.toNatClampNeg) σ1).bind fun (y11 : Sg) =>
      some y11
      else none
      else none
      else none
      else none
    else none).bind fun (j2 : Sg) =>
  some j2
set_option maxHeartbeats 4000000 in
set_option maxRecDepth 20000 in
theorem i_X2_letGoInSuit (b : Nat) (a1 : Int32) (σ : Sg) (τ : Sl) (hb : isCt b) (Q : Option Value → Hp → Prop) : Imp (f_X2_letGoInSuit b a1 σ) (fun (y : Sg) => Q (some (.ref (b + 10))) (mk y τ)) (Go M_X2_letGoInSuit Q 0 0 0 [some (.ref (b + 9)), some (.int a1), none] [] (mk σ τ)) := by
  unfold f_X2_letGoInSuit
  refine im_st (r_aload_n (i := 0) dX2_letGoInSuit_0 rfl rfl rfl) ?_
  refine im_st (s_getR (b := (b + 10)) (tag := 2) (j := 1) dX2_letGoInSuit_1 rfl fl_X2_12 (ct_sh hb) (ct_lt hb) rfl (ct_rf1 hb)) ?_
  refine im_st (r_callV (as := []) (r := none) (kc1 := 0) (ks1 := 0) (st := []) (st1 := []) (e_X1_startAfresh b σ τ hb) mv_X1_startAfresh lk_X2_22 ⟨by decide, by decide⟩ (co_sh hb) (co_lt hb) (by decide) ⟨_, rfl, rfl⟩ ⟨by decide, by decide⟩ (Nat.le_of_ble_eq_true rfl) dX2_letGoInSuit_4 rfl rfl rfl rfl rfl) ?_
  refine im_st (r_aload_n (i := 0) dX2_letGoInSuit_7 rfl rfl rfl) ?_
  refine im_st (s_getR (b := b) (tag := 2) (j := 0) dX2_letGoInSuit_8 rfl fl_X2_18 (ct_sh hb) (ct_lt hb) rfl (ct_rf0 hb)) ?_
  refine im_st (r_iload_n (i := 1) dX2_letGoInSuit_11 rfl rfl rfl) ?_
  refine im_app (Gm := fun (σ1 : Sg) => Go M_X2_letGoInSuit Q 0 0 12 [some (.ref (b + 9)), some (.int a1), none] [.int a1, .ref b] (mk σ1 τ)) (fun σ1 => ?_)
  refine im_st (r_callV (as := [.int a1]) (r := some (.int (f_X7_isSuit b a1 σ1))) (kc1 := 0) (ks1 := 0) (st := []) (st1 := [.int (f_X7_isSuit b a1 σ1)]) (e_X7_isSuit b a1 σ1 τ (ct_sl hb)) mv_X7_isSuit lk_X2_42 ⟨by decide, by decide⟩ (sl_sh (ct_sl hb)) (sl_lt (ct_sl hb)) (by decide) ⟨_, rfl, rfl⟩ ⟨by decide, by decide⟩ (Nat.le_of_ble_eq_true rfl) dX2_letGoInSuit_12 rfl rfl rfl rfl rfl) ?_
  refine im_seq (Gm := fun (j2 : Sg) => Go M_X2_letGoInSuit Q 0 0 85 [some (.ref (b + 9)), none, none] [] (mk j2 τ)) ?_ (fun j2 => ?_)
  · refine im_br (r_if_eq (tgt := 85) dX2_letGoInSuit_15 rfl (by decide)) (fun c3 => ?_) (fun c3 => ?_)
    · refine im_st (r_fgt (L1 := [some (.ref (b + 9)), none, none]) [1] rfl) ?_
      exact im_ret id
    · refine im_st (r_aload_n (i := 0) dX2_letGoInSuit_18 rfl rfl rfl) ?_
      refine im_st (s_getR (b := b) (tag := 2) (j := 0) dX2_letGoInSuit_19 rfl fl_X2_18 (ct_sh hb) (ct_lt hb) rfl (ct_rf0 hb)) ?_
      refine im_st (r_aload_n (i := 0) dX2_letGoInSuit_22 rfl rfl rfl) ?_
      refine im_st (s_getR (b := b) (tag := 2) (j := 0) dX2_letGoInSuit_23 rfl fl_X2_18 (ct_sh hb) (ct_lt hb) rfl (ct_rf0 hb)) ?_
      refine im_st (s_getR (b := (b + 6)) (tag := 7) (j := 8) dX2_letGoInSuit_26 rfl fl_X2_45 (sl_sh (ct_sl hb)) (sl_lt (ct_sl hb)) rfl (sl_rf8 (ct_sl hb))) ?_
      refine im_st (r_iload_n (i := 1) dX2_letGoInSuit_29 rfl rfl rfl) ?_
      refine im_grd (fun g4 => ?_)
      refine im_st (s_iaload dX2_letGoInSuit_30 rfl (sl_sh6 (ct_sl hb)) (sl_lt6 (ct_sl hb)) (inR_in g4)) ?_
      refine im_st (r_callV (as := [.int (σ1 (b + 6) a1.toNatClampNeg)]) (r := some (.int (f_X7_isHedgehog b (σ1 (b + 6) a1.toNatClampNeg) σ1))) (kc1 := 0) (ks1 := 0) (st := []) (st1 := [.int (f_X7_isHedgehog b (σ1 (b + 6) a1.toNatClampNeg) σ1)]) (e_X7_isHedgehog b (σ1 (b + 6) a1.toNatClampNeg) σ1 τ (ct_sl hb)) mv_X7_isHedgehog lk_X2_25 ⟨by decide, by decide⟩ (sl_sh (ct_sl hb)) (sl_lt (ct_sl hb)) (by decide) ⟨_, rfl, rfl⟩ ⟨by decide, by decide⟩ (Nat.le_of_ble_eq_true rfl) dX2_letGoInSuit_31 rfl rfl rfl rfl rfl) ?_
      refine im_br (r_if_eq (tgt := 85) dX2_letGoInSuit_34 rfl (by decide)) (fun c5 => ?_) (fun c5 => ?_)
      · refine im_st (r_fgt (L1 := [some (.ref (b + 9)), none, none]) [1] rfl) ?_
        exact im_ret id
      · refine im_st (r_aload_n (i := 0) dX2_letGoInSuit_37 rfl rfl rfl) ?_
        refine im_st (s_getR (b := b) (tag := 2) (j := 0) dX2_letGoInSuit_38 rfl fl_X2_18 (ct_sh hb) (ct_lt hb) rfl (ct_rf0 hb)) ?_
        refine im_st (s_getR (b := (b + 6)) (tag := 7) (j := 8) dX2_letGoInSuit_41 rfl fl_X2_45 (sl_sh (ct_sl hb)) (sl_lt (ct_sl hb)) rfl (sl_rf8 (ct_sl hb))) ?_
        refine im_st (r_iload_n (i := 1) dX2_letGoInSuit_44 rfl rfl rfl) ?_
        refine im_grd (fun g6 => ?_)
        refine im_st (s_iaload dX2_letGoInSuit_45 rfl (sl_sh6 (ct_sl hb)) (sl_lt6 (ct_sl hb)) (inR_in g6)) ?_
        refine im_app (Gm := fun (v7 : Int32) => Go M_X2_letGoInSuit Q 0 0 46 [some (.ref (b + 9)), some (.int a1), none] [.int v7] (mk σ1 τ)) (fun v7 => ?_)
        refine im_st (r_istore_n (i := 2) (L1 := [some (.ref (b + 9)), some (.int a1), some (.int v7)]) dX2_letGoInSuit_46 rfl rfl (by decide) rfl) ?_
        refine im_st (r_aload_n (i := 0) dX2_letGoInSuit_47 rfl rfl rfl) ?_
        refine im_st (s_getR (b := (b + 10)) (tag := 2) (j := 1) dX2_letGoInSuit_48 rfl fl_X2_12 (ct_sh hb) (ct_lt hb) rfl (ct_rf1 hb)) ?_
        refine im_st (r_aload_n (i := 0) dX2_letGoInSuit_51 rfl rfl rfl) ?_
        refine im_st (s_getR (b := b) (tag := 2) (j := 0) dX2_letGoInSuit_52 rfl fl_X2_18 (ct_sh hb) (ct_lt hb) rfl (ct_rf0 hb)) ?_
        refine im_st (r_aload_n (i := 0) dX2_letGoInSuit_55 rfl rfl rfl) ?_
        refine im_st (s_getR (b := b) (tag := 2) (j := 0) dX2_letGoInSuit_56 rfl fl_X2_18 (ct_sh hb) (ct_lt hb) rfl (ct_rf0 hb)) ?_
        refine im_st (s_getR (b := (b + 4)) (tag := 7) (j := 5) dX2_letGoInSuit_59 rfl fl_X2_31 (sl_sh (ct_sl hb)) (sl_lt (ct_sl hb)) rfl (sl_rf5 (ct_sl hb))) ?_
        refine im_st (r_iload_n (i := 2) dX2_letGoInSuit_62 rfl rfl rfl) ?_
        refine im_grd (fun g8 => ?_)
        refine im_st (s_iaload dX2_letGoInSuit_63 rfl (sl_sh4 (ct_sl hb)) (sl_lt4 (ct_sl hb)) (inR_in g8)) ?_
        refine im_st (r_aload_n (i := 0) dX2_letGoInSuit_64 rfl rfl rfl) ?_
        refine im_st (s_getR (b := b) (tag := 2) (j := 0) dX2_letGoInSuit_65 rfl fl_X2_18 (ct_sh hb) (ct_lt hb) rfl (ct_rf0 hb)) ?_
        refine im_st (s_getR (b := (b + 5)) (tag := 7) (j := 6) dX2_letGoInSuit_68 rfl fl_X2_35 (sl_sh (ct_sl hb)) (sl_lt (ct_sl hb)) rfl (sl_rf6 (ct_sl hb))) ?_
        refine im_st (r_iload_n (i := 2) dX2_letGoInSuit_71 rfl rfl rfl) ?_
        refine im_grd (fun g9 => ?_)
        refine im_st (s_iaload dX2_letGoInSuit_72 rfl (sl_sh5 (ct_sl hb)) (sl_lt5 (ct_sl hb)) (inR_in g9)) ?_
        refine im_st (r_aload_n (i := 0) dX2_letGoInSuit_73 rfl rfl rfl) ?_
        refine im_st (s_getR (b := b) (tag := 2) (j := 0) dX2_letGoInSuit_74 rfl fl_X2_18 (ct_sh hb) (ct_lt hb) rfl (ct_rf0 hb)) ?_
        refine im_st (s_getR (b := (b + 7)) (tag := 7) (j := 9) dX2_letGoInSuit_77 rfl fl_X2_48 (sl_sh (ct_sl hb)) (sl_lt (ct_sl hb)) rfl (sl_rf9 (ct_sl hb))) ?_
        refine im_st (r_iload_n (i := 1) dX2_letGoInSuit_80 rfl rfl rfl) ?_
        refine im_grd (fun g10 => ?_)
        refine im_st (s_iaload dX2_letGoInSuit_81 rfl (sl_sh7 (ct_sl hb)) (sl_lt7 (ct_sl hb)) (inR_in g10)) ?_
        refine im_bind (fun y11 hy11 => ?_)
        refine im_st (r_callV (as := [.ref b, .int (σ1 (b + 4) v7.toNatClampNeg), .int (σ1 (b + 5) v7.toNatClampNeg), .int (σ1 (b + 7) a1.toNatClampNeg)]) (r := none) (kc1 := 0) (ks1 := 0) (st := []) (st1 := []) (e_X1_follow b b (σ1 (b + 4) v7.toNatClampNeg) (σ1 (b + 5) v7.toNatClampNeg) (σ1 (b + 7) a1.toNatClampNeg) σ1 τ hb (ct_sl hb) y11 hy11) mv_X1_follow lk_X2_38 ⟨by decide, by decide⟩ (co_sh hb) (co_lt hb) (by decide) ⟨_, rfl, rfl⟩ ⟨by decide, by decide⟩ (Nat.le_of_ble_eq_true rfl) dX2_letGoInSuit_82 rfl rfl rfl rfl rfl) ?_
        refine im_st (r_fgt (L1 := [some (.ref (b + 9)), none, none]) [1, 2] rfl) ?_
        exact im_ret id
  refine im_st (r_aload_n (i := 0) dX2_letGoInSuit_85 rfl rfl rfl) ?_
  refine im_st (s_getR (b := (b + 10)) (tag := 2) (j := 1) dX2_letGoInSuit_86 rfl fl_X2_12 (ct_sh hb) (ct_lt hb) rfl (ct_rf1 hb)) ?_
  exact im_ret (fun q => g_aret (C := "HedgehogLots$Course") rfl rfl rfl dX2_letGoInSuit_89 q)
theorem e_X2_letGoInSuit (b : Nat) (a1 : Int32) (σ : Sg) (τ : Sl) (hb : isCt b) (y : Sg) (hy : f_X2_letGoInSuit b a1 σ = some y) : EvD M_X2_letGoInSuit [.ref (b + 9), .int a1] (mk σ τ) (some (.ref (b + 10))) (mk y τ) := EvM.of (by decide +kernel) (Nat.le_of_ble_eq_true rfl) (i_X2_letGoInSuit b a1 σ τ hb _ y hy ⟨rfl, rfl⟩)
def M_X2_wonBy : Ms := (yX2_wonBy, cX2_wonBy, 4, some .int, 4, 85, 0, 0)
theorem mv_X2_wonBy : MV M_X2_wonBy 1 := ⟨⟨q682, q4, by decide, by decide, by decide +kernel⟩, q680, q681⟩
def b_X2_wonBy_4 (b : Nat) (a1 : Int32) : (Int32 × Int32 × Sg) → Option ((Int32 × Int32 × Sg) ⊕ (Int32 × Int32 × Sg)) := fun (s1 : (Int32 × Int32 × Sg)) =>
  if (s1.2.2 b 10) ≤ s1.2.1 then
    some (.inr (s1.1, s1.2.1, s1.2.2))
  else
    (f_X2_letGoInSuit b s1.2.1 s1.2.2).bind fun (y3 : Sg) =>
    app (if (y3 (b + 10) 1) = a1 then
      app (s1.1 ||| ((1 : Int32) <<< (s1.2.1 &&& 31))) fun (v6 : Int32) =>
      v6
    else
      s1.1) fun (j4 : Int32) =>
    some (.inl (j4, (s1.2.1 + 1), y3))
def f_X2_wonBy (b : Nat) (a1 : Int32) (σ : Sg) : Option (Int32 × Sg) :=
  (wh (b_X2_wonBy_4 b a1) 4096 ((0 : Int32), (0 : Int32), σ)).bind fun (e7 : (Int32 × Int32 × Sg)) =>
  some (e7.1, e7.2.2)
set_option maxHeartbeats 4000000 in
set_option maxRecDepth 20000 in
theorem i_X2_wonBy (b : Nat) (a1 : Int32) (σ : Sg) (τ : Sl) (hb : isCt b) (Q : Option Value → Hp → Prop) : Imp (f_X2_wonBy b a1 σ) (fun (y : (Int32 × Sg)) => Q (some (.int y.1)) (mk y.2 τ)) (Go M_X2_wonBy Q 0 0 0 [some (.ref (b + 9)), some (.int a1), none, none] [] (mk σ τ)) := by
  unfold f_X2_wonBy
  refine im_st (r_iconst (v := 0) dX2_wonBy_0 rfl kI_0) ?_
  refine im_st (r_istore_n (i := 2) (L1 := [some (.ref (b + 9)), some (.int a1), some (.int (0 : Int32)), none]) dX2_wonBy_1 rfl rfl (by decide) rfl) ?_
  refine im_st (r_iconst (v := 0) dX2_wonBy_2 rfl kI_0) ?_
  refine im_st (r_istore_n (i := 3) (L1 := [some (.ref (b + 9)), some (.int a1), some (.int (0 : Int32)), some (.int (0 : Int32))]) dX2_wonBy_3 rfl rfl (by decide) rfl) ?_
  refine im_seq (Gm := fun (e7 : (Int32 × Int32 × Sg)) => Go M_X2_wonBy Q 0 0 39 [none, none, some (.int e7.1), none] [] (mk e7.2.2 τ)) ?_ (fun e7 => ?_)
  · refine im_wh (G := fun (s1 : (Int32 × Int32 × Sg)) => Go M_X2_wonBy Q 0 0 4 [some (.ref (b + 9)), some (.int a1), some (.int s1.1), some (.int s1.2.1)] [] (mk s1.2.2 τ)) (fun s1 => ?_) _ _
    unfold b_X2_wonBy_4
    refine im_st (r_iload_n (i := 3) dX2_wonBy_4 rfl rfl rfl) ?_
    refine im_st (r_aload_n (i := 0) dX2_wonBy_5 rfl rfl rfl) ?_
    refine im_st (s_getR (b := b) (tag := 2) (j := 0) dX2_wonBy_6 rfl fl_X2_18 (ct_sh hb) (ct_lt hb) rfl (ct_rf0 hb)) ?_
    refine im_st (s_getI (tag := 7) (j := 10) dX2_wonBy_9 rfl fl_X2_51 (sl_sh (ct_sl hb)) (sl_lt (ct_sl hb)) rfl) ?_
    refine im_br (r_icmp_ge (tgt := 39) dX2_wonBy_12 rfl (by decide)) (fun c2 => ?_) (fun c2 => ?_)
    · refine im_st (r_fgt (L1 := [none, none, some (.int s1.1), none]) [0, 1, 3] rfl) ?_
      exact im_ret id
    · refine im_st (r_aload_n (i := 0) dX2_wonBy_15 rfl rfl rfl) ?_
      refine im_st (r_iload_n (i := 3) dX2_wonBy_16 rfl rfl rfl) ?_
      refine im_bind (fun y3 hy3 => ?_)
      refine im_st (r_callV (as := [.int s1.2.1]) (r := some (.ref (b + 10))) (kc1 := 0) (ks1 := 0) (st := []) (st1 := [.ref (b + 10)]) (e_X2_letGoInSuit b s1.2.1 s1.2.2 τ hb y3 hy3) mv_X2_letGoInSuit lk_X2_55 ⟨by decide, by decide⟩ (ct_sh hb) (ct_lt hb) (by decide) ⟨_, rfl, rfl⟩ ⟨by decide, by decide⟩ (Nat.le_of_ble_eq_true rfl) dX2_wonBy_17 rfl rfl rfl rfl rfl) ?_
      refine im_st (s_getI (tag := 1) (j := 1) dX2_wonBy_20 rfl fl_X2_59 (co_sh hb) (co_lt hb) rfl) ?_
      refine im_st (r_iload_n (i := 1) dX2_wonBy_23 rfl rfl rfl) ?_
      refine im_seqT (Gm := fun (j4 : Int32) => Go M_X2_wonBy Q 0 0 33 [some (.ref (b + 9)), some (.int a1), some (.int j4), some (.int s1.2.1)] [] (mk y3 τ)) ?_ (fun j4 => ?_)
      · refine im_brS (r_icmp_ne (tgt := 33) dX2_wonBy_24 rfl (by decide)) (fun c5 => ?_) (fun c5 => ?_)
        · refine im_st (r_iload_n (i := 2) dX2_wonBy_27 rfl rfl rfl) ?_
          refine im_st (r_iconst (v := 1) dX2_wonBy_28 rfl kI_1) ?_
          refine im_st (r_iload_n (i := 3) dX2_wonBy_29 rfl rfl rfl) ?_
          refine im_st (r_ishl dX2_wonBy_30 rfl) ?_
          refine im_st (r_ior dX2_wonBy_31 rfl) ?_
          refine im_appS (Gm := fun (v6 : Int32) => Go M_X2_wonBy Q 0 0 32 [some (.ref (b + 9)), some (.int a1), some (.int s1.1), some (.int s1.2.1)] [.int v6] (mk y3 τ)) (fun v6 => ?_)
          refine im_st (r_istore_n (i := 2) (L1 := [some (.ref (b + 9)), some (.int a1), some (.int v6), some (.int s1.2.1)]) dX2_wonBy_32 rfl rfl (by decide) rfl) ?_
          exact im_ret id
        · exact im_ret id
      refine im_st (r_iinc (i := 3) (x := s1.2.1) (v := (s1.2.1 + 1)) (L1 := [some (.ref (b + 9)), some (.int a1), some (.int j4), some (.int (s1.2.1 + 1))]) dX2_wonBy_33 rfl rfl rfl (by decide) rfl) ?_
      refine im_st (r_goto (pc1 := 4) dX2_wonBy_36 (by decide)) ?_
      exact im_ret id
  refine im_st (r_iload_n (i := 2) dX2_wonBy_39 rfl rfl rfl) ?_
  exact im_ret (fun q => g_iret rfl rfl rfl dX2_wonBy_40 q)
theorem e_X2_wonBy (b : Nat) (a1 : Int32) (σ : Sg) (τ : Sl) (hb : isCt b) (y : (Int32 × Sg)) (hy : f_X2_wonBy b a1 σ = some y) : EvD M_X2_wonBy [.ref (b + 9), .int a1] (mk σ τ) (some (.int y.1)) (mk y.2 τ) := EvM.of (by decide +kernel) (Nat.le_of_ble_eq_true rfl) (i_X2_wonBy b a1 σ τ hb _ y hy ⟨rfl, rfl⟩)
def M_X2_wonByOthers : Ms := (yX2_wonByOthers, cX2_wonByOthers, 5, some .int, 4, 85, 0, 0)
theorem mv_X2_wonByOthers : MV M_X2_wonByOthers 1 := ⟨⟨q766, q4, by decide, by decide, by decide +kernel⟩, q764, q765⟩
def b_X2_wonByOthers_4 (b : Nat) (a1 : Int32) : (Int32 × Int32 × Sg) → Option ((Int32 × Int32 × Sg) ⊕ (Int32 × Int32 × Sg)) := fun (s1 : (Int32 × Int32 × Sg)) =>
  if (s1.2.2 b 10) ≤ s1.2.1 then
    some (.inr (s1.1, s1.2.1, s1.2.2))
  else
    (f_X2_letGoInSuit b s1.2.1 s1.2.2).bind fun (y3 : Sg) =>
    app (if (y3 (b + 10) 1) = (-4 : Int32) then
      s1.1
    else
      if (y3 (b + 10) 1) = a1 then
        s1.1
      else
        app (s1.1 ||| ((1 : Int32) <<< (s1.2.1 &&& 31))) fun (v7 : Int32) =>
        v7) fun (j4 : Int32) =>
    some (.inl (j4, (s1.2.1 + 1), y3))
def f_X2_wonByOthers (b : Nat) (a1 : Int32) (σ : Sg) : Option (Int32 × Sg) :=
  (wh (b_X2_wonByOthers_4 b a1) 4096 ((0 : Int32), (0 : Int32), σ)).bind fun (e8 : (Int32 × Int32 × Sg)) =>
  some (e8.1, e8.2.2)
set_option maxHeartbeats 4000000 in
set_option maxRecDepth 20000 in
theorem i_X2_wonByOthers (b : Nat) (a1 : Int32) (σ : Sg) (τ : Sl) (hb : isCt b) (Q : Option Value → Hp → Prop) : Imp (f_X2_wonByOthers b a1 σ) (fun (y : (Int32 × Sg)) => Q (some (.int y.1)) (mk y.2 τ)) (Go M_X2_wonByOthers Q 0 0 0 [some (.ref (b + 9)), some (.int a1), none, none, none] [] (mk σ τ)) := by
  unfold f_X2_wonByOthers
  refine im_st (r_iconst (v := 0) dX2_wonByOthers_0 rfl kI_0) ?_
  refine im_st (r_istore_n (i := 2) (L1 := [some (.ref (b + 9)), some (.int a1), some (.int (0 : Int32)), none, none]) dX2_wonByOthers_1 rfl rfl (by decide) rfl) ?_
  refine im_st (r_iconst (v := 0) dX2_wonByOthers_2 rfl kI_0) ?_
  refine im_st (r_istore_n (i := 3) (L1 := [some (.ref (b + 9)), some (.int a1), some (.int (0 : Int32)), some (.int (0 : Int32)), none]) dX2_wonByOthers_3 rfl rfl (by decide) rfl) ?_
  refine im_seq (Gm := fun (e8 : (Int32 × Int32 × Sg)) => Go M_X2_wonByOthers Q 0 0 50 [none, none, some (.int e8.1), none, none] [] (mk e8.2.2 τ)) ?_ (fun e8 => ?_)
  · refine im_wh (G := fun (s1 : (Int32 × Int32 × Sg)) => Go M_X2_wonByOthers Q 0 0 4 [some (.ref (b + 9)), some (.int a1), some (.int s1.1), some (.int s1.2.1), none] [] (mk s1.2.2 τ)) (fun s1 => ?_) _ _
    unfold b_X2_wonByOthers_4
    refine im_st (r_iload_n (i := 3) dX2_wonByOthers_4 rfl rfl rfl) ?_
    refine im_st (r_aload_n (i := 0) dX2_wonByOthers_5 rfl rfl rfl) ?_
    refine im_st (s_getR (b := b) (tag := 2) (j := 0) dX2_wonByOthers_6 rfl fl_X2_18 (ct_sh hb) (ct_lt hb) rfl (ct_rf0 hb)) ?_
    refine im_st (s_getI (tag := 7) (j := 10) dX2_wonByOthers_9 rfl fl_X2_51 (sl_sh (ct_sl hb)) (sl_lt (ct_sl hb)) rfl) ?_
    refine im_br (r_icmp_ge (tgt := 50) dX2_wonByOthers_12 rfl (by decide)) (fun c2 => ?_) (fun c2 => ?_)
    · refine im_st (r_fgt (L1 := [none, none, some (.int s1.1), none, none]) [0, 1, 3] rfl) ?_
      exact im_ret id
    · refine im_st (r_aload_n (i := 0) dX2_wonByOthers_15 rfl rfl rfl) ?_
      refine im_st (r_iload_n (i := 3) dX2_wonByOthers_16 rfl rfl rfl) ?_
      refine im_bind (fun y3 hy3 => ?_)
      refine im_st (r_callV (as := [.int s1.2.1]) (r := some (.ref (b + 10))) (kc1 := 0) (ks1 := 0) (st := []) (st1 := [.ref (b + 10)]) (e_X2_letGoInSuit b s1.2.1 s1.2.2 τ hb y3 hy3) mv_X2_letGoInSuit lk_X2_55 ⟨by decide, by decide⟩ (ct_sh hb) (ct_lt hb) (by decide) ⟨_, rfl, rfl⟩ ⟨by decide, by decide⟩ (Nat.le_of_ble_eq_true rfl) dX2_wonByOthers_17 rfl rfl rfl rfl rfl) ?_
      refine im_st (s_getI (tag := 1) (j := 1) dX2_wonByOthers_20 rfl fl_X2_59 (co_sh hb) (co_lt hb) rfl) ?_
      refine im_st (r_istore (i := 4) (L1 := [some (.ref (b + 9)), some (.int a1), some (.int s1.1), some (.int s1.2.1), some (.int (y3 (b + 10) 1))]) dX2_wonByOthers_23 rfl (by decide) rfl) ?_
      refine im_st (r_iload (i := 4) dX2_wonByOthers_25 rfl rfl) ?_
      refine im_st (r_bipush (v := -4) dX2_wonByOthers_27 rfl kB_m4) ?_
      refine im_seqT (Gm := fun (j4 : Int32) => Go M_X2_wonByOthers Q 0 0 44 [some (.ref (b + 9)), some (.int a1), some (.int j4), some (.int s1.2.1), none] [] (mk y3 τ)) ?_ (fun j4 => ?_)
      · refine im_brS (r_icmp_eq (tgt := 44) dX2_wonByOthers_29 rfl (by decide)) (fun c5 => ?_) (fun c5 => ?_)
        · refine im_st (r_fgt (L1 := [some (.ref (b + 9)), some (.int a1), some (.int s1.1), some (.int s1.2.1), none]) [4] rfl) ?_
          exact im_ret id
        · refine im_st (r_iload (i := 4) dX2_wonByOthers_32 rfl rfl) ?_
          refine im_st (r_iload_n (i := 1) dX2_wonByOthers_34 rfl rfl rfl) ?_
          refine im_brS (r_icmp_eq (tgt := 44) dX2_wonByOthers_35 rfl (by decide)) (fun c6 => ?_) (fun c6 => ?_)
          · refine im_st (r_fgt (L1 := [some (.ref (b + 9)), some (.int a1), some (.int s1.1), some (.int s1.2.1), none]) [4] rfl) ?_
            exact im_ret id
          · refine im_st (r_iload_n (i := 2) dX2_wonByOthers_38 rfl rfl rfl) ?_
            refine im_st (r_iconst (v := 1) dX2_wonByOthers_39 rfl kI_1) ?_
            refine im_st (r_iload_n (i := 3) dX2_wonByOthers_40 rfl rfl rfl) ?_
            refine im_st (r_ishl dX2_wonByOthers_41 rfl) ?_
            refine im_st (r_ior dX2_wonByOthers_42 rfl) ?_
            refine im_appS (Gm := fun (v7 : Int32) => Go M_X2_wonByOthers Q 0 0 43 [some (.ref (b + 9)), some (.int a1), some (.int s1.1), some (.int s1.2.1), some (.int (y3 (b + 10) 1))] [.int v7] (mk y3 τ)) (fun v7 => ?_)
            refine im_st (r_istore_n (i := 2) (L1 := [some (.ref (b + 9)), some (.int a1), some (.int v7), some (.int s1.2.1), some (.int (y3 (b + 10) 1))]) dX2_wonByOthers_43 rfl rfl (by decide) rfl) ?_
            refine im_st (r_fgt (L1 := [some (.ref (b + 9)), some (.int a1), some (.int v7), some (.int s1.2.1), none]) [4] rfl) ?_
            exact im_ret id
      refine im_st (r_iinc (i := 3) (x := s1.2.1) (v := (s1.2.1 + 1)) (L1 := [some (.ref (b + 9)), some (.int a1), some (.int j4), some (.int (s1.2.1 + 1)), none]) dX2_wonByOthers_44 rfl rfl rfl (by decide) rfl) ?_
      refine im_st (r_goto (pc1 := 4) dX2_wonByOthers_47 (by decide)) ?_
      exact im_ret id
  refine im_st (r_iload_n (i := 2) dX2_wonByOthers_50 rfl rfl rfl) ?_
  exact im_ret (fun q => g_iret rfl rfl rfl dX2_wonByOthers_51 q)
theorem e_X2_wonByOthers (b : Nat) (a1 : Int32) (σ : Sg) (τ : Sl) (hb : isCt b) (y : (Int32 × Sg)) (hy : f_X2_wonByOthers b a1 σ = some y) : EvD M_X2_wonByOthers [.ref (b + 9), .int a1] (mk σ τ) (some (.int y.1)) (mk y.2 τ) := EvM.of (by decide +kernel) (Nat.le_of_ble_eq_true rfl) (i_X2_wonByOthers b a1 σ τ hb _ y hy ⟨rfl, rfl⟩)
def M_X2_letGoAs : Ms := (yX2_letGoAs, cX2_letGoAs, 4, some (.object "HedgehogLots$Course"), 3, 63, 0, 0)
theorem mv_X2_letGoAs : MV M_X2_letGoAs 3 := ⟨⟨q712, q4, by decide, by decide, by decide +kernel⟩, q710, q711⟩
def f_X2_letGoAs (b : Nat) (a1 : Int32) (a2 : Int32) (a3 : Int32) (σ : Sg) : Option Sg :=
  (f_X1_follow b b a1 a2 a3 σ).bind fun (y1 : Sg) =>
  some y1
set_option maxHeartbeats 4000000 in
set_option maxRecDepth 20000 in
theorem i_X2_letGoAs (b : Nat) (a1 : Int32) (a2 : Int32) (a3 : Int32) (σ : Sg) (τ : Sl) (hb : isCt b) (Q : Option Value → Hp → Prop) : Imp (f_X2_letGoAs b a1 a2 a3 σ) (fun (y : Sg) => Q (some (.ref (b + 10))) (mk y τ)) (Go M_X2_letGoAs Q 0 0 0 [some (.ref (b + 9)), some (.int a1), some (.int a2), some (.int a3)] [] (mk σ τ)) := by
  unfold f_X2_letGoAs
  refine im_st (r_aload_n (i := 0) dX2_letGoAs_0 rfl rfl rfl) ?_
  refine im_st (s_getR (b := (b + 10)) (tag := 2) (j := 1) dX2_letGoAs_1 rfl fl_X2_12 (ct_sh hb) (ct_lt hb) rfl (ct_rf1 hb)) ?_
  refine im_st (r_aload_n (i := 0) dX2_letGoAs_4 rfl rfl rfl) ?_
  refine im_st (s_getR (b := b) (tag := 2) (j := 0) dX2_letGoAs_5 rfl fl_X2_18 (ct_sh hb) (ct_lt hb) rfl (ct_rf0 hb)) ?_
  refine im_st (r_iload_n (i := 1) dX2_letGoAs_8 rfl rfl rfl) ?_
  refine im_st (r_iload_n (i := 2) dX2_letGoAs_9 rfl rfl rfl) ?_
  refine im_st (r_iload_n (i := 3) dX2_letGoAs_10 rfl rfl rfl) ?_
  refine im_bind (fun y1 hy1 => ?_)
  refine im_st (r_callV (as := [.ref b, .int a1, .int a2, .int a3]) (r := none) (kc1 := 0) (ks1 := 0) (st := []) (st1 := []) (e_X1_follow b b a1 a2 a3 σ τ hb (ct_sl hb) y1 hy1) mv_X1_follow lk_X2_38 ⟨by decide, by decide⟩ (co_sh hb) (co_lt hb) (by decide) ⟨_, rfl, rfl⟩ ⟨by decide, by decide⟩ (Nat.le_of_ble_eq_true rfl) dX2_letGoAs_11 rfl rfl rfl rfl rfl) ?_
  refine im_st (r_aload_n (i := 0) dX2_letGoAs_14 rfl rfl rfl) ?_
  refine im_st (s_getR (b := (b + 10)) (tag := 2) (j := 1) dX2_letGoAs_15 rfl fl_X2_12 (ct_sh hb) (ct_lt hb) rfl (ct_rf1 hb)) ?_
  exact im_ret (fun q => g_aret (C := "HedgehogLots$Course") rfl rfl rfl dX2_letGoAs_18 q)
theorem e_X2_letGoAs (b : Nat) (a1 : Int32) (a2 : Int32) (a3 : Int32) (σ : Sg) (τ : Sl) (hb : isCt b) (y : Sg) (hy : f_X2_letGoAs b a1 a2 a3 σ = some y) : EvD M_X2_letGoAs [.ref (b + 9), .int a1, .int a2, .int a3] (mk σ τ) (some (.ref (b + 10))) (mk y τ) := EvM.of (by decide +kernel) (Nat.le_of_ble_eq_true rfl) (i_X2_letGoAs b a1 a2 a3 σ τ hb _ y hy ⟨rfl, rfl⟩)
def M_X2_letGo : Ms := (yX2_letGo, cX2_letGo, 3, some (.object "HedgehogLots$Course"), 3, 63, 0, 0)
theorem mv_X2_letGo : MV M_X2_letGo 2 := ⟨⟨q603, q4, by decide, by decide, by decide +kernel⟩, q601, q602⟩
def f_X2_letGo (b : Nat) (a1 : Int32) (a2 : Int32) (σ : Sg) : Option Sg :=
  app (f_X1_startAfresh b σ) fun (σ1 : Sg) =>
  (if (f_X7_isHedgehog b a1 σ1) = 0 then
    some σ1
  else
    if inR a1 4 then
    if inR a1 4 then
    (f_X1_follow b b (σ1 (b + 4) a1.toNatClampNeg) (σ1 (b + 5) a1.toNatClampNeg) a2 σ1).bind fun (y6 : Sg) =>
    some y6
    else none
    else none).bind fun (j2 : Sg) =>
  some j2
set_option maxHeartbeats 4000000 in
set_option maxRecDepth 20000 in
theorem i_X2_letGo (b : Nat) (a1 : Int32) (a2 : Int32) (σ : Sg) (τ : Sl) (hb : isCt b) (Q : Option Value → Hp → Prop) : Imp (f_X2_letGo b a1 a2 σ) (fun (y : Sg) => Q (some (.ref (b + 10))) (mk y τ)) (Go M_X2_letGo Q 0 0 0 [some (.ref (b + 9)), some (.int a1), some (.int a2)] [] (mk σ τ)) := by
  unfold f_X2_letGo
  refine im_st (r_aload_n (i := 0) dX2_letGo_0 rfl rfl rfl) ?_
  refine im_st (s_getR (b := (b + 10)) (tag := 2) (j := 1) dX2_letGo_1 rfl fl_X2_12 (ct_sh hb) (ct_lt hb) rfl (ct_rf1 hb)) ?_
  refine im_st (r_callV (as := []) (r := none) (kc1 := 0) (ks1 := 0) (st := []) (st1 := []) (e_X1_startAfresh b σ τ hb) mv_X1_startAfresh lk_X2_22 ⟨by decide, by decide⟩ (co_sh hb) (co_lt hb) (by decide) ⟨_, rfl, rfl⟩ ⟨by decide, by decide⟩ (Nat.le_of_ble_eq_true rfl) dX2_letGo_4 rfl rfl rfl rfl rfl) ?_
  refine im_st (r_aload_n (i := 0) dX2_letGo_7 rfl rfl rfl) ?_
  refine im_st (s_getR (b := b) (tag := 2) (j := 0) dX2_letGo_8 rfl fl_X2_18 (ct_sh hb) (ct_lt hb) rfl (ct_rf0 hb)) ?_
  refine im_st (r_iload_n (i := 1) dX2_letGo_11 rfl rfl rfl) ?_
  refine im_app (Gm := fun (σ1 : Sg) => Go M_X2_letGo Q 0 0 12 [some (.ref (b + 9)), some (.int a1), some (.int a2)] [.int a1, .ref b] (mk σ1 τ)) (fun σ1 => ?_)
  refine im_st (r_callV (as := [.int a1]) (r := some (.int (f_X7_isHedgehog b a1 σ1))) (kc1 := 0) (ks1 := 0) (st := []) (st1 := [.int (f_X7_isHedgehog b a1 σ1)]) (e_X7_isHedgehog b a1 σ1 τ (ct_sl hb)) mv_X7_isHedgehog lk_X2_25 ⟨by decide, by decide⟩ (sl_sh (ct_sl hb)) (sl_lt (ct_sl hb)) (by decide) ⟨_, rfl, rfl⟩ ⟨by decide, by decide⟩ (Nat.le_of_ble_eq_true rfl) dX2_letGo_12 rfl rfl rfl rfl rfl) ?_
  refine im_seq (Gm := fun (j2 : Sg) => Go M_X2_letGo Q 0 0 48 [some (.ref (b + 9)), none, none] [] (mk j2 τ)) ?_ (fun j2 => ?_)
  · refine im_br (r_if_eq (tgt := 48) dX2_letGo_15 rfl (by decide)) (fun c3 => ?_) (fun c3 => ?_)
    · refine im_st (r_fgt (L1 := [some (.ref (b + 9)), none, none]) [1, 2] rfl) ?_
      exact im_ret id
    · refine im_st (r_aload_n (i := 0) dX2_letGo_18 rfl rfl rfl) ?_
      refine im_st (s_getR (b := (b + 10)) (tag := 2) (j := 1) dX2_letGo_19 rfl fl_X2_12 (ct_sh hb) (ct_lt hb) rfl (ct_rf1 hb)) ?_
      refine im_st (r_aload_n (i := 0) dX2_letGo_22 rfl rfl rfl) ?_
      refine im_st (s_getR (b := b) (tag := 2) (j := 0) dX2_letGo_23 rfl fl_X2_18 (ct_sh hb) (ct_lt hb) rfl (ct_rf0 hb)) ?_
      refine im_st (r_aload_n (i := 0) dX2_letGo_26 rfl rfl rfl) ?_
      refine im_st (s_getR (b := b) (tag := 2) (j := 0) dX2_letGo_27 rfl fl_X2_18 (ct_sh hb) (ct_lt hb) rfl (ct_rf0 hb)) ?_
      refine im_st (s_getR (b := (b + 4)) (tag := 7) (j := 5) dX2_letGo_30 rfl fl_X2_31 (sl_sh (ct_sl hb)) (sl_lt (ct_sl hb)) rfl (sl_rf5 (ct_sl hb))) ?_
      refine im_st (r_iload_n (i := 1) dX2_letGo_33 rfl rfl rfl) ?_
      refine im_grd (fun g4 => ?_)
      refine im_st (s_iaload dX2_letGo_34 rfl (sl_sh4 (ct_sl hb)) (sl_lt4 (ct_sl hb)) (inR_in g4)) ?_
      refine im_st (r_aload_n (i := 0) dX2_letGo_35 rfl rfl rfl) ?_
      refine im_st (s_getR (b := b) (tag := 2) (j := 0) dX2_letGo_36 rfl fl_X2_18 (ct_sh hb) (ct_lt hb) rfl (ct_rf0 hb)) ?_
      refine im_st (s_getR (b := (b + 5)) (tag := 7) (j := 6) dX2_letGo_39 rfl fl_X2_35 (sl_sh (ct_sl hb)) (sl_lt (ct_sl hb)) rfl (sl_rf6 (ct_sl hb))) ?_
      refine im_st (r_iload_n (i := 1) dX2_letGo_42 rfl rfl rfl) ?_
      refine im_grd (fun g5 => ?_)
      refine im_st (s_iaload dX2_letGo_43 rfl (sl_sh5 (ct_sl hb)) (sl_lt5 (ct_sl hb)) (inR_in g5)) ?_
      refine im_st (r_iload_n (i := 2) dX2_letGo_44 rfl rfl rfl) ?_
      refine im_bind (fun y6 hy6 => ?_)
      refine im_st (r_callV (as := [.ref b, .int (σ1 (b + 4) a1.toNatClampNeg), .int (σ1 (b + 5) a1.toNatClampNeg), .int a2]) (r := none) (kc1 := 0) (ks1 := 0) (st := []) (st1 := []) (e_X1_follow b b (σ1 (b + 4) a1.toNatClampNeg) (σ1 (b + 5) a1.toNatClampNeg) a2 σ1 τ hb (ct_sl hb) y6 hy6) mv_X1_follow lk_X2_38 ⟨by decide, by decide⟩ (co_sh hb) (co_lt hb) (by decide) ⟨_, rfl, rfl⟩ ⟨by decide, by decide⟩ (Nat.le_of_ble_eq_true rfl) dX2_letGo_45 rfl rfl rfl rfl rfl) ?_
      refine im_st (r_fgt (L1 := [some (.ref (b + 9)), none, none]) [1, 2] rfl) ?_
      exact im_ret id
  refine im_st (r_aload_n (i := 0) dX2_letGo_48 rfl rfl rfl) ?_
  refine im_st (s_getR (b := (b + 10)) (tag := 2) (j := 1) dX2_letGo_49 rfl fl_X2_12 (ct_sh hb) (ct_lt hb) rfl (ct_rf1 hb)) ?_
  exact im_ret (fun q => g_aret (C := "HedgehogLots$Course") rfl rfl rfl dX2_letGo_52 q)
theorem e_X2_letGo (b : Nat) (a1 : Int32) (a2 : Int32) (σ : Sg) (τ : Sl) (hb : isCt b) (y : Sg) (hy : f_X2_letGo b a1 a2 σ = some y) : EvD M_X2_letGo [.ref (b + 9), .int a1, .int a2] (mk σ τ) (some (.ref (b + 10))) (mk y τ) := EvM.of (by decide +kernel) (Nat.le_of_ble_eq_true rfl) (i_X2_letGo b a1 a2 σ τ hb _ y hy ⟨rfl, rfl⟩)
def M_X2_decided : Ms := (yX2_decided, cX2_decided, 3, some .int, 4, 85, 0, 0)
theorem mv_X2_decided : MV M_X2_decided 0 := ⟨⟨q529, q4, by decide, by decide, by decide +kernel⟩, q527, q528⟩
def b_X2_decided_4 (b : Nat) : (Int32 × Int32 × Sg) → Option ((Int32 × Int32 × Sg) ⊕ (Int32 × Int32 × Sg)) := fun (s1 : (Int32 × Int32 × Sg)) =>
  if (s1.2.2 b 10) ≤ s1.2.1 then
    some (.inr (s1.1, s1.2.1, s1.2.2))
  else
    (f_X2_letGoInSuit b s1.2.1 s1.2.2).bind fun (y3 : Sg) =>
    app (if (y3 (b + 10) 1) = (-4 : Int32) then
      s1.1
    else
      app (s1.1 ||| ((1 : Int32) <<< (s1.2.1 &&& 31))) fun (v6 : Int32) =>
      v6) fun (j4 : Int32) =>
    some (.inl (j4, (s1.2.1 + 1), y3))
def f_X2_decided (b : Nat) (σ : Sg) : Option (Int32 × Sg) :=
  (wh (b_X2_decided_4 b) 4096 ((0 : Int32), (0 : Int32), σ)).bind fun (e7 : (Int32 × Int32 × Sg)) =>
  some (e7.1, e7.2.2)
set_option maxHeartbeats 4000000 in
set_option maxRecDepth 20000 in
theorem i_X2_decided (b : Nat) (σ : Sg) (τ : Sl) (hb : isCt b) (Q : Option Value → Hp → Prop) : Imp (f_X2_decided b σ) (fun (y : (Int32 × Sg)) => Q (some (.int y.1)) (mk y.2 τ)) (Go M_X2_decided Q 0 0 0 [some (.ref (b + 9)), none, none] [] (mk σ τ)) := by
  unfold f_X2_decided
  refine im_st (r_iconst (v := 0) dX2_decided_0 rfl kI_0) ?_
  refine im_st (r_istore_n (i := 1) (L1 := [some (.ref (b + 9)), some (.int (0 : Int32)), none]) dX2_decided_1 rfl rfl (by decide) rfl) ?_
  refine im_st (r_iconst (v := 0) dX2_decided_2 rfl kI_0) ?_
  refine im_st (r_istore_n (i := 2) (L1 := [some (.ref (b + 9)), some (.int (0 : Int32)), some (.int (0 : Int32))]) dX2_decided_3 rfl rfl (by decide) rfl) ?_
  refine im_seq (Gm := fun (e7 : (Int32 × Int32 × Sg)) => Go M_X2_decided Q 0 0 40 [none, some (.int e7.1), none] [] (mk e7.2.2 τ)) ?_ (fun e7 => ?_)
  · refine im_wh (G := fun (s1 : (Int32 × Int32 × Sg)) => Go M_X2_decided Q 0 0 4 [some (.ref (b + 9)), some (.int s1.1), some (.int s1.2.1)] [] (mk s1.2.2 τ)) (fun s1 => ?_) _ _
    unfold b_X2_decided_4
    refine im_st (r_iload_n (i := 2) dX2_decided_4 rfl rfl rfl) ?_
    refine im_st (r_aload_n (i := 0) dX2_decided_5 rfl rfl rfl) ?_
    refine im_st (s_getR (b := b) (tag := 2) (j := 0) dX2_decided_6 rfl fl_X2_18 (ct_sh hb) (ct_lt hb) rfl (ct_rf0 hb)) ?_
    refine im_st (s_getI (tag := 7) (j := 10) dX2_decided_9 rfl fl_X2_51 (sl_sh (ct_sl hb)) (sl_lt (ct_sl hb)) rfl) ?_
    refine im_br (r_icmp_ge (tgt := 40) dX2_decided_12 rfl (by decide)) (fun c2 => ?_) (fun c2 => ?_)
    · refine im_st (r_fgt (L1 := [none, some (.int s1.1), none]) [0, 2] rfl) ?_
      exact im_ret id
    · refine im_st (r_aload_n (i := 0) dX2_decided_15 rfl rfl rfl) ?_
      refine im_st (r_iload_n (i := 2) dX2_decided_16 rfl rfl rfl) ?_
      refine im_bind (fun y3 hy3 => ?_)
      refine im_st (r_callV (as := [.int s1.2.1]) (r := some (.ref (b + 10))) (kc1 := 0) (ks1 := 0) (st := []) (st1 := [.ref (b + 10)]) (e_X2_letGoInSuit b s1.2.1 s1.2.2 τ hb y3 hy3) mv_X2_letGoInSuit lk_X2_55 ⟨by decide, by decide⟩ (ct_sh hb) (ct_lt hb) (by decide) ⟨_, rfl, rfl⟩ ⟨by decide, by decide⟩ (Nat.le_of_ble_eq_true rfl) dX2_decided_17 rfl rfl rfl rfl rfl) ?_
      refine im_st (s_getI (tag := 1) (j := 1) dX2_decided_20 rfl fl_X2_59 (co_sh hb) (co_lt hb) rfl) ?_
      refine im_st (r_bipush (v := -4) dX2_decided_23 rfl kB_m4) ?_
      refine im_seqT (Gm := fun (j4 : Int32) => Go M_X2_decided Q 0 0 34 [some (.ref (b + 9)), some (.int j4), some (.int s1.2.1)] [] (mk y3 τ)) ?_ (fun j4 => ?_)
      · refine im_brS (r_icmp_eq (tgt := 34) dX2_decided_25 rfl (by decide)) (fun c5 => ?_) (fun c5 => ?_)
        · exact im_ret id
        · refine im_st (r_iload_n (i := 1) dX2_decided_28 rfl rfl rfl) ?_
          refine im_st (r_iconst (v := 1) dX2_decided_29 rfl kI_1) ?_
          refine im_st (r_iload_n (i := 2) dX2_decided_30 rfl rfl rfl) ?_
          refine im_st (r_ishl dX2_decided_31 rfl) ?_
          refine im_st (r_ior dX2_decided_32 rfl) ?_
          refine im_appS (Gm := fun (v6 : Int32) => Go M_X2_decided Q 0 0 33 [some (.ref (b + 9)), some (.int s1.1), some (.int s1.2.1)] [.int v6] (mk y3 τ)) (fun v6 => ?_)
          refine im_st (r_istore_n (i := 1) (L1 := [some (.ref (b + 9)), some (.int v6), some (.int s1.2.1)]) dX2_decided_33 rfl rfl (by decide) rfl) ?_
          exact im_ret id
      refine im_st (r_iinc (i := 2) (x := s1.2.1) (v := (s1.2.1 + 1)) (L1 := [some (.ref (b + 9)), some (.int j4), some (.int (s1.2.1 + 1))]) dX2_decided_34 rfl rfl rfl (by decide) rfl) ?_
      refine im_st (r_goto (pc1 := 4) dX2_decided_37 (by decide)) ?_
      exact im_ret id
  refine im_st (r_iload_n (i := 1) dX2_decided_40 rfl rfl rfl) ?_
  exact im_ret (fun q => g_iret rfl rfl rfl dX2_decided_41 q)
theorem e_X2_decided (b : Nat) (σ : Sg) (τ : Sl) (hb : isCt b) (y : (Int32 × Sg)) (hy : f_X2_decided b σ = some y) : EvD M_X2_decided [.ref (b + 9)] (mk σ τ) (some (.int y.1)) (mk y.2 τ) := EvM.of (by decide +kernel) (Nat.le_of_ble_eq_true rfl) (i_X2_decided b σ τ hb _ y hy ⟨rfl, rfl⟩)
def M_X2_opened : Ms := (yX2_opened, cX2_opened, 3, some .int, 4, 85, 0, 0)
theorem mv_X2_opened : MV M_X2_opened 0 := ⟨⟨q572, q4, by decide, by decide, by decide +kernel⟩, q570, q571⟩
def b_X2_opened_4 (b : Nat) : (Int32 × Int32 × Sg) → Option ((Int32 × Int32 × Sg) ⊕ (Int32 × Int32 × Sg)) := fun (s1 : (Int32 × Int32 × Sg)) =>
  if (s1.2.2 b 10) ≤ s1.2.1 then
    some (.inr (s1.1, s1.2.1, s1.2.2))
  else
    (f_X2_letGoInSuit b s1.2.1 s1.2.2).bind fun (y3 : Sg) =>
    app (if (y3 (b + 10) 4) = 0 then
      s1.1
    else
      app (s1.1 ||| ((1 : Int32) <<< (s1.2.1 &&& 31))) fun (v6 : Int32) =>
      v6) fun (j4 : Int32) =>
    some (.inl (j4, (s1.2.1 + 1), y3))
def f_X2_opened (b : Nat) (σ : Sg) : Option (Int32 × Sg) :=
  (wh (b_X2_opened_4 b) 4096 ((0 : Int32), (0 : Int32), σ)).bind fun (e7 : (Int32 × Int32 × Sg)) =>
  some (e7.1, e7.2.2)
set_option maxHeartbeats 4000000 in
set_option maxRecDepth 20000 in
theorem i_X2_opened (b : Nat) (σ : Sg) (τ : Sl) (hb : isCt b) (Q : Option Value → Hp → Prop) : Imp (f_X2_opened b σ) (fun (y : (Int32 × Sg)) => Q (some (.int y.1)) (mk y.2 τ)) (Go M_X2_opened Q 0 0 0 [some (.ref (b + 9)), none, none] [] (mk σ τ)) := by
  unfold f_X2_opened
  refine im_st (r_iconst (v := 0) dX2_opened_0 rfl kI_0) ?_
  refine im_st (r_istore_n (i := 1) (L1 := [some (.ref (b + 9)), some (.int (0 : Int32)), none]) dX2_opened_1 rfl rfl (by decide) rfl) ?_
  refine im_st (r_iconst (v := 0) dX2_opened_2 rfl kI_0) ?_
  refine im_st (r_istore_n (i := 2) (L1 := [some (.ref (b + 9)), some (.int (0 : Int32)), some (.int (0 : Int32))]) dX2_opened_3 rfl rfl (by decide) rfl) ?_
  refine im_seq (Gm := fun (e7 : (Int32 × Int32 × Sg)) => Go M_X2_opened Q 0 0 38 [none, some (.int e7.1), none] [] (mk e7.2.2 τ)) ?_ (fun e7 => ?_)
  · refine im_wh (G := fun (s1 : (Int32 × Int32 × Sg)) => Go M_X2_opened Q 0 0 4 [some (.ref (b + 9)), some (.int s1.1), some (.int s1.2.1)] [] (mk s1.2.2 τ)) (fun s1 => ?_) _ _
    unfold b_X2_opened_4
    refine im_st (r_iload_n (i := 2) dX2_opened_4 rfl rfl rfl) ?_
    refine im_st (r_aload_n (i := 0) dX2_opened_5 rfl rfl rfl) ?_
    refine im_st (s_getR (b := b) (tag := 2) (j := 0) dX2_opened_6 rfl fl_X2_18 (ct_sh hb) (ct_lt hb) rfl (ct_rf0 hb)) ?_
    refine im_st (s_getI (tag := 7) (j := 10) dX2_opened_9 rfl fl_X2_51 (sl_sh (ct_sl hb)) (sl_lt (ct_sl hb)) rfl) ?_
    refine im_br (r_icmp_ge (tgt := 38) dX2_opened_12 rfl (by decide)) (fun c2 => ?_) (fun c2 => ?_)
    · refine im_st (r_fgt (L1 := [none, some (.int s1.1), none]) [0, 2] rfl) ?_
      exact im_ret id
    · refine im_st (r_aload_n (i := 0) dX2_opened_15 rfl rfl rfl) ?_
      refine im_st (r_iload_n (i := 2) dX2_opened_16 rfl rfl rfl) ?_
      refine im_bind (fun y3 hy3 => ?_)
      refine im_st (r_callV (as := [.int s1.2.1]) (r := some (.ref (b + 10))) (kc1 := 0) (ks1 := 0) (st := []) (st1 := [.ref (b + 10)]) (e_X2_letGoInSuit b s1.2.1 s1.2.2 τ hb y3 hy3) mv_X2_letGoInSuit lk_X2_55 ⟨by decide, by decide⟩ (ct_sh hb) (ct_lt hb) (by decide) ⟨_, rfl, rfl⟩ ⟨by decide, by decide⟩ (Nat.le_of_ble_eq_true rfl) dX2_opened_17 rfl rfl rfl rfl rfl) ?_
      refine im_st (s_getI (tag := 1) (j := 4) dX2_opened_20 rfl fl_X2_62 (co_sh hb) (co_lt hb) rfl) ?_
      refine im_seqT (Gm := fun (j4 : Int32) => Go M_X2_opened Q 0 0 32 [some (.ref (b + 9)), some (.int j4), some (.int s1.2.1)] [] (mk y3 τ)) ?_ (fun j4 => ?_)
      · refine im_brS (r_if_eq (tgt := 32) dX2_opened_23 rfl (by decide)) (fun c5 => ?_) (fun c5 => ?_)
        · exact im_ret id
        · refine im_st (r_iload_n (i := 1) dX2_opened_26 rfl rfl rfl) ?_
          refine im_st (r_iconst (v := 1) dX2_opened_27 rfl kI_1) ?_
          refine im_st (r_iload_n (i := 2) dX2_opened_28 rfl rfl rfl) ?_
          refine im_st (r_ishl dX2_opened_29 rfl) ?_
          refine im_st (r_ior dX2_opened_30 rfl) ?_
          refine im_appS (Gm := fun (v6 : Int32) => Go M_X2_opened Q 0 0 31 [some (.ref (b + 9)), some (.int s1.1), some (.int s1.2.1)] [.int v6] (mk y3 τ)) (fun v6 => ?_)
          refine im_st (r_istore_n (i := 1) (L1 := [some (.ref (b + 9)), some (.int v6), some (.int s1.2.1)]) dX2_opened_31 rfl rfl (by decide) rfl) ?_
          exact im_ret id
      refine im_st (r_iinc (i := 2) (x := s1.2.1) (v := (s1.2.1 + 1)) (L1 := [some (.ref (b + 9)), some (.int j4), some (.int (s1.2.1 + 1))]) dX2_opened_32 rfl rfl rfl (by decide) rfl) ?_
      refine im_st (r_goto (pc1 := 4) dX2_opened_35 (by decide)) ?_
      exact im_ret id
  refine im_st (r_iload_n (i := 1) dX2_opened_38 rfl rfl rfl) ?_
  exact im_ret (fun q => g_iret rfl rfl rfl dX2_opened_39 q)
theorem e_X2_opened (b : Nat) (σ : Sg) (τ : Sl) (hb : isCt b) (y : (Int32 × Sg)) (hy : f_X2_opened b σ = some y) : EvD M_X2_opened [.ref (b + 9)] (mk σ τ) (some (.int y.1)) (mk y.2 τ) := EvM.of (by decide +kernel) (Nat.le_of_ble_eq_true rfl) (i_X2_opened b σ τ hb _ y hy ⟨rfl, rfl⟩)
def M_X2_restedOn : Ms := (yX2_restedOn, cX2_restedOn, 4, some .int, 4, 85, 0, 0)
theorem mv_X2_restedOn : MV M_X2_restedOn 1 := ⟨⟨q581, q4, by decide, by decide, by decide +kernel⟩, q579, q580⟩
def b_X2_restedOn_4 (b : Nat) (a1 : Int32) : (Int32 × Int32 × Sg) → Option ((Int32 × Int32 × Sg) ⊕ (Int32 × Int32 × Sg)) := fun (s1 : (Int32 × Int32 × Sg)) =>
  if (s1.2.2 b 10) ≤ s1.2.1 then
    some (.inr (s1.1, s1.2.1, s1.2.2))
  else
    (f_X2_letGoInSuit b s1.2.1 s1.2.2).bind fun (y3 : Sg) =>
    app (if (y3 (b + 10) 0) = a1 then
      app (s1.1 ||| ((1 : Int32) <<< (s1.2.1 &&& 31))) fun (v6 : Int32) =>
      v6
    else
      s1.1) fun (j4 : Int32) =>
    some (.inl (j4, (s1.2.1 + 1), y3))
def f_X2_restedOn (b : Nat) (a1 : Int32) (σ : Sg) : Option (Int32 × Sg) :=
  (wh (b_X2_restedOn_4 b a1) 4096 ((0 : Int32), (0 : Int32), σ)).bind fun (e7 : (Int32 × Int32 × Sg)) =>
  some (e7.1, e7.2.2)
set_option maxHeartbeats 4000000 in
set_option maxRecDepth 20000 in
theorem i_X2_restedOn (b : Nat) (a1 : Int32) (σ : Sg) (τ : Sl) (hb : isCt b) (Q : Option Value → Hp → Prop) : Imp (f_X2_restedOn b a1 σ) (fun (y : (Int32 × Sg)) => Q (some (.int y.1)) (mk y.2 τ)) (Go M_X2_restedOn Q 0 0 0 [some (.ref (b + 9)), some (.int a1), none, none] [] (mk σ τ)) := by
  unfold f_X2_restedOn
  refine im_st (r_iconst (v := 0) dX2_restedOn_0 rfl kI_0) ?_
  refine im_st (r_istore_n (i := 2) (L1 := [some (.ref (b + 9)), some (.int a1), some (.int (0 : Int32)), none]) dX2_restedOn_1 rfl rfl (by decide) rfl) ?_
  refine im_st (r_iconst (v := 0) dX2_restedOn_2 rfl kI_0) ?_
  refine im_st (r_istore_n (i := 3) (L1 := [some (.ref (b + 9)), some (.int a1), some (.int (0 : Int32)), some (.int (0 : Int32))]) dX2_restedOn_3 rfl rfl (by decide) rfl) ?_
  refine im_seq (Gm := fun (e7 : (Int32 × Int32 × Sg)) => Go M_X2_restedOn Q 0 0 39 [none, none, some (.int e7.1), none] [] (mk e7.2.2 τ)) ?_ (fun e7 => ?_)
  · refine im_wh (G := fun (s1 : (Int32 × Int32 × Sg)) => Go M_X2_restedOn Q 0 0 4 [some (.ref (b + 9)), some (.int a1), some (.int s1.1), some (.int s1.2.1)] [] (mk s1.2.2 τ)) (fun s1 => ?_) _ _
    unfold b_X2_restedOn_4
    refine im_st (r_iload_n (i := 3) dX2_restedOn_4 rfl rfl rfl) ?_
    refine im_st (r_aload_n (i := 0) dX2_restedOn_5 rfl rfl rfl) ?_
    refine im_st (s_getR (b := b) (tag := 2) (j := 0) dX2_restedOn_6 rfl fl_X2_18 (ct_sh hb) (ct_lt hb) rfl (ct_rf0 hb)) ?_
    refine im_st (s_getI (tag := 7) (j := 10) dX2_restedOn_9 rfl fl_X2_51 (sl_sh (ct_sl hb)) (sl_lt (ct_sl hb)) rfl) ?_
    refine im_br (r_icmp_ge (tgt := 39) dX2_restedOn_12 rfl (by decide)) (fun c2 => ?_) (fun c2 => ?_)
    · refine im_st (r_fgt (L1 := [none, none, some (.int s1.1), none]) [0, 1, 3] rfl) ?_
      exact im_ret id
    · refine im_st (r_aload_n (i := 0) dX2_restedOn_15 rfl rfl rfl) ?_
      refine im_st (r_iload_n (i := 3) dX2_restedOn_16 rfl rfl rfl) ?_
      refine im_bind (fun y3 hy3 => ?_)
      refine im_st (r_callV (as := [.int s1.2.1]) (r := some (.ref (b + 10))) (kc1 := 0) (ks1 := 0) (st := []) (st1 := [.ref (b + 10)]) (e_X2_letGoInSuit b s1.2.1 s1.2.2 τ hb y3 hy3) mv_X2_letGoInSuit lk_X2_55 ⟨by decide, by decide⟩ (ct_sh hb) (ct_lt hb) (by decide) ⟨_, rfl, rfl⟩ ⟨by decide, by decide⟩ (Nat.le_of_ble_eq_true rfl) dX2_restedOn_17 rfl rfl rfl rfl rfl) ?_
      refine im_st (s_getI (tag := 1) (j := 0) dX2_restedOn_20 rfl fl_X2_66 (co_sh hb) (co_lt hb) rfl) ?_
      refine im_st (r_iload_n (i := 1) dX2_restedOn_23 rfl rfl rfl) ?_
      refine im_seqT (Gm := fun (j4 : Int32) => Go M_X2_restedOn Q 0 0 33 [some (.ref (b + 9)), some (.int a1), some (.int j4), some (.int s1.2.1)] [] (mk y3 τ)) ?_ (fun j4 => ?_)
      · refine im_brS (r_icmp_ne (tgt := 33) dX2_restedOn_24 rfl (by decide)) (fun c5 => ?_) (fun c5 => ?_)
        · refine im_st (r_iload_n (i := 2) dX2_restedOn_27 rfl rfl rfl) ?_
          refine im_st (r_iconst (v := 1) dX2_restedOn_28 rfl kI_1) ?_
          refine im_st (r_iload_n (i := 3) dX2_restedOn_29 rfl rfl rfl) ?_
          refine im_st (r_ishl dX2_restedOn_30 rfl) ?_
          refine im_st (r_ior dX2_restedOn_31 rfl) ?_
          refine im_appS (Gm := fun (v6 : Int32) => Go M_X2_restedOn Q 0 0 32 [some (.ref (b + 9)), some (.int a1), some (.int s1.1), some (.int s1.2.1)] [.int v6] (mk y3 τ)) (fun v6 => ?_)
          refine im_st (r_istore_n (i := 2) (L1 := [some (.ref (b + 9)), some (.int a1), some (.int v6), some (.int s1.2.1)]) dX2_restedOn_32 rfl rfl (by decide) rfl) ?_
          exact im_ret id
        · exact im_ret id
      refine im_st (r_iinc (i := 3) (x := s1.2.1) (v := (s1.2.1 + 1)) (L1 := [some (.ref (b + 9)), some (.int a1), some (.int j4), some (.int (s1.2.1 + 1))]) dX2_restedOn_33 rfl rfl rfl (by decide) rfl) ?_
      refine im_st (r_goto (pc1 := 4) dX2_restedOn_36 (by decide)) ?_
      exact im_ret id
  refine im_st (r_iload_n (i := 2) dX2_restedOn_39 rfl rfl rfl) ?_
  exact im_ret (fun q => g_iret rfl rfl rfl dX2_restedOn_40 q)
theorem e_X2_restedOn (b : Nat) (a1 : Int32) (σ : Sg) (τ : Sl) (hb : isCt b) (y : (Int32 × Sg)) (hy : f_X2_restedOn b a1 σ = some y) : EvD M_X2_restedOn [.ref (b + 9), .int a1] (mk σ τ) (some (.int y.1)) (mk y.2 τ) := EvM.of (by decide +kernel) (Nat.le_of_ble_eq_true rfl) (i_X2_restedOn b a1 σ τ hb _ y hy ⟨rfl, rfl⟩)
def M_X2_restingColumns : Ms := (yX2_restingColumns, cX2_restingColumns, 4, some .int, 4, 85, 0, 0)
theorem mv_X2_restingColumns : MV M_X2_restingColumns 1 := ⟨⟨q599, q4, by decide, by decide, by decide +kernel⟩, q597, q598⟩
def b_X2_restingColumns_4 (b : Nat) (a1 : Int32) : (Int32 × Int32 × Sg) → Option ((Int32 × Int32 × Sg) ⊕ (Int32 × Int32 × Sg)) := fun (s1 : (Int32 × Int32 × Sg)) =>
  if (8 : Int32) ≤ s1.2.1 then
    some (.inr (s1.1, s1.2.1, s1.2.2))
  else
    (f_X2_letGo b a1 s1.2.1 s1.2.2).bind fun (y3 : Sg) =>
    app (if (y3 (b + 10) 0) = (-4 : Int32) then
      s1.1
    else
      app (s1.1 ||| ((1 : Int32) <<< (s1.2.1 &&& 31))) fun (v6 : Int32) =>
      v6) fun (j4 : Int32) =>
    some (.inl (j4, (s1.2.1 + 1), y3))
def f_X2_restingColumns (b : Nat) (a1 : Int32) (σ : Sg) : Option (Int32 × Sg) :=
  (wh (b_X2_restingColumns_4 b a1) 4096 ((0 : Int32), (0 : Int32), σ)).bind fun (e7 : (Int32 × Int32 × Sg)) =>
  some (e7.1, e7.2.2)
set_option maxHeartbeats 4000000 in
set_option maxRecDepth 20000 in
theorem i_X2_restingColumns (b : Nat) (a1 : Int32) (σ : Sg) (τ : Sl) (hb : isCt b) (Q : Option Value → Hp → Prop) : Imp (f_X2_restingColumns b a1 σ) (fun (y : (Int32 × Sg)) => Q (some (.int y.1)) (mk y.2 τ)) (Go M_X2_restingColumns Q 0 0 0 [some (.ref (b + 9)), some (.int a1), none, none] [] (mk σ τ)) := by
  unfold f_X2_restingColumns
  refine im_st (r_iconst (v := 0) dX2_restingColumns_0 rfl kI_0) ?_
  refine im_st (r_istore_n (i := 2) (L1 := [some (.ref (b + 9)), some (.int a1), some (.int (0 : Int32)), none]) dX2_restingColumns_1 rfl rfl (by decide) rfl) ?_
  refine im_st (r_iconst (v := 0) dX2_restingColumns_2 rfl kI_0) ?_
  refine im_st (r_istore_n (i := 3) (L1 := [some (.ref (b + 9)), some (.int a1), some (.int (0 : Int32)), some (.int (0 : Int32))]) dX2_restingColumns_3 rfl rfl (by decide) rfl) ?_
  refine im_seq (Gm := fun (e7 : (Int32 × Int32 × Sg)) => Go M_X2_restingColumns Q 0 0 36 [none, none, some (.int e7.1), none] [] (mk e7.2.2 τ)) ?_ (fun e7 => ?_)
  · refine im_wh (G := fun (s1 : (Int32 × Int32 × Sg)) => Go M_X2_restingColumns Q 0 0 4 [some (.ref (b + 9)), some (.int a1), some (.int s1.1), some (.int s1.2.1)] [] (mk s1.2.2 τ)) (fun s1 => ?_) _ _
    unfold b_X2_restingColumns_4
    refine im_st (r_iload_n (i := 3) dX2_restingColumns_4 rfl rfl rfl) ?_
    refine im_st (r_bipush (v := 8) dX2_restingColumns_5 rfl kB_8) ?_
    refine im_br (r_icmp_ge (tgt := 36) dX2_restingColumns_7 rfl (by decide)) (fun c2 => ?_) (fun c2 => ?_)
    · refine im_st (r_fgt (L1 := [none, none, some (.int s1.1), none]) [0, 1, 3] rfl) ?_
      exact im_ret id
    · refine im_st (r_aload_n (i := 0) dX2_restingColumns_10 rfl rfl rfl) ?_
      refine im_st (r_iload_n (i := 1) dX2_restingColumns_11 rfl rfl rfl) ?_
      refine im_st (r_iload_n (i := 3) dX2_restingColumns_12 rfl rfl rfl) ?_
      refine im_bind (fun y3 hy3 => ?_)
      refine im_st (r_callV (as := [.int a1, .int s1.2.1]) (r := some (.ref (b + 10))) (kc1 := 0) (ks1 := 0) (st := []) (st1 := [.ref (b + 10)]) (e_X2_letGo b a1 s1.2.1 s1.2.2 τ hb y3 hy3) mv_X2_letGo lk_X2_69 ⟨by decide, by decide⟩ (ct_sh hb) (ct_lt hb) (by decide) ⟨_, rfl, rfl⟩ ⟨by decide, by decide⟩ (Nat.le_of_ble_eq_true rfl) dX2_restingColumns_13 rfl rfl rfl rfl rfl) ?_
      refine im_st (s_getI (tag := 1) (j := 0) dX2_restingColumns_16 rfl fl_X2_66 (co_sh hb) (co_lt hb) rfl) ?_
      refine im_st (r_bipush (v := -4) dX2_restingColumns_19 rfl kB_m4) ?_
      refine im_seqT (Gm := fun (j4 : Int32) => Go M_X2_restingColumns Q 0 0 30 [some (.ref (b + 9)), some (.int a1), some (.int j4), some (.int s1.2.1)] [] (mk y3 τ)) ?_ (fun j4 => ?_)
      · refine im_brS (r_icmp_eq (tgt := 30) dX2_restingColumns_21 rfl (by decide)) (fun c5 => ?_) (fun c5 => ?_)
        · exact im_ret id
        · refine im_st (r_iload_n (i := 2) dX2_restingColumns_24 rfl rfl rfl) ?_
          refine im_st (r_iconst (v := 1) dX2_restingColumns_25 rfl kI_1) ?_
          refine im_st (r_iload_n (i := 3) dX2_restingColumns_26 rfl rfl rfl) ?_
          refine im_st (r_ishl dX2_restingColumns_27 rfl) ?_
          refine im_st (r_ior dX2_restingColumns_28 rfl) ?_
          refine im_appS (Gm := fun (v6 : Int32) => Go M_X2_restingColumns Q 0 0 29 [some (.ref (b + 9)), some (.int a1), some (.int s1.1), some (.int s1.2.1)] [.int v6] (mk y3 τ)) (fun v6 => ?_)
          refine im_st (r_istore_n (i := 2) (L1 := [some (.ref (b + 9)), some (.int a1), some (.int v6), some (.int s1.2.1)]) dX2_restingColumns_29 rfl rfl (by decide) rfl) ?_
          exact im_ret id
      refine im_st (r_iinc (i := 3) (x := s1.2.1) (v := (s1.2.1 + 1)) (L1 := [some (.ref (b + 9)), some (.int a1), some (.int j4), some (.int (s1.2.1 + 1))]) dX2_restingColumns_30 rfl rfl rfl (by decide) rfl) ?_
      refine im_st (r_goto (pc1 := 4) dX2_restingColumns_33 (by decide)) ?_
      exact im_ret id
  refine im_st (r_iload_n (i := 2) dX2_restingColumns_36 rfl rfl rfl) ?_
  exact im_ret (fun q => g_iret rfl rfl rfl dX2_restingColumns_37 q)
theorem e_X2_restingColumns (b : Nat) (a1 : Int32) (σ : Sg) (τ : Sl) (hb : isCt b) (y : (Int32 × Sg)) (hy : f_X2_restingColumns b a1 σ = some y) : EvD M_X2_restingColumns [.ref (b + 9), .int a1] (mk σ τ) (some (.int y.1)) (mk y.2 τ) := EvM.of (by decide +kernel) (Nat.le_of_ble_eq_true rfl) (i_X2_restingColumns b a1 σ τ hb _ y hy ⟨rfl, rfl⟩)
def M_X2_winningColumns : Ms := (yX2_winningColumns, cX2_winningColumns, 5, some .int, 4, 85, 0, 0)
theorem mv_X2_winningColumns : MV M_X2_winningColumns 2 := ⟨⟨q690, q4, by decide, by decide, by decide +kernel⟩, q688, q689⟩
def b_X2_winningColumns_5 (b : Nat) (a1 : Int32) (a2 : Int32) : (Int32 × Int32 × Sg) → Option ((Int32 × Int32 × Sg) ⊕ (Int32 × Int32 × Sg)) := fun (s1 : (Int32 × Int32 × Sg)) =>
  if (8 : Int32) ≤ s1.2.1 then
    some (.inr (s1.1, s1.2.1, s1.2.2))
  else
    (f_X2_letGo b a1 s1.2.1 s1.2.2).bind fun (y3 : Sg) =>
    app (if (y3 (b + 10) 1) = a2 then
      app (s1.1 ||| ((1 : Int32) <<< (s1.2.1 &&& 31))) fun (v6 : Int32) =>
      v6
    else
      s1.1) fun (j4 : Int32) =>
    some (.inl (j4, (s1.2.1 + 1), y3))
def f_X2_winningColumns (b : Nat) (a1 : Int32) (a2 : Int32) (σ : Sg) : Option (Int32 × Sg) :=
  (wh (b_X2_winningColumns_5 b a1 a2) 4096 ((0 : Int32), (0 : Int32), σ)).bind fun (e7 : (Int32 × Int32 × Sg)) =>
  some (e7.1, e7.2.2)
set_option maxHeartbeats 4000000 in
set_option maxRecDepth 20000 in
theorem i_X2_winningColumns (b : Nat) (a1 : Int32) (a2 : Int32) (σ : Sg) (τ : Sl) (hb : isCt b) (Q : Option Value → Hp → Prop) : Imp (f_X2_winningColumns b a1 a2 σ) (fun (y : (Int32 × Sg)) => Q (some (.int y.1)) (mk y.2 τ)) (Go M_X2_winningColumns Q 0 0 0 [some (.ref (b + 9)), some (.int a1), some (.int a2), none, none] [] (mk σ τ)) := by
  unfold f_X2_winningColumns
  refine im_st (r_iconst (v := 0) dX2_winningColumns_0 rfl kI_0) ?_
  refine im_st (r_istore_n (i := 3) (L1 := [some (.ref (b + 9)), some (.int a1), some (.int a2), some (.int (0 : Int32)), none]) dX2_winningColumns_1 rfl rfl (by decide) rfl) ?_
  refine im_st (r_iconst (v := 0) dX2_winningColumns_2 rfl kI_0) ?_
  refine im_st (r_istore (i := 4) (L1 := [some (.ref (b + 9)), some (.int a1), some (.int a2), some (.int (0 : Int32)), some (.int (0 : Int32))]) dX2_winningColumns_3 rfl (by decide) rfl) ?_
  refine im_seq (Gm := fun (e7 : (Int32 × Int32 × Sg)) => Go M_X2_winningColumns Q 0 0 39 [none, none, none, some (.int e7.1), none] [] (mk e7.2.2 τ)) ?_ (fun e7 => ?_)
  · refine im_wh (G := fun (s1 : (Int32 × Int32 × Sg)) => Go M_X2_winningColumns Q 0 0 5 [some (.ref (b + 9)), some (.int a1), some (.int a2), some (.int s1.1), some (.int s1.2.1)] [] (mk s1.2.2 τ)) (fun s1 => ?_) _ _
    unfold b_X2_winningColumns_5
    refine im_st (r_iload (i := 4) dX2_winningColumns_5 rfl rfl) ?_
    refine im_st (r_bipush (v := 8) dX2_winningColumns_7 rfl kB_8) ?_
    refine im_br (r_icmp_ge (tgt := 39) dX2_winningColumns_9 rfl (by decide)) (fun c2 => ?_) (fun c2 => ?_)
    · refine im_st (r_fgt (L1 := [none, none, none, some (.int s1.1), none]) [0, 1, 2, 4] rfl) ?_
      exact im_ret id
    · refine im_st (r_aload_n (i := 0) dX2_winningColumns_12 rfl rfl rfl) ?_
      refine im_st (r_iload_n (i := 1) dX2_winningColumns_13 rfl rfl rfl) ?_
      refine im_st (r_iload (i := 4) dX2_winningColumns_14 rfl rfl) ?_
      refine im_bind (fun y3 hy3 => ?_)
      refine im_st (r_callV (as := [.int a1, .int s1.2.1]) (r := some (.ref (b + 10))) (kc1 := 0) (ks1 := 0) (st := []) (st1 := [.ref (b + 10)]) (e_X2_letGo b a1 s1.2.1 s1.2.2 τ hb y3 hy3) mv_X2_letGo lk_X2_69 ⟨by decide, by decide⟩ (ct_sh hb) (ct_lt hb) (by decide) ⟨_, rfl, rfl⟩ ⟨by decide, by decide⟩ (Nat.le_of_ble_eq_true rfl) dX2_winningColumns_16 rfl rfl rfl rfl rfl) ?_
      refine im_st (s_getI (tag := 1) (j := 1) dX2_winningColumns_19 rfl fl_X2_59 (co_sh hb) (co_lt hb) rfl) ?_
      refine im_st (r_iload_n (i := 2) dX2_winningColumns_22 rfl rfl rfl) ?_
      refine im_seqT (Gm := fun (j4 : Int32) => Go M_X2_winningColumns Q 0 0 33 [some (.ref (b + 9)), some (.int a1), some (.int a2), some (.int j4), some (.int s1.2.1)] [] (mk y3 τ)) ?_ (fun j4 => ?_)
      · refine im_brS (r_icmp_ne (tgt := 33) dX2_winningColumns_23 rfl (by decide)) (fun c5 => ?_) (fun c5 => ?_)
        · refine im_st (r_iload_n (i := 3) dX2_winningColumns_26 rfl rfl rfl) ?_
          refine im_st (r_iconst (v := 1) dX2_winningColumns_27 rfl kI_1) ?_
          refine im_st (r_iload (i := 4) dX2_winningColumns_28 rfl rfl) ?_
          refine im_st (r_ishl dX2_winningColumns_30 rfl) ?_
          refine im_st (r_ior dX2_winningColumns_31 rfl) ?_
          refine im_appS (Gm := fun (v6 : Int32) => Go M_X2_winningColumns Q 0 0 32 [some (.ref (b + 9)), some (.int a1), some (.int a2), some (.int s1.1), some (.int s1.2.1)] [.int v6] (mk y3 τ)) (fun v6 => ?_)
          refine im_st (r_istore_n (i := 3) (L1 := [some (.ref (b + 9)), some (.int a1), some (.int a2), some (.int v6), some (.int s1.2.1)]) dX2_winningColumns_32 rfl rfl (by decide) rfl) ?_
          exact im_ret id
        · exact im_ret id
      refine im_st (r_iinc (i := 4) (x := s1.2.1) (v := (s1.2.1 + 1)) (L1 := [some (.ref (b + 9)), some (.int a1), some (.int a2), some (.int j4), some (.int (s1.2.1 + 1))]) dX2_winningColumns_33 rfl rfl rfl (by decide) rfl) ?_
      refine im_st (r_goto (pc1 := 5) dX2_winningColumns_36 (by decide)) ?_
      exact im_ret id
  refine im_st (r_iload_n (i := 3) dX2_winningColumns_39 rfl rfl rfl) ?_
  exact im_ret (fun q => g_iret rfl rfl rfl dX2_winningColumns_40 q)
theorem e_X2_winningColumns (b : Nat) (a1 : Int32) (a2 : Int32) (σ : Sg) (τ : Sl) (hb : isCt b) (y : (Int32 × Sg)) (hy : f_X2_winningColumns b a1 a2 σ = some y) : EvD M_X2_winningColumns [.ref (b + 9), .int a1, .int a2] (mk σ τ) (some (.int y.1)) (mk y.2 τ) := EvM.of (by decide +kernel) (Nat.le_of_ble_eq_true rfl) (i_X2_winningColumns b a1 a2 σ τ hb _ y hy ⟨rfl, rfl⟩)
