def M_X3_add : Ms := (yX3_add, cX3_add, 6, none, 0, 0, 0, 0)
theorem ms_X3_add : MS M_X3_add 4 := ⟨⟨q825, q7, by decide, by decide, by decide +kernel⟩, q824⟩
def f_X3_add (w0 : Nat) (a1 : Int32) (a2 : Int32) (a3 : Int64) (τ : Sl) : Option Sl :=
  app (((10 : Int32) * a1) + a2) fun (v1 : Int32) =>
  if v1 < 0 then
    some τ
  else
    if (80 : Int32) ≤ v1 then
      some τ
    else
      if inR v1 80 then
      if inR v1 80 then
      some (up2 τ w0 v1.toNatClampNeg ((τ w0 v1.toNatClampNeg) + a3))
      else none
      else none
set_option maxHeartbeats 4000000 in
set_option maxRecDepth 20000 in
theorem i_X3_add (w0 : Nat) (a1 : Int32) (a2 : Int32) (a3 : Int64) (σ : Sg) (τ : Sl) (hw0 : isLw w0) (Q : Option Value → Hp → Prop) : Imp (f_X3_add w0 a1 a2 a3 τ) (fun (y : Sl) => Q (none) (mk σ y)) (Go M_X3_add Q 0 0 0 [some (.ref w0), some (.int a1), some (.int a2), some (.long a3), none, none] [] (mk σ τ)) := by
  unfold f_X3_add
  refine im_st (r_bipush (v := 10) dX3_add_0 rfl kB_10) ?_
  refine im_st (r_iload_n (i := 1) dX3_add_2 rfl rfl rfl) ?_
  refine im_st (r_imul dX3_add_3 rfl) ?_
  refine im_st (r_iload_n (i := 2) dX3_add_4 rfl rfl rfl) ?_
  refine im_st (r_iadd dX3_add_5 rfl) ?_
  refine im_app (Gm := fun (v1 : Int32) => Go M_X3_add Q 0 0 6 [some (.ref w0), some (.int a1), some (.int a2), some (.long a3), none, none] [.int v1] (mk σ τ)) (fun v1 => ?_)
  refine im_st (r_istore (i := 5) (L1 := [some (.ref w0), some (.int a1), some (.int a2), some (.long a3), none, some (.int v1)]) dX3_add_6 rfl (by decide) rfl) ?_
  refine im_st (r_iload (i := 5) dX3_add_8 rfl rfl) ?_
  refine im_br (r_if_lt (tgt := 28) dX3_add_10 rfl (by decide)) (fun c2 => ?_) (fun c2 => ?_)
  · exact im_ret (fun q => g_vret rfl rfl rfl dX3_add_28 q)
  · refine im_st (r_iload (i := 5) dX3_add_13 rfl rfl) ?_
    refine im_st (r_aload_n (i := 0) dX3_add_15 rfl rfl rfl) ?_
    refine im_st (s_alen13 (v := 80) dX3_add_16 rfl (lw_sh hw0) (lw_lt hw0) rfl) ?_
    refine im_br (r_icmp_ge (tgt := 28) dX3_add_17 rfl (by decide)) (fun c3 => ?_) (fun c3 => ?_)
    · exact im_ret (fun q => g_vret rfl rfl rfl dX3_add_28 q)
    · refine im_st (r_aload_n (i := 0) dX3_add_20 rfl rfl rfl) ?_
      refine im_st (r_iload (i := 5) dX3_add_21 rfl rfl) ?_
      refine im_st (r_dup2 dX3_add_23 rfl rfl rfl) ?_
      refine im_grd (fun g4 => ?_)
      refine im_st (s_laload dX3_add_24 rfl (lw_sh hw0) (lw_lt hw0) (inR_in g4)) ?_
      refine im_st (r_lload_n (i := 3) dX3_add_25 rfl rfl rfl) ?_
      refine im_st (r_ladd dX3_add_26 rfl) ?_
      refine im_grd (fun g5 => ?_)
      refine im_st (s_lastore dX3_add_27 rfl (lw_sh hw0) (lw_lt hw0) (inR_in g5)) ?_
      exact im_ret (fun q => g_vret rfl rfl rfl dX3_add_28 q)
theorem e_X3_add (w0 : Nat) (a1 : Int32) (a2 : Int32) (a3 : Int64) (σ : Sg) (τ : Sl) (hw0 : isLw w0) (y : Sl) (hy : f_X3_add w0 a1 a2 a3 τ = some y) : EvD M_X3_add [.ref w0, .int a1, .int a2, .long a3] (mk σ τ) (none) (mk σ y) := EvM.of (by decide +kernel) (Nat.le_of_ble_eq_true rfl) (i_X3_add w0 a1 a2 a3 σ τ hw0 _ y hy ⟨rfl, rfl⟩)
def M_X3_goOn : Ms := (yX3_goOn, cX3_goOn, 3, none, 1, 25, 0, 0)
theorem mv_X3_goOn : MV M_X3_goOn 1 := ⟨⟨q839, q7, by decide, by decide, by decide +kernel⟩, q838, p18⟩
def b_X3_goOn_2 (a1 : Int32) : (Int32 × Sl) → Option ((Int32 × Sl) ⊕ (Int32 × Sl)) := fun (s1 : (Int32 × Sl)) =>
  if (10 : Int32) ≤ s1.1 then
    some (.inr (s1.1, s1.2))
  else
    if inR (((10 : Int32) * a1) + s1.1) 80 then
    (f_X3_add 29 a1 s1.1 (s1.2 28 (((10 : Int32) * a1) + s1.1).toNatClampNeg) s1.2).bind fun (y4 : Sl) =>
    some (.inl ((s1.1 + 1), y4))
    else none
def f_X3_goOn (a1 : Int32) (τ : Sl) : Option Sl :=
  (wh (b_X3_goOn_2 a1) 4096 ((1 : Int32), τ)).bind fun (e5 : (Int32 × Sl)) =>
  some e5.2
set_option maxHeartbeats 4000000 in
set_option maxRecDepth 20000 in
theorem i_X3_goOn (a1 : Int32) (σ : Sg) (τ : Sl) (Q : Option Value → Hp → Prop) : Imp (f_X3_goOn a1 τ) (fun (y : Sl) => Q (none) (mk σ y)) (Go M_X3_goOn Q 0 0 0 [some (.ref 27), some (.int a1), none] [] (mk σ τ)) := by
  unfold f_X3_goOn
  refine im_st (r_iconst (v := 1) dX3_goOn_0 rfl kI_1) ?_
  refine im_st (r_istore_n (i := 2) (L1 := [some (.ref 27), some (.int a1), some (.int (1 : Int32))]) dX3_goOn_1 rfl rfl (by decide) rfl) ?_
  refine im_seq (Gm := fun (e5 : (Int32 × Sl)) => Go M_X3_goOn Q 0 0 34 [none, none, none] [] (mk σ e5.2)) ?_ (fun e5 => ?_)
  · refine im_wh (G := fun (s1 : (Int32 × Sl)) => Go M_X3_goOn Q 0 0 2 [some (.ref 27), some (.int a1), some (.int s1.1)] [] (mk σ s1.2)) (fun s1 => ?_) _ _
    unfold b_X3_goOn_2
    refine im_st (r_iload_n (i := 2) dX3_goOn_2 rfl rfl rfl) ?_
    refine im_st (r_bipush (v := 10) dX3_goOn_3 rfl kB_10) ?_
    refine im_br (r_icmp_ge (tgt := 34) dX3_goOn_5 rfl (by decide)) (fun c2 => ?_) (fun c2 => ?_)
    · refine im_st (r_fgt (L1 := [none, none, none]) [0, 1, 2] rfl) ?_
      exact im_ret id
    · refine im_st (r_aload_n (i := 0) dX3_goOn_8 rfl rfl rfl) ?_
      refine im_st (s_getR (b := 29) (tag := 3) (j := 3) dX3_goOn_9 rfl fl_X3_22 rfl (Nat.le_of_ble_eq_true rfl) rfl rfl) ?_
      refine im_st (r_iload_n (i := 1) dX3_goOn_12 rfl rfl rfl) ?_
      refine im_st (r_iload_n (i := 2) dX3_goOn_13 rfl rfl rfl) ?_
      refine im_st (r_aload_n (i := 0) dX3_goOn_14 rfl rfl rfl) ?_
      refine im_st (s_getR (b := 28) (tag := 3) (j := 2) dX3_goOn_15 rfl fl_X3_18 rfl (Nat.le_of_ble_eq_true rfl) rfl rfl) ?_
      refine im_st (r_bipush (v := 10) dX3_goOn_18 rfl kB_10) ?_
      refine im_st (r_iload_n (i := 1) dX3_goOn_20 rfl rfl rfl) ?_
      refine im_st (r_imul dX3_goOn_21 rfl) ?_
      refine im_st (r_iload_n (i := 2) dX3_goOn_22 rfl rfl rfl) ?_
      refine im_st (r_iadd dX3_goOn_23 rfl) ?_
      refine im_grd (fun g3 => ?_)
      refine im_st (s_laload dX3_goOn_24 rfl rfl (Nat.le_of_ble_eq_true rfl) (inR_in g3)) ?_
      refine im_bind (fun y4 hy4 => ?_)
      refine im_st (r_callS (as := [.ref 29, .int a1, .int s1.1, .long (s1.2 28 (((10 : Int32) * a1) + s1.1).toNatClampNeg)]) (r := none) (kc1 := 0) (ks1 := 0) (st := []) (st1 := []) (e_X3_add 29 a1 s1.1 (s1.2 28 (((10 : Int32) * a1) + s1.1).toNatClampNeg) σ s1.2 (lwc_29) y4 hy4) ms_X3_add lk_X3_49 ⟨by decide, by decide⟩ ⟨by decide, by decide⟩ (Nat.le_of_ble_eq_true rfl) dX3_goOn_25 rfl rfl rfl rfl rfl) ?_
      refine im_st (r_iinc (i := 2) (x := s1.1) (v := (s1.1 + 1)) (L1 := [some (.ref 27), some (.int a1), some (.int (s1.1 + 1))]) dX3_goOn_28 rfl rfl rfl (by decide) rfl) ?_
      refine im_st (r_goto (pc1 := 2) dX3_goOn_31 (by decide)) ?_
      exact im_ret id
  exact im_ret (fun q => g_vret rfl rfl rfl dX3_goOn_34 q)
theorem e_X3_goOn (a1 : Int32) (σ : Sg) (τ : Sl) (y : Sl) (hy : f_X3_goOn a1 τ = some y) : EvD M_X3_goOn [.ref 27, .int a1] (mk σ τ) (none) (mk σ y) := EvM.of (by decide +kernel) (Nat.le_of_ble_eq_true rfl) (i_X3_goOn a1 σ τ _ y hy ⟨rfl, rfl⟩)
def M_X3_meet : Ms := (yX3_meet, cX3_meet, 13, none, 2, 35, 0, 0)
theorem mv_X3_meet : MV M_X3_meet 5 := ⟨⟨q831, q7, by decide, by decide, by decide +kernel⟩, q830, p17⟩
def b_X3_meet_27 (a1 : Int32) (a3 : Int32) (a4 : Int32) (a5 : Int32) (v2 : Int32) (v3 : Int32) : (Int32 × Sl) → Option ((Int32 × Sl) ⊕ (Int32 × Sl)) := fun (s4 : (Int32 × Sl)) =>
  if (10 : Int32) ≤ s4.1 then
    some (.inr (s4.1, s4.2))
  else
    if inR (((10 : Int32) * a3) + s4.1) 80 then
    app (s4.2 28 (((10 : Int32) * a3) + s4.1).toNatClampNeg) fun (v7 : Int64) =>
    app (s4.1 - (f_X1_loss a1)) fun (v8 : Int32) =>
    (if v8 ≤ 0 then
      if a5 = 0 then
        some (up2 s4.2 27 1 ((s4.2 27 1) + v7))
      else
        app (up2 s4.2 27 1 ((s4.2 27 1) + v7)) fun (τ12 : Sl) =>
        some (up2 τ12 27 0 ((τ12 27 0) + v7))
    else
      app (up2 s4.2 27 1 ((s4.2 27 1) + v7)) fun (τ13 : Sl) =>
      (f_X3_add 29 v2 v8 ((v7 / (10 : Int64)) * (((10 : Int32) - a4).toInt64)) τ13).bind fun (y14 : Sl) =>
      (f_X3_add 29 v3 v8 ((v7 / (10 : Int64)) * (a4.toInt64)) y14).bind fun (y15 : Sl) =>
      some y15).bind fun (j9 : Sl) =>
    some (.inl ((s4.1 + 1), j9))
    else none
def f_X3_meet (a1 : Int32) (a2 : Int32) (a3 : Int32) (a4 : Int32) (a5 : Int32) (τ : Sl) : Option Sl :=
  app (f_X1_turn a1 a2) fun (v1 : Int32) =>
  app (f_X1_columnBeside a3 v1) fun (v2 : Int32) =>
  app (f_X1_columnBeside a3 (-v1)) fun (v3 : Int32) =>
  (wh (b_X3_meet_27 a1 a3 a4 a5 v2 v3) 4096 ((0 : Int32), τ)).bind fun (e16 : (Int32 × Sl)) =>
  some e16.2
set_option maxHeartbeats 4000000 in
set_option maxRecDepth 20000 in
theorem i_X3_meet (a1 : Int32) (a2 : Int32) (a3 : Int32) (a4 : Int32) (a5 : Int32) (σ : Sg) (τ : Sl) (Q : Option Value → Hp → Prop) : Imp (f_X3_meet a1 a2 a3 a4 a5 τ) (fun (y : Sl) => Q (none) (mk σ y)) (Go M_X3_meet Q 0 0 0 [some (.ref 27), some (.int a1), some (.int a2), some (.int a3), some (.int a4), some (.int a5), none, none, none, none, none, none, none] [] (mk σ τ)) := by
  unfold f_X3_meet
  refine im_st (r_iload_n (i := 1) dX3_meet_0 rfl rfl rfl) ?_
  refine im_st (r_iload_n (i := 2) dX3_meet_1 rfl rfl rfl) ?_
  refine im_st (r_callS (as := [.int a1, .int a2]) (r := some (.int (f_X1_turn a1 a2))) (kc1 := 0) (ks1 := 0) (st := []) (st1 := [.int (f_X1_turn a1 a2)]) (e_X1_turn a1 a2 σ τ) ms_X1_turn lk_X3_77 ⟨by decide, by decide⟩ ⟨by decide, by decide⟩ (Nat.le_of_ble_eq_true rfl) dX3_meet_2 rfl rfl rfl rfl rfl) ?_
  refine im_app (Gm := fun (v1 : Int32) => Go M_X3_meet Q 0 0 5 [some (.ref 27), some (.int a1), some (.int a2), some (.int a3), some (.int a4), some (.int a5), none, none, none, none, none, none, none] [.int v1] (mk σ τ)) (fun v1 => ?_)
  refine im_st (r_istore (i := 6) (L1 := [some (.ref 27), some (.int a1), some (.int a2), some (.int a3), some (.int a4), some (.int a5), some (.int v1), none, none, none, none, none, none]) dX3_meet_5 rfl (by decide) rfl) ?_
  refine im_st (r_iload_n (i := 3) dX3_meet_7 rfl rfl rfl) ?_
  refine im_st (r_iload (i := 6) dX3_meet_8 rfl rfl) ?_
  refine im_st (r_callS (as := [.int a3, .int v1]) (r := some (.int (f_X1_columnBeside a3 v1))) (kc1 := 0) (ks1 := 0) (st := []) (st1 := [.int (f_X1_columnBeside a3 v1)]) (e_X1_columnBeside a3 v1 σ τ) ms_X1_columnBeside lk_X3_83 ⟨by decide, by decide⟩ ⟨by decide, by decide⟩ (Nat.le_of_ble_eq_true rfl) dX3_meet_10 rfl rfl rfl rfl rfl) ?_
  refine im_app (Gm := fun (v2 : Int32) => Go M_X3_meet Q 0 0 13 [some (.ref 27), some (.int a1), some (.int a2), some (.int a3), some (.int a4), some (.int a5), some (.int v1), none, none, none, none, none, none] [.int v2] (mk σ τ)) (fun v2 => ?_)
  refine im_st (r_istore (i := 7) (L1 := [some (.ref 27), some (.int a1), some (.int a2), some (.int a3), some (.int a4), some (.int a5), some (.int v1), some (.int v2), none, none, none, none, none]) dX3_meet_13 rfl (by decide) rfl) ?_
  refine im_st (r_iload_n (i := 3) dX3_meet_15 rfl rfl rfl) ?_
  refine im_st (r_iload (i := 6) dX3_meet_16 rfl rfl) ?_
  refine im_st (r_ineg dX3_meet_18 rfl) ?_
  refine im_st (r_callS (as := [.int a3, .int (-v1)]) (r := some (.int (f_X1_columnBeside a3 (-v1)))) (kc1 := 0) (ks1 := 0) (st := []) (st1 := [.int (f_X1_columnBeside a3 (-v1))]) (e_X1_columnBeside a3 (-v1) σ τ) ms_X1_columnBeside lk_X3_83 ⟨by decide, by decide⟩ ⟨by decide, by decide⟩ (Nat.le_of_ble_eq_true rfl) dX3_meet_19 rfl rfl rfl rfl rfl) ?_
  refine im_app (Gm := fun (v3 : Int32) => Go M_X3_meet Q 0 0 22 [some (.ref 27), some (.int a1), some (.int a2), some (.int a3), some (.int a4), some (.int a5), some (.int v1), some (.int v2), none, none, none, none, none] [.int v3] (mk σ τ)) (fun v3 => ?_)
  refine im_st (r_istore (i := 8) (L1 := [some (.ref 27), some (.int a1), some (.int a2), some (.int a3), some (.int a4), some (.int a5), some (.int v1), some (.int v2), some (.int v3), none, none, none, none]) dX3_meet_22 rfl (by decide) rfl) ?_
  refine im_st (r_iconst (v := 0) dX3_meet_24 rfl kI_0) ?_
  refine im_st (r_istore (i := 9) (L1 := [some (.ref 27), some (.int a1), some (.int a2), some (.int a3), some (.int a4), some (.int a5), some (.int v1), some (.int v2), some (.int v3), some (.int (0 : Int32)), none, none, none]) dX3_meet_25 rfl (by decide) rfl) ?_
  refine im_st (r_fgt (L1 := [some (.ref 27), some (.int a1), none, some (.int a3), some (.int a4), some (.int a5), none, some (.int v2), some (.int v3), some (.int (0 : Int32)), none, none, none]) [2, 6] rfl) ?_
  refine im_seq (Gm := fun (e16 : (Int32 × Sl)) => Go M_X3_meet Q 0 0 143 [none, none, none, none, none, none, none, none, none, none, none, none, none] [] (mk σ e16.2)) ?_ (fun e16 => ?_)
  · refine im_wh (G := fun (s4 : (Int32 × Sl)) => Go M_X3_meet Q 0 0 27 [some (.ref 27), some (.int a1), none, some (.int a3), some (.int a4), some (.int a5), none, some (.int v2), some (.int v3), some (.int s4.1), none, none, none] [] (mk σ s4.2)) (fun s4 => ?_) _ _
    unfold b_X3_meet_27
    refine im_st (r_iload (i := 9) dX3_meet_27 rfl rfl) ?_
    refine im_st (r_bipush (v := 10) dX3_meet_29 rfl kB_10) ?_
    refine im_br (r_icmp_ge (tgt := 143) dX3_meet_31 rfl (by decide)) (fun c5 => ?_) (fun c5 => ?_)
    · refine im_st (r_fgt (L1 := [none, none, none, none, none, none, none, none, none, none, none, none, none]) [0, 1, 3, 4, 5, 7, 8, 9] rfl) ?_
      exact im_ret id
    · refine im_st (r_aload_n (i := 0) dX3_meet_34 rfl rfl rfl) ?_
      refine im_st (s_getR (b := 28) (tag := 3) (j := 2) dX3_meet_35 rfl fl_X3_18 rfl (Nat.le_of_ble_eq_true rfl) rfl rfl) ?_
      refine im_st (r_bipush (v := 10) dX3_meet_38 rfl kB_10) ?_
      refine im_st (r_iload_n (i := 3) dX3_meet_40 rfl rfl rfl) ?_
      refine im_st (r_imul dX3_meet_41 rfl) ?_
      refine im_st (r_iload (i := 9) dX3_meet_42 rfl rfl) ?_
      refine im_st (r_iadd dX3_meet_44 rfl) ?_
      refine im_grd (fun g6 => ?_)
      refine im_st (s_laload dX3_meet_45 rfl rfl (Nat.le_of_ble_eq_true rfl) (inR_in g6)) ?_
      refine im_app (Gm := fun (v7 : Int64) => Go M_X3_meet Q 0 0 46 [some (.ref 27), some (.int a1), none, some (.int a3), some (.int a4), some (.int a5), none, some (.int v2), some (.int v3), some (.int s4.1), none, none, none] [.long v7] (mk σ s4.2)) (fun v7 => ?_)
      refine im_st (r_lstore (i := 10) (L1 := [some (.ref 27), some (.int a1), none, some (.int a3), some (.int a4), some (.int a5), none, some (.int v2), some (.int v3), some (.int s4.1), some (.long v7), none, none]) dX3_meet_46 rfl (by decide) rfl) ?_
      refine im_st (r_iload (i := 9) dX3_meet_48 rfl rfl) ?_
      refine im_st (r_iload_n (i := 1) dX3_meet_50 rfl rfl rfl) ?_
      refine im_st (r_callS (as := [.int a1]) (r := some (.int (f_X1_loss a1))) (kc1 := 0) (ks1 := 0) (st := [.int s4.1]) (st1 := [.int (f_X1_loss a1), .int s4.1]) (e_X1_loss a1 σ s4.2) ms_X1_loss lk_X3_86 ⟨by decide, by decide⟩ ⟨by decide, by decide⟩ (Nat.le_of_ble_eq_true rfl) dX3_meet_51 rfl rfl rfl rfl rfl) ?_
      refine im_st (r_isub dX3_meet_54 rfl) ?_
      refine im_app (Gm := fun (v8 : Int32) => Go M_X3_meet Q 0 0 55 [some (.ref 27), some (.int a1), none, some (.int a3), some (.int a4), some (.int a5), none, some (.int v2), some (.int v3), some (.int s4.1), some (.long v7), none, none] [.int v8] (mk σ s4.2)) (fun v8 => ?_)
      refine im_st (r_istore (i := 12) (L1 := [some (.ref 27), some (.int a1), none, some (.int a3), some (.int a4), some (.int a5), none, some (.int v2), some (.int v3), some (.int s4.1), some (.long v7), none, some (.int v8)]) dX3_meet_55 rfl (by decide) rfl) ?_
      refine im_st (r_aload_n (i := 0) dX3_meet_57 rfl rfl rfl) ?_
      refine im_st (r_dup dX3_meet_58 rfl rfl) ?_
      refine im_st (s_getJ (tag := 3) (j := 1) dX3_meet_59 rfl fl_X3_15 rfl (Nat.le_of_ble_eq_true rfl) rfl) ?_
      refine im_st (r_lload (i := 10) dX3_meet_62 rfl rfl) ?_
      refine im_st (r_ladd dX3_meet_64 rfl) ?_
      refine im_st (s_putJ (tag := 3) (j := 1) dX3_meet_65 rfl fl_X3_15 rfl (Nat.le_of_ble_eq_true rfl) rfl fw_3_1) ?_
      refine im_st (r_iload (i := 12) dX3_meet_68 rfl rfl) ?_
      refine im_seq (Gm := fun (j9 : Sl) => Go M_X3_meet Q 0 0 137 [some (.ref 27), some (.int a1), none, some (.int a3), some (.int a4), some (.int a5), none, some (.int v2), some (.int v3), some (.int s4.1), none, none, none] [] (mk σ j9)) ?_ (fun j9 => ?_)
      · refine im_br (r_if_le (tgt := 121) dX3_meet_70 rfl (by decide)) (fun c10 => ?_) (fun c10 => ?_)
        · refine im_st (r_iload (i := 5) dX3_meet_121 rfl rfl) ?_
          refine im_br (r_if_eq (tgt := 137) dX3_meet_123 rfl (by decide)) (fun c11 => ?_) (fun c11 => ?_)
          · refine im_st (r_fgt (L1 := [some (.ref 27), some (.int a1), none, some (.int a3), some (.int a4), some (.int a5), none, some (.int v2), some (.int v3), some (.int s4.1), none, none, none]) [10, 12] rfl) ?_
            exact im_ret id
          · refine im_st (r_aload_n (i := 0) dX3_meet_126 rfl rfl rfl) ?_
            refine im_st (r_dup dX3_meet_127 rfl rfl) ?_
            refine im_app (Gm := fun (τ12 : Sl) => Go M_X3_meet Q 0 0 128 [some (.ref 27), some (.int a1), none, some (.int a3), some (.int a4), some (.int a5), none, some (.int v2), some (.int v3), some (.int s4.1), some (.long v7), none, some (.int v8)] [.ref 27, .ref 27] (mk σ τ12)) (fun τ12 => ?_)
            refine im_st (s_getJ (tag := 3) (j := 0) dX3_meet_128 rfl fl_X3_9 rfl (Nat.le_of_ble_eq_true rfl) rfl) ?_
            refine im_st (r_lload (i := 10) dX3_meet_131 rfl rfl) ?_
            refine im_st (r_ladd dX3_meet_133 rfl) ?_
            refine im_st (s_putJ (tag := 3) (j := 0) dX3_meet_134 rfl fl_X3_9 rfl (Nat.le_of_ble_eq_true rfl) rfl fw_3_0) ?_
            refine im_st (r_fgt (L1 := [some (.ref 27), some (.int a1), none, some (.int a3), some (.int a4), some (.int a5), none, some (.int v2), some (.int v3), some (.int s4.1), none, none, none]) [10, 12] rfl) ?_
            exact im_ret id
        · refine im_st (r_aload_n (i := 0) dX3_meet_73 rfl rfl rfl) ?_
          refine im_st (s_getR (b := 29) (tag := 3) (j := 3) dX3_meet_74 rfl fl_X3_22 rfl (Nat.le_of_ble_eq_true rfl) rfl rfl) ?_
          refine im_st (r_iload (i := 7) dX3_meet_77 rfl rfl) ?_
          refine im_st (r_iload (i := 12) dX3_meet_79 rfl rfl) ?_
          refine im_st (r_lload (i := 10) dX3_meet_81 rfl rfl) ?_
          refine im_st (r_ldc2 (v := 10) dX3_meet_83 rfl q835) ?_
          refine im_st (r_ldiv dX3_meet_86 rfl (by decide)) ?_
          refine im_st (r_bipush (v := 10) dX3_meet_87 rfl kB_10) ?_
          refine im_st (r_iload (i := 4) dX3_meet_89 rfl rfl) ?_
          refine im_st (r_isub dX3_meet_91 rfl) ?_
          refine im_st (r_i2l (v := ((10 : Int32) - a4).toInt64) dX3_meet_92 rfl rfl) ?_
          refine im_st (r_lmul dX3_meet_93 rfl) ?_
          refine im_app (Gm := fun (τ13 : Sl) => Go M_X3_meet Q 0 0 94 [some (.ref 27), some (.int a1), none, some (.int a3), some (.int a4), some (.int a5), none, some (.int v2), some (.int v3), some (.int s4.1), some (.long v7), none, some (.int v8)] [.long ((v7 / (10 : Int64)) * (((10 : Int32) - a4).toInt64)), .int v8, .int v2, .ref 29] (mk σ τ13)) (fun τ13 => ?_)
          refine im_bind (fun y14 hy14 => ?_)
          refine im_st (r_callS (as := [.ref 29, .int v2, .int v8, .long ((v7 / (10 : Int64)) * (((10 : Int32) - a4).toInt64))]) (r := none) (kc1 := 0) (ks1 := 0) (st := []) (st1 := []) (e_X3_add 29 v2 v8 ((v7 / (10 : Int64)) * (((10 : Int32) - a4).toInt64)) σ τ13 (lwc_29) y14 hy14) ms_X3_add lk_X3_49 ⟨by decide, by decide⟩ ⟨by decide, by decide⟩ (Nat.le_of_ble_eq_true rfl) dX3_meet_94 rfl rfl rfl rfl rfl) ?_
          refine im_st (r_aload_n (i := 0) dX3_meet_97 rfl rfl rfl) ?_
          refine im_st (s_getR (b := 29) (tag := 3) (j := 3) dX3_meet_98 rfl fl_X3_22 rfl (Nat.le_of_ble_eq_true rfl) rfl rfl) ?_
          refine im_st (r_iload (i := 8) dX3_meet_101 rfl rfl) ?_
          refine im_st (r_iload (i := 12) dX3_meet_103 rfl rfl) ?_
          refine im_st (r_lload (i := 10) dX3_meet_105 rfl rfl) ?_
          refine im_st (r_ldc2 (v := 10) dX3_meet_107 rfl q835) ?_
          refine im_st (r_ldiv dX3_meet_110 rfl (by decide)) ?_
          refine im_st (r_iload (i := 4) dX3_meet_111 rfl rfl) ?_
          refine im_st (r_i2l (v := a4.toInt64) dX3_meet_113 rfl rfl) ?_
          refine im_st (r_lmul dX3_meet_114 rfl) ?_
          refine im_bind (fun y15 hy15 => ?_)
          refine im_st (r_callS (as := [.ref 29, .int v3, .int v8, .long ((v7 / (10 : Int64)) * (a4.toInt64))]) (r := none) (kc1 := 0) (ks1 := 0) (st := []) (st1 := []) (e_X3_add 29 v3 v8 ((v7 / (10 : Int64)) * (a4.toInt64)) σ y14 (lwc_29) y15 hy15) ms_X3_add lk_X3_49 ⟨by decide, by decide⟩ ⟨by decide, by decide⟩ (Nat.le_of_ble_eq_true rfl) dX3_meet_115 rfl rfl rfl rfl rfl) ?_
          refine im_st (r_goto (pc1 := 137) dX3_meet_118 (by decide)) ?_
          refine im_st (r_fgt (L1 := [some (.ref 27), some (.int a1), none, some (.int a3), some (.int a4), some (.int a5), none, some (.int v2), some (.int v3), some (.int s4.1), none, none, none]) [10, 12] rfl) ?_
          exact im_ret id
      refine im_st (r_iinc (i := 9) (x := s4.1) (v := (s4.1 + 1)) (L1 := [some (.ref 27), some (.int a1), none, some (.int a3), some (.int a4), some (.int a5), none, some (.int v2), some (.int v3), some (.int (s4.1 + 1)), none, none, none]) dX3_meet_137 rfl rfl rfl (by decide) rfl) ?_
      refine im_st (r_goto (pc1 := 27) dX3_meet_140 (by decide)) ?_
      exact im_ret id
  exact im_ret (fun q => g_vret rfl rfl rfl dX3_meet_143 q)
theorem e_X3_meet (a1 : Int32) (a2 : Int32) (a3 : Int32) (a4 : Int32) (a5 : Int32) (σ : Sg) (τ : Sl) (y : Sl) (hy : f_X3_meet a1 a2 a3 a4 a5 τ = some y) : EvD M_X3_meet [.ref 27, .int a1, .int a2, .int a3, .int a4, .int a5] (mk σ τ) (none) (mk σ y) := EvM.of (by decide +kernel) (Nat.le_of_ble_eq_true rfl) (i_X3_meet a1 a2 a3 a4 a5 σ τ _ y hy ⟨rfl, rfl⟩)
def M_X3_follow : Ms := (yX3_follow, cX3_follow, 11, none, 3, 67, 0, 0)
theorem mv_X3_follow : MV M_X3_follow 5 := ⟨⟨q816, q7, by decide, by decide, by decide +kernel⟩, q814, q815⟩
def b_X3_follow_82 (b1 : Nat) (a2 : Int32) (a5 : Int32) (σ : Sg) (v6 : Int32) (s10 : (Int32 × Sl)) : (Int32 × Sl) → Option ((Int32 × Sl) ⊕ (Int32 × Sl)) := fun (s13 : (Int32 × Sl)) =>
  if (8 : Int32) ≤ s13.1 then
    some (.inr (s13.1, s13.2))
  else
    (f_X7_standingAt b1 (((10 : Int32) * s10.1) + s13.1) σ).bind fun (y15 : Int32) =>
    (if (f_X7_isPeg b1 y15 σ) = 0 then
      if y15 = (-2 : Int32) then
        some s13.2
      else
        (f_X3_goOn s13.1 s13.2).bind fun (y19 : Sl) =>
        some y19
    else
      if inR y15 7 then
      app (if (σ (b1 + 2) y15.toNatClampNeg) = a5 then
        (1 : Int32)
      else
        (0 : Int32)) fun (j21 : Int32) =>
      (f_X3_meet v6 s10.1 s13.1 a2 j21 s13.2).bind fun (y23 : Sl) =>
      some y23
      else none).bind fun (j16 : Sl) =>
    some (.inl ((s13.1 + 1), j16))
def b_X3_follow_64 (b1 : Nat) (a2 : Int32) (a5 : Int32) (σ : Sg) (v6 : Int32) : (Int32 × Sl) → Option ((Int32 × Sl) ⊕ (Int32 × Sl)) := fun (s10 : (Int32 × Sl)) =>
  if (10 : Int32) ≤ s10.1 then
    some (.inr (s10.1, s10.2))
  else
    app (upR s10.2 29 (fillR (s10.2 29) 80 (0 : Int64))) fun (τ12 : Sl) =>
    (wh (b_X3_follow_82 b1 a2 a5 σ v6 s10) 4096 ((0 : Int32), τ12)).bind fun (e24 : (Int32 × Sl)) =>
    some (.inl ((s10.1 + 1), (upR e24.2 28 (va_cpy (e24.2 29) (e24.2 28) 0 0 80))))
def f_X3_follow (b1 : Nat) (a2 : Int32) (a3 : Int32) (a4 : Int32) (a5 : Int32) (σ : Sg) (τ : Sl) : Option Sl :=
  app (up2 τ 27 0 (0 : Int64)) fun (τ1 : Sl) =>
  app (up2 τ1 27 1 (0 : Int64)) fun (τ2 : Sl) =>
  if (f_X7_isHedgehog b1 a3 σ) = 0 then
    some (upR τ2 28 (fillR (τ2 28) 80 (0 : Int64)))
  else
    if (f_X7_isColumn a4) = 0 then
      some (upR τ2 28 (fillR (τ2 28) 80 (0 : Int64)))
    else
      if inR a3 4 then
      app (σ (b1 + 4) a3.toNatClampNeg) fun (v6 : Int32) =>
      if inR a3 4 then
      app (upR τ2 28 (fillR (τ2 28) 80 (0 : Int64))) fun (τ8 : Sl) =>
      (f_X3_add 28 a4 (σ (b1 + 5) a3.toNatClampNeg) (10000000000 : Int64) τ8).bind fun (y9 : Sl) =>
      (wh (b_X3_follow_64 b1 a2 a5 σ v6) 4096 ((0 : Int32), y9)).bind fun (e25 : (Int32 × Sl)) =>
      some e25.2
      else none
      else none
set_option maxHeartbeats 4000000 in
set_option maxRecDepth 20000 in
theorem i_X3_follow (b1 : Nat) (a2 : Int32) (a3 : Int32) (a4 : Int32) (a5 : Int32) (σ : Sg) (τ : Sl) (hb1 : isSl b1) (Q : Option Value → Hp → Prop) : Imp (f_X3_follow b1 a2 a3 a4 a5 σ τ) (fun (y : Sl) => Q (none) (mk σ y)) (Go M_X3_follow Q 0 0 0 [some (.ref 27), some (.ref b1), some (.int a2), some (.int a3), some (.int a4), some (.int a5), none, none, none, none, none] [] (mk σ τ)) := by
  unfold f_X3_follow
  refine im_st (r_aload_n (i := 0) dX3_follow_0 rfl rfl rfl) ?_
  refine im_st (r_lconst (v := 0) dX3_follow_1 rfl rfl) ?_
  refine im_st (s_putJ (tag := 3) (j := 0) dX3_follow_2 rfl fl_X3_9 rfl (Nat.le_of_ble_eq_true rfl) rfl fw_3_0) ?_
  refine im_st (r_aload_n (i := 0) dX3_follow_5 rfl rfl rfl) ?_
  refine im_st (r_lconst (v := 0) dX3_follow_6 rfl rfl) ?_
  refine im_app (Gm := fun (τ1 : Sl) => Go M_X3_follow Q 0 0 7 [some (.ref 27), some (.ref b1), some (.int a2), some (.int a3), some (.int a4), some (.int a5), none, none, none, none, none] [.long (0 : Int64), .ref 27] (mk σ τ1)) (fun τ1 => ?_)
  refine im_st (s_putJ (tag := 3) (j := 1) dX3_follow_7 rfl fl_X3_15 rfl (Nat.le_of_ble_eq_true rfl) rfl fw_3_1) ?_
  refine im_st (r_aload_n (i := 0) dX3_follow_10 rfl rfl rfl) ?_
  refine im_st (s_getR (b := 28) (tag := 3) (j := 2) dX3_follow_11 rfl fl_X3_18 rfl (Nat.le_of_ble_eq_true rfl) rfl rfl) ?_
  refine im_st (r_lconst (v := 0) dX3_follow_14 rfl rfl) ?_
  refine im_app (Gm := fun (τ2 : Sl) => Go M_X3_follow Q 0 0 15 [some (.ref 27), some (.ref b1), some (.int a2), some (.int a3), some (.int a4), some (.int a5), none, none, none, none, none] [.long (0 : Int64), .ref 28] (mk σ τ2)) (fun τ2 => ?_)
  refine im_st (r_callS (r := none) (kc1 := 0) (ks1 := 0) (st := []) (st1 := []) (es_J7_fill_d0a16 28 80 (0 : Int64) σ τ2 rfl (Nat.le_of_ble_eq_true rfl) (by decide)) ms_J7_fill_d0a16 lk_X3_25 ⟨by decide, by decide⟩ ⟨by decide, by decide⟩ (Nat.le_of_ble_eq_true rfl) dX3_follow_15 rfl rfl rfl rfl rfl) ?_
  refine im_st (r_aload_n (i := 1) dX3_follow_18 rfl rfl rfl) ?_
  refine im_st (r_iload_n (i := 3) dX3_follow_19 rfl rfl rfl) ?_
  refine im_st (r_callV (as := [.int a3]) (r := some (.int (f_X7_isHedgehog b1 a3 σ))) (kc1 := 0) (ks1 := 0) (st := []) (st1 := [.int (f_X7_isHedgehog b1 a3 σ)]) (e_X7_isHedgehog b1 a3 σ (upR τ2 28 (fillR (τ2 28) 80 (0 : Int64))) hb1) mv_X7_isHedgehog lk_X3_31 ⟨by decide, by decide⟩ (sl_sh hb1) (sl_lt hb1) (by decide) ⟨_, rfl, rfl⟩ ⟨by decide, by decide⟩ (Nat.le_of_ble_eq_true rfl) dX3_follow_20 rfl rfl rfl rfl rfl) ?_
  refine im_br (r_if_eq (tgt := 34) dX3_follow_23 rfl (by decide)) (fun c3 => ?_) (fun c3 => ?_)
  · exact im_ret (fun q => g_vret rfl rfl rfl dX3_follow_34 q)
  · refine im_st (r_iload (i := 4) dX3_follow_26 rfl rfl) ?_
    refine im_st (r_callS (as := [.int a4]) (r := some (.int (f_X7_isColumn a4))) (kc1 := 0) (ks1 := 0) (st := []) (st1 := [.int (f_X7_isColumn a4)]) (e_X7_isColumn a4 σ (upR τ2 28 (fillR (τ2 28) 80 (0 : Int64)))) ms_X7_isColumn lk_X3_37 ⟨by decide, by decide⟩ ⟨by decide, by decide⟩ (Nat.le_of_ble_eq_true rfl) dX3_follow_28 rfl rfl rfl rfl rfl) ?_
    refine im_br (r_if_ne (tgt := 35) dX3_follow_31 rfl (by decide)) (fun c4 => ?_) (fun c4 => ?_)
    · exact im_ret (fun q => g_vret rfl rfl rfl dX3_follow_34 q)
    · refine im_st (r_aload_n (i := 1) dX3_follow_35 rfl rfl rfl) ?_
      refine im_st (s_getR (b := (b1 + 4)) (tag := 7) (j := 5) dX3_follow_36 rfl fl_X3_40 (sl_sh hb1) (sl_lt hb1) rfl (sl_rf5 hb1)) ?_
      refine im_st (r_iload_n (i := 3) dX3_follow_39 rfl rfl rfl) ?_
      refine im_grd (fun g5 => ?_)
      refine im_st (s_iaload dX3_follow_40 rfl (sl_sh4 hb1) (sl_lt4 hb1) (inR_in g5)) ?_
      refine im_app (Gm := fun (v6 : Int32) => Go M_X3_follow Q 0 0 41 [some (.ref 27), some (.ref b1), some (.int a2), some (.int a3), some (.int a4), some (.int a5), none, none, none, none, none] [.int v6] (mk σ (upR τ2 28 (fillR (τ2 28) 80 (0 : Int64))))) (fun v6 => ?_)
      refine im_st (r_istore (i := 6) (L1 := [some (.ref 27), some (.ref b1), some (.int a2), some (.int a3), some (.int a4), some (.int a5), some (.int v6), none, none, none, none]) dX3_follow_41 rfl (by decide) rfl) ?_
      refine im_st (r_aload_n (i := 0) dX3_follow_43 rfl rfl rfl) ?_
      refine im_st (s_getR (b := 28) (tag := 3) (j := 2) dX3_follow_44 rfl fl_X3_18 rfl (Nat.le_of_ble_eq_true rfl) rfl rfl) ?_
      refine im_st (r_iload (i := 4) dX3_follow_47 rfl rfl) ?_
      refine im_st (r_aload_n (i := 1) dX3_follow_49 rfl rfl rfl) ?_
      refine im_st (s_getR (b := (b1 + 5)) (tag := 7) (j := 6) dX3_follow_50 rfl fl_X3_44 (sl_sh hb1) (sl_lt hb1) rfl (sl_rf6 hb1)) ?_
      refine im_st (r_iload_n (i := 3) dX3_follow_53 rfl rfl rfl) ?_
      refine im_grd (fun g7 => ?_)
      refine im_st (s_iaload dX3_follow_54 rfl (sl_sh5 hb1) (sl_lt5 hb1) (inR_in g7)) ?_
      refine im_st (r_ldc2 (v := 10000000000) dX3_follow_55 rfl q822) ?_
      refine im_app (Gm := fun (τ8 : Sl) => Go M_X3_follow Q 0 0 58 [some (.ref 27), some (.ref b1), some (.int a2), some (.int a3), some (.int a4), some (.int a5), some (.int v6), none, none, none, none] [.long (10000000000 : Int64), .int (σ (b1 + 5) a3.toNatClampNeg), .int a4, .ref 28] (mk σ τ8)) (fun τ8 => ?_)
      refine im_bind (fun y9 hy9 => ?_)
      refine im_st (r_callS (as := [.ref 28, .int a4, .int (σ (b1 + 5) a3.toNatClampNeg), .long (10000000000 : Int64)]) (r := none) (kc1 := 0) (ks1 := 0) (st := []) (st1 := []) (e_X3_add 28 a4 (σ (b1 + 5) a3.toNatClampNeg) (10000000000 : Int64) σ τ8 (lwc_28) y9 hy9) ms_X3_add lk_X3_49 ⟨by decide, by decide⟩ ⟨by decide, by decide⟩ (Nat.le_of_ble_eq_true rfl) dX3_follow_58 rfl rfl rfl rfl rfl) ?_
      refine im_st (r_iconst (v := 0) dX3_follow_61 rfl kI_0) ?_
      refine im_st (r_istore (i := 7) (L1 := [some (.ref 27), some (.ref b1), some (.int a2), some (.int a3), some (.int a4), some (.int a5), some (.int v6), some (.int (0 : Int32)), none, none, none]) dX3_follow_62 rfl (by decide) rfl) ?_
      refine im_st (r_fgt (L1 := [some (.ref 27), some (.ref b1), some (.int a2), none, none, some (.int a5), some (.int v6), some (.int (0 : Int32)), none, none, none]) [3, 4] rfl) ?_
      refine im_seq (Gm := fun (e25 : (Int32 × Sl)) => Go M_X3_follow Q 0 0 187 [none, none, none, none, none, none, none, none, none, none, none] [] (mk σ e25.2)) ?_ (fun e25 => ?_)
      · refine im_wh (G := fun (s10 : (Int32 × Sl)) => Go M_X3_follow Q 0 0 64 [some (.ref 27), some (.ref b1), some (.int a2), none, none, some (.int a5), some (.int v6), some (.int s10.1), none, none, none] [] (mk σ s10.2)) (fun s10 => ?_) _ _
        unfold b_X3_follow_64
        refine im_st (r_iload (i := 7) dX3_follow_64 rfl rfl) ?_
        refine im_st (r_bipush (v := 10) dX3_follow_66 rfl kB_10) ?_
        refine im_br (r_icmp_ge (tgt := 187) dX3_follow_68 rfl (by decide)) (fun c11 => ?_) (fun c11 => ?_)
        · refine im_st (r_fgt (L1 := [none, none, none, none, none, none, none, none, none, none, none]) [0, 1, 2, 5, 6, 7] rfl) ?_
          exact im_ret id
        · refine im_st (r_aload_n (i := 0) dX3_follow_71 rfl rfl rfl) ?_
          refine im_st (s_getR (b := 29) (tag := 3) (j := 3) dX3_follow_72 rfl fl_X3_22 rfl (Nat.le_of_ble_eq_true rfl) rfl rfl) ?_
          refine im_st (r_lconst (v := 0) dX3_follow_75 rfl rfl) ?_
          refine im_st (r_callS (r := none) (kc1 := 0) (ks1 := 0) (st := []) (st1 := []) (es_J7_fill_d0a16 29 80 (0 : Int64) σ s10.2 rfl (Nat.le_of_ble_eq_true rfl) (by decide)) ms_J7_fill_d0a16 lk_X3_25 ⟨by decide, by decide⟩ ⟨by decide, by decide⟩ (Nat.le_of_ble_eq_true rfl) dX3_follow_76 rfl rfl rfl rfl rfl) ?_
          refine im_st (r_iconst (v := 0) dX3_follow_79 rfl kI_0) ?_
          refine im_st (r_istore (i := 8) (L1 := [some (.ref 27), some (.ref b1), some (.int a2), none, none, some (.int a5), some (.int v6), some (.int s10.1), some (.int (0 : Int32)), none, none]) dX3_follow_80 rfl (by decide) rfl) ?_
          refine im_app (Gm := fun (τ12 : Sl) => Go M_X3_follow Q 0 0 82 [some (.ref 27), some (.ref b1), some (.int a2), none, none, some (.int a5), some (.int v6), some (.int s10.1), some (.int (0 : Int32)), none, none] [] (mk σ τ12)) (fun τ12 => ?_)
          refine im_seq (Gm := fun (e24 : (Int32 × Sl)) => Go M_X3_follow Q 0 0 166 [some (.ref 27), some (.ref b1), some (.int a2), none, none, some (.int a5), some (.int v6), some (.int s10.1), none, none, none] [] (mk σ e24.2)) ?_ (fun e24 => ?_)
          · refine im_wh (G := fun (s13 : (Int32 × Sl)) => Go M_X3_follow Q 0 0 82 [some (.ref 27), some (.ref b1), some (.int a2), none, none, some (.int a5), some (.int v6), some (.int s10.1), some (.int s13.1), none, none] [] (mk σ s13.2)) (fun s13 => ?_) _ _
            unfold b_X3_follow_82
            refine im_st (r_iload (i := 8) dX3_follow_82 rfl rfl) ?_
            refine im_st (r_bipush (v := 8) dX3_follow_84 rfl kB_8) ?_
            refine im_br (r_icmp_ge (tgt := 166) dX3_follow_86 rfl (by decide)) (fun c14 => ?_) (fun c14 => ?_)
            · refine im_st (r_fgt (L1 := [some (.ref 27), some (.ref b1), some (.int a2), none, none, some (.int a5), some (.int v6), some (.int s10.1), none, none, none]) [8] rfl) ?_
              exact im_ret id
            · refine im_st (r_aload_n (i := 1) dX3_follow_89 rfl rfl rfl) ?_
              refine im_st (r_bipush (v := 10) dX3_follow_90 rfl kB_10) ?_
              refine im_st (r_iload (i := 7) dX3_follow_92 rfl rfl) ?_
              refine im_st (r_imul dX3_follow_94 rfl) ?_
              refine im_st (r_iload (i := 8) dX3_follow_95 rfl rfl) ?_
              refine im_st (r_iadd dX3_follow_97 rfl) ?_
              refine im_bind (fun y15 hy15 => ?_)
              refine im_st (r_callV (as := [.int (((10 : Int32) * s10.1) + s13.1)]) (r := some (.int y15)) (kc1 := 0) (ks1 := 0) (st := []) (st1 := [.int y15]) (e_X7_standingAt b1 (((10 : Int32) * s10.1) + s13.1) σ s13.2 hb1 y15 hy15) mv_X7_standingAt lk_X3_53 ⟨by decide, by decide⟩ (sl_sh hb1) (sl_lt hb1) (by decide) ⟨_, rfl, rfl⟩ ⟨by decide, by decide⟩ (Nat.le_of_ble_eq_true rfl) dX3_follow_98 rfl rfl rfl rfl rfl) ?_
              refine im_st (r_istore (i := 9) (L1 := [some (.ref 27), some (.ref b1), some (.int a2), none, none, some (.int a5), some (.int v6), some (.int s10.1), some (.int s13.1), some (.int y15), none]) dX3_follow_101 rfl (by decide) rfl) ?_
              refine im_st (r_aload_n (i := 1) dX3_follow_103 rfl rfl rfl) ?_
              refine im_st (r_iload (i := 9) dX3_follow_104 rfl rfl) ?_
              refine im_st (r_callV (as := [.int y15]) (r := some (.int (f_X7_isPeg b1 y15 σ))) (kc1 := 0) (ks1 := 0) (st := []) (st1 := [.int (f_X7_isPeg b1 y15 σ)]) (e_X7_isPeg b1 y15 σ s13.2 hb1) mv_X7_isPeg lk_X3_57 ⟨by decide, by decide⟩ (sl_sh hb1) (sl_lt hb1) (by decide) ⟨_, rfl, rfl⟩ ⟨by decide, by decide⟩ (Nat.le_of_ble_eq_true rfl) dX3_follow_106 rfl rfl rfl rfl rfl) ?_
              refine im_seq (Gm := fun (j16 : Sl) => Go M_X3_follow Q 0 0 160 [some (.ref 27), some (.ref b1), some (.int a2), none, none, some (.int a5), some (.int v6), some (.int s10.1), some (.int s13.1), none, none] [] (mk σ j16)) ?_ (fun j16 => ?_)
              · refine im_br (r_if_eq (tgt := 147) dX3_follow_109 rfl (by decide)) (fun c17 => ?_) (fun c17 => ?_)
                · refine im_st (r_iload (i := 9) dX3_follow_147 rfl rfl) ?_
                  refine im_st (r_bipush (v := -2) dX3_follow_149 rfl kB_m2) ?_
                  refine im_br (r_icmp_eq (tgt := 160) dX3_follow_151 rfl (by decide)) (fun c18 => ?_) (fun c18 => ?_)
                  · refine im_st (r_fgt (L1 := [some (.ref 27), some (.ref b1), some (.int a2), none, none, some (.int a5), some (.int v6), some (.int s10.1), some (.int s13.1), none, none]) [9] rfl) ?_
                    exact im_ret id
                  · refine im_st (r_aload_n (i := 0) dX3_follow_154 rfl rfl rfl) ?_
                    refine im_st (r_iload (i := 8) dX3_follow_155 rfl rfl) ?_
                    refine im_bind (fun y19 hy19 => ?_)
                    refine im_st (r_callV (as := [.int s13.1]) (r := none) (kc1 := 0) (ks1 := 0) (st := []) (st1 := []) (e_X3_goOn s13.1 σ s13.2 y19 hy19) mv_X3_goOn lk_X3_67 ⟨by decide, by decide⟩ rfl (Nat.le_of_ble_eq_true rfl) (by decide) ⟨_, rfl, rfl⟩ ⟨by decide, by decide⟩ (Nat.le_of_ble_eq_true rfl) dX3_follow_157 rfl rfl rfl rfl rfl) ?_
                    refine im_st (r_fgt (L1 := [some (.ref 27), some (.ref b1), some (.int a2), none, none, some (.int a5), some (.int v6), some (.int s10.1), some (.int s13.1), none, none]) [9] rfl) ?_
                    exact im_ret id
                · refine im_st (r_aload_n (i := 1) dX3_follow_112 rfl rfl rfl) ?_
                  refine im_st (s_getR (b := (b1 + 2)) (tag := 7) (j := 1) dX3_follow_113 rfl fl_X3_60 (sl_sh hb1) (sl_lt hb1) rfl (sl_rf1 hb1)) ?_
                  refine im_st (r_iload (i := 9) dX3_follow_116 rfl rfl) ?_
                  refine im_grd (fun g20 => ?_)
                  refine im_st (s_iaload dX3_follow_118 rfl (sl_sh2 hb1) (sl_lt2 hb1) (inR_in g20)) ?_
                  refine im_st (r_iload (i := 5) dX3_follow_119 rfl rfl) ?_
                  refine im_seqT (Gm := fun (j21 : Int32) => Go M_X3_follow Q 0 0 129 [some (.ref 27), some (.ref b1), some (.int a2), none, none, some (.int a5), some (.int v6), some (.int s10.1), some (.int s13.1), none, none] [.int j21] (mk σ s13.2)) ?_ (fun j21 => ?_)
                  · refine im_brS (r_icmp_ne (tgt := 128) dX3_follow_121 rfl (by decide)) (fun c22 => ?_) (fun c22 => ?_)
                    · refine im_st (r_iconst (v := 1) dX3_follow_124 rfl kI_1) ?_
                      refine im_st (r_goto (pc1 := 129) dX3_follow_125 (by decide)) ?_
                      refine im_st (r_fgt (L1 := [some (.ref 27), some (.ref b1), some (.int a2), none, none, some (.int a5), some (.int v6), some (.int s10.1), some (.int s13.1), none, none]) [9] rfl) ?_
                      exact im_ret id
                    · refine im_st (r_iconst (v := 0) dX3_follow_128 rfl kI_0) ?_
                      refine im_st (r_fgt (L1 := [some (.ref 27), some (.ref b1), some (.int a2), none, none, some (.int a5), some (.int v6), some (.int s10.1), some (.int s13.1), none, none]) [9] rfl) ?_
                      exact im_ret id
                  refine im_st (r_istore (i := 10) (L1 := [some (.ref 27), some (.ref b1), some (.int a2), none, none, some (.int a5), some (.int v6), some (.int s10.1), some (.int s13.1), none, some (.int j21)]) dX3_follow_129 rfl (by decide) rfl) ?_
                  refine im_st (r_aload_n (i := 0) dX3_follow_131 rfl rfl rfl) ?_
                  refine im_st (r_iload (i := 6) dX3_follow_132 rfl rfl) ?_
                  refine im_st (r_iload (i := 7) dX3_follow_134 rfl rfl) ?_
                  refine im_st (r_iload (i := 8) dX3_follow_136 rfl rfl) ?_
                  refine im_st (r_iload_n (i := 2) dX3_follow_138 rfl rfl rfl) ?_
                  refine im_st (r_iload (i := 10) dX3_follow_139 rfl rfl) ?_
                  refine im_bind (fun y23 hy23 => ?_)
                  refine im_st (r_callV (as := [.int v6, .int s10.1, .int s13.1, .int a2, .int j21]) (r := none) (kc1 := 0) (ks1 := 0) (st := []) (st1 := []) (e_X3_meet v6 s10.1 s13.1 a2 j21 σ s13.2 y23 hy23) mv_X3_meet lk_X3_63 ⟨by decide, by decide⟩ rfl (Nat.le_of_ble_eq_true rfl) (by decide) ⟨_, rfl, rfl⟩ ⟨by decide, by decide⟩ (Nat.le_of_ble_eq_true rfl) dX3_follow_141 rfl rfl rfl rfl rfl) ?_
                  refine im_st (r_goto (pc1 := 160) dX3_follow_144 (by decide)) ?_
                  refine im_st (r_fgt (L1 := [some (.ref 27), some (.ref b1), some (.int a2), none, none, some (.int a5), some (.int v6), some (.int s10.1), some (.int s13.1), none, none]) [10] rfl) ?_
                  exact im_ret id
              refine im_st (r_iinc (i := 8) (x := s13.1) (v := (s13.1 + 1)) (L1 := [some (.ref 27), some (.ref b1), some (.int a2), none, none, some (.int a5), some (.int v6), some (.int s10.1), some (.int (s13.1 + 1)), none, none]) dX3_follow_160 rfl rfl rfl (by decide) rfl) ?_
              refine im_st (r_goto (pc1 := 82) dX3_follow_163 (by decide)) ?_
              exact im_ret id
          refine im_st (r_aload_n (i := 0) dX3_follow_166 rfl rfl rfl) ?_
          refine im_st (s_getR (b := 29) (tag := 3) (j := 3) dX3_follow_167 rfl fl_X3_22 rfl (Nat.le_of_ble_eq_true rfl) rfl rfl) ?_
          refine im_st (r_iconst (v := 0) dX3_follow_170 rfl kI_0) ?_
          refine im_st (r_aload_n (i := 0) dX3_follow_171 rfl rfl rfl) ?_
          refine im_st (s_getR (b := 28) (tag := 3) (j := 2) dX3_follow_172 rfl fl_X3_18 rfl (Nat.le_of_ble_eq_true rfl) rfl rfl) ?_
          refine im_st (r_iconst (v := 0) dX3_follow_175 rfl kI_0) ?_
          refine im_st (r_bipush (v := 80) dX3_follow_176 rfl kB_80) ?_
          refine im_st (s_copyJ (sN := 0) (dN := 0) (kN := 80) lk_X3_71 rfl (Nat.le_of_ble_eq_true rfl) rfl (Nat.le_of_ble_eq_true rfl) (by decide) (by decide) (by decide) rfl rfl rfl (by decide) (by decide) (by decide) (Nat.le_of_ble_eq_true rfl) dX3_follow_178 rfl) ?_
          refine im_st (r_iinc (i := 7) (x := s10.1) (v := (s10.1 + 1)) (L1 := [some (.ref 27), some (.ref b1), some (.int a2), none, none, some (.int a5), some (.int v6), some (.int (s10.1 + 1)), none, none, none]) dX3_follow_181 rfl rfl rfl (by decide) rfl) ?_
          refine im_st (r_goto (pc1 := 64) dX3_follow_184 (by decide)) ?_
          exact im_ret id
      exact im_ret (fun q => g_vret rfl rfl rfl dX3_follow_187 q)
theorem e_X3_follow (b1 : Nat) (a2 : Int32) (a3 : Int32) (a4 : Int32) (a5 : Int32) (σ : Sg) (τ : Sl) (hb1 : isSl b1) (y : Sl) (hy : f_X3_follow b1 a2 a3 a4 a5 σ τ = some y) : EvD M_X3_follow [.ref 27, .ref b1, .int a2, .int a3, .int a4, .int a5] (mk σ τ) (none) (mk σ y) := EvM.of (by decide +kernel) (Nat.le_of_ble_eq_true rfl) (i_X3_follow b1 a2 a3 a4 a5 σ τ hb1 _ y hy ⟨rfl, rfl⟩)
def M_X8_byteAt : Ms := (yX8_byteAt, cX8_byteAt, 2, some .int, 0, 0, 0, 0)
theorem mv_X8_byteAt : MV M_X8_byteAt 1 := ⟨⟨q374, q9, by decide, by decide, by decide +kernel⟩, q372, q373⟩
def f_X8_byteAt (a1 : Int32) (σ : Sg) : Option Int32 :=
  if a1 < 0 then
    some (-1 : Int32)
  else
    if (σ 54 1) ≤ a1 then
      some (-1 : Int32)
    else
      if (160 : Int32) ≤ a1 then
        some (-1 : Int32)
      else
        if inR a1 160 then
        some (σ 55 a1.toNatClampNeg)
        else none
set_option maxHeartbeats 4000000 in
set_option maxRecDepth 20000 in
theorem i_X8_byteAt (a1 : Int32) (σ : Sg) (τ : Sl) (Q : Option Value → Hp → Prop) : Imp (f_X8_byteAt a1 σ) (fun (y : Int32) => Q (some (.int y)) (mk σ τ)) (Go M_X8_byteAt Q 0 0 0 [some (.ref 54), some (.int a1)] [] (mk σ τ)) := by
  unfold f_X8_byteAt
  refine im_st (r_iload_n (i := 1) dX8_byteAt_0 rfl rfl rfl) ?_
  refine im_br (r_if_lt (tgt := 28) dX8_byteAt_1 rfl (by decide)) (fun c1 => ?_) (fun c1 => ?_)
  · refine im_st (r_iconst (v := -1) dX8_byteAt_28 rfl kI_m1) ?_
    exact im_ret (fun q => g_iret rfl rfl rfl dX8_byteAt_29 q)
  · refine im_st (r_iload_n (i := 1) dX8_byteAt_4 rfl rfl rfl) ?_
    refine im_st (r_aload_n (i := 0) dX8_byteAt_5 rfl rfl rfl) ?_
    refine im_st (s_getI (tag := 8) (j := 1) dX8_byteAt_6 rfl fl_X8_15 rfl (Nat.le_of_ble_eq_true rfl) rfl) ?_
    refine im_br (r_icmp_ge (tgt := 28) dX8_byteAt_9 rfl (by decide)) (fun c2 => ?_) (fun c2 => ?_)
    · refine im_st (r_iconst (v := -1) dX8_byteAt_28 rfl kI_m1) ?_
      exact im_ret (fun q => g_iret rfl rfl rfl dX8_byteAt_29 q)
    · refine im_st (r_iload_n (i := 1) dX8_byteAt_12 rfl rfl rfl) ?_
      refine im_st (r_sipush (v := 160) dX8_byteAt_13 rfl kS_160) ?_
      refine im_br (r_icmp_ge (tgt := 28) dX8_byteAt_16 rfl (by decide)) (fun c3 => ?_) (fun c3 => ?_)
      · refine im_st (r_iconst (v := -1) dX8_byteAt_28 rfl kI_m1) ?_
        exact im_ret (fun q => g_iret rfl rfl rfl dX8_byteAt_29 q)
      · refine im_st (r_aload_n (i := 0) dX8_byteAt_19 rfl rfl rfl) ?_
        refine im_st (s_getR (b := 55) (tag := 8) (j := 0) dX8_byteAt_20 rfl fl_X8_9 rfl (Nat.le_of_ble_eq_true rfl) rfl rfl) ?_
        refine im_st (r_iload_n (i := 1) dX8_byteAt_23 rfl rfl rfl) ?_
        refine im_grd (fun g4 => ?_)
        refine im_st (s_iaload dX8_byteAt_24 rfl rfl (Nat.le_of_ble_eq_true rfl) (inR_in g4)) ?_
        refine im_st (r_goto (pc1 := 29) dX8_byteAt_25 (by decide)) ?_
        exact im_ret (fun q => g_iret rfl rfl rfl dX8_byteAt_29 q)
theorem e_X8_byteAt (a1 : Int32) (σ : Sg) (τ : Sl) (y : Int32) (hy : f_X8_byteAt a1 σ = some y) : EvD M_X8_byteAt [.ref 54, .int a1] (mk σ τ) (some (.int y)) (mk σ τ) := EvM.of (by decide +kernel) (Nat.le_of_ble_eq_true rfl) (i_X8_byteAt a1 σ τ _ y hy ⟨rfl, rfl⟩)
def M_X8_endOfRun : Ms := (yX8_endOfRun, cX8_endOfRun, 5, some .int, 1, 13, 0, 0)
theorem mv_X8_endOfRun : MV M_X8_endOfRun 3 := ⟨⟨q367, q9, by decide, by decide, by decide +kernel⟩, q365, q366⟩
def b_X8_endOfRun_7 (a2 : Int32) (a3 : Int32) (σ : Sg) : Int32 → Option (Int32 ⊕ Int32) := fun (s1 : Int32) =>
  if (σ 54 1) ≤ s1 then
    some (.inr s1)
  else
    if (160 : Int32) ≤ s1 then
      some (.inr s1)
    else
      if inR s1 160 then
      if (σ 55 s1.toNatClampNeg) < a2 then
        some (.inr s1)
      else
        if inR s1 160 then
        if a3 < (σ 55 s1.toNatClampNeg) then
          some (.inr s1)
        else
          some (.inl (s1 + 1))
        else none
      else none
def f_X8_endOfRun (a1 : Int32) (a2 : Int32) (a3 : Int32) (σ : Sg) : Option Int32 :=
  (wh (b_X8_endOfRun_7 a2 a3 σ) 4096 (iMax (0 : Int32) a1)).bind fun (e8 : Int32) =>
  some e8
set_option maxHeartbeats 4000000 in
set_option maxRecDepth 20000 in
theorem i_X8_endOfRun (a1 : Int32) (a2 : Int32) (a3 : Int32) (σ : Sg) (τ : Sl) (Q : Option Value → Hp → Prop) : Imp (f_X8_endOfRun a1 a2 a3 σ) (fun (y : Int32) => Q (some (.int y)) (mk σ τ)) (Go M_X8_endOfRun Q 0 0 0 [some (.ref 54), some (.int a1), some (.int a2), some (.int a3), none] [] (mk σ τ)) := by
  unfold f_X8_endOfRun
  refine im_st (r_iconst (v := 0) dX8_endOfRun_0 rfl kI_0) ?_
  refine im_st (r_iload_n (i := 1) dX8_endOfRun_1 rfl rfl rfl) ?_
  refine im_st (s_iMax lk_X8_19 (by decide) (Nat.le_of_ble_eq_true rfl) dX8_endOfRun_2 rfl) ?_
  refine im_st (r_istore (i := 4) (L1 := [some (.ref 54), some (.int a1), some (.int a2), some (.int a3), some (.int (iMax (0 : Int32) a1))]) dX8_endOfRun_5 rfl (by decide) rfl) ?_
  refine im_st (r_fgt (L1 := [some (.ref 54), none, some (.int a2), some (.int a3), some (.int (iMax (0 : Int32) a1))]) [1] rfl) ?_
  refine im_seq (Gm := fun (e8 : Int32) => Go M_X8_endOfRun Q 0 0 52 [none, none, none, none, some (.int e8)] [] (mk σ τ)) ?_ (fun e8 => ?_)
  · refine im_wh (G := fun (s1 : Int32) => Go M_X8_endOfRun Q 0 0 7 [some (.ref 54), none, some (.int a2), some (.int a3), some (.int s1)] [] (mk σ τ)) (fun s1 => ?_) _ _
    unfold b_X8_endOfRun_7
    refine im_st (r_iload (i := 4) dX8_endOfRun_7 rfl rfl) ?_
    refine im_st (r_aload_n (i := 0) dX8_endOfRun_9 rfl rfl rfl) ?_
    refine im_st (s_getI (tag := 8) (j := 1) dX8_endOfRun_10 rfl fl_X8_15 rfl (Nat.le_of_ble_eq_true rfl) rfl) ?_
    refine im_br (r_icmp_ge (tgt := 52) dX8_endOfRun_13 rfl (by decide)) (fun c2 => ?_) (fun c2 => ?_)
    · refine im_st (r_fgt (L1 := [none, none, none, none, some (.int s1)]) [0, 2, 3] rfl) ?_
      exact im_ret id
    · refine im_st (r_iload (i := 4) dX8_endOfRun_16 rfl rfl) ?_
      refine im_st (r_sipush (v := 160) dX8_endOfRun_18 rfl kS_160) ?_
      refine im_br (r_icmp_ge (tgt := 52) dX8_endOfRun_21 rfl (by decide)) (fun c3 => ?_) (fun c3 => ?_)
      · refine im_st (r_fgt (L1 := [none, none, none, none, some (.int s1)]) [0, 2, 3] rfl) ?_
        exact im_ret id
      · refine im_st (r_aload_n (i := 0) dX8_endOfRun_24 rfl rfl rfl) ?_
        refine im_st (s_getR (b := 55) (tag := 8) (j := 0) dX8_endOfRun_25 rfl fl_X8_9 rfl (Nat.le_of_ble_eq_true rfl) rfl rfl) ?_
        refine im_st (r_iload (i := 4) dX8_endOfRun_28 rfl rfl) ?_
        refine im_grd (fun g4 => ?_)
        refine im_st (s_iaload dX8_endOfRun_30 rfl rfl (Nat.le_of_ble_eq_true rfl) (inR_in g4)) ?_
        refine im_st (r_iload_n (i := 2) dX8_endOfRun_31 rfl rfl rfl) ?_
        refine im_br (r_icmp_lt (tgt := 52) dX8_endOfRun_32 rfl (by decide)) (fun c5 => ?_) (fun c5 => ?_)
        · refine im_st (r_fgt (L1 := [none, none, none, none, some (.int s1)]) [0, 2, 3] rfl) ?_
          exact im_ret id
        · refine im_st (r_aload_n (i := 0) dX8_endOfRun_35 rfl rfl rfl) ?_
          refine im_st (s_getR (b := 55) (tag := 8) (j := 0) dX8_endOfRun_36 rfl fl_X8_9 rfl (Nat.le_of_ble_eq_true rfl) rfl rfl) ?_
          refine im_st (r_iload (i := 4) dX8_endOfRun_39 rfl rfl) ?_
          refine im_grd (fun g6 => ?_)
          refine im_st (s_iaload dX8_endOfRun_41 rfl rfl (Nat.le_of_ble_eq_true rfl) (inR_in g6)) ?_
          refine im_st (r_iload_n (i := 3) dX8_endOfRun_42 rfl rfl rfl) ?_
          refine im_br (r_icmp_gt (tgt := 52) dX8_endOfRun_43 rfl (by decide)) (fun c7 => ?_) (fun c7 => ?_)
          · refine im_st (r_fgt (L1 := [none, none, none, none, some (.int s1)]) [0, 2, 3] rfl) ?_
            exact im_ret id
          · refine im_st (r_iinc (i := 4) (x := s1) (v := (s1 + 1)) (L1 := [some (.ref 54), none, some (.int a2), some (.int a3), some (.int (s1 + 1))]) dX8_endOfRun_46 rfl rfl rfl (by decide) rfl) ?_
            refine im_st (r_goto (pc1 := 7) dX8_endOfRun_49 (by decide)) ?_
            exact im_ret id
  refine im_st (r_iload (i := 4) dX8_endOfRun_52 rfl rfl) ?_
  exact im_ret (fun q => g_iret rfl rfl rfl dX8_endOfRun_54 q)
theorem e_X8_endOfRun (a1 : Int32) (a2 : Int32) (a3 : Int32) (σ : Sg) (τ : Sl) (y : Int32) (hy : f_X8_endOfRun a1 a2 a3 σ = some y) : EvD M_X8_endOfRun [.ref 54, .int a1, .int a2, .int a3] (mk σ τ) (some (.int y)) (mk σ τ) := EvM.of (by decide +kernel) (Nat.le_of_ble_eq_true rfl) (i_X8_endOfRun a1 a2 a3 σ τ _ y hy ⟨rfl, rfl⟩)
def M_X5_add : Ms := (yX5_add, cX5_add, 4, some .int, 0, 0, 0, 0)
theorem mv_X5_add : MV M_X5_add 3 := ⟨⟨q856, q8, by decide, by decide, by decide +kernel⟩, q854, q855⟩
def f_X5_add (a1 : Int32) (a2 : Int32) (a3 : Int32) (σ : Sg) : Option (Int32 × Sg) :=
  if (σ 30 3) < (6 : Int32) then
    if inR (σ 30 3) 6 then
    app (up2 σ 31 (σ 30 3).toNatClampNeg a1) fun (σ3 : Sg) =>
    if inR (σ3 30 3) 6 then
    app (up2 σ3 32 (σ3 30 3).toNatClampNeg a2) fun (σ5 : Sg) =>
    if inR (σ5 30 3) 6 then
    app (up2 σ5 33 (σ5 30 3).toNatClampNeg a3) fun (σ7 : Sg) =>
    app (up2 σ7 30 3 ((σ7 30 3) + (1 : Int32))) fun (σ8 : Sg) =>
    some ((σ8 30 3), σ8)
    else none
    else none
    else none
  else
    some ((-3 : Int32), σ)
set_option maxHeartbeats 4000000 in
set_option maxRecDepth 20000 in
theorem i_X5_add (a1 : Int32) (a2 : Int32) (a3 : Int32) (σ : Sg) (τ : Sl) (Q : Option Value → Hp → Prop) : Imp (f_X5_add a1 a2 a3 σ) (fun (y : (Int32 × Sg)) => Q (some (.int y.1)) (mk y.2 τ)) (Go M_X5_add Q 0 0 0 [some (.ref 30), some (.int a1), some (.int a2), some (.int a3)] [] (mk σ τ)) := by
  unfold f_X5_add
  refine im_st (r_aload_n (i := 0) dX5_add_0 rfl rfl rfl) ?_
  refine im_st (s_getI (tag := 5) (j := 3) dX5_add_1 rfl fl_X5_21 rfl (Nat.le_of_ble_eq_true rfl) rfl) ?_
  refine im_st (r_bipush (v := 6) dX5_add_4 rfl kB_6) ?_
  refine im_br (r_icmp_lt (tgt := 12) dX5_add_6 rfl (by decide)) (fun c1 => ?_) (fun c1 => ?_)
  · refine im_st (r_aload_n (i := 0) dX5_add_12 rfl rfl rfl) ?_
    refine im_st (s_getR (b := 31) (tag := 5) (j := 0) dX5_add_13 rfl fl_X5_9 rfl (Nat.le_of_ble_eq_true rfl) rfl rfl) ?_
    refine im_st (r_aload_n (i := 0) dX5_add_16 rfl rfl rfl) ?_
    refine im_st (s_getI (tag := 5) (j := 3) dX5_add_17 rfl fl_X5_21 rfl (Nat.le_of_ble_eq_true rfl) rfl) ?_
    refine im_st (r_iload_n (i := 1) dX5_add_20 rfl rfl rfl) ?_
    refine im_grd (fun g2 => ?_)
    refine im_st (s_iastore dX5_add_21 rfl rfl (Nat.le_of_ble_eq_true rfl) (inR_in g2)) ?_
    refine im_st (r_aload_n (i := 0) dX5_add_22 rfl rfl rfl) ?_
    refine im_st (s_getR (b := 32) (tag := 5) (j := 1) dX5_add_23 rfl fl_X5_15 rfl (Nat.le_of_ble_eq_true rfl) rfl rfl) ?_
    refine im_st (r_aload_n (i := 0) dX5_add_26 rfl rfl rfl) ?_
    refine im_app (Gm := fun (σ3 : Sg) => Go M_X5_add Q 0 0 27 [some (.ref 30), some (.int a1), some (.int a2), some (.int a3)] [.ref 30, .ref 32] (mk σ3 τ)) (fun σ3 => ?_)
    refine im_st (s_getI (tag := 5) (j := 3) dX5_add_27 rfl fl_X5_21 rfl (Nat.le_of_ble_eq_true rfl) rfl) ?_
    refine im_st (r_iload_n (i := 2) dX5_add_30 rfl rfl rfl) ?_
    refine im_grd (fun g4 => ?_)
    refine im_st (s_iastore dX5_add_31 rfl rfl (Nat.le_of_ble_eq_true rfl) (inR_in g4)) ?_
    refine im_st (r_aload_n (i := 0) dX5_add_32 rfl rfl rfl) ?_
    refine im_st (s_getR (b := 33) (tag := 5) (j := 2) dX5_add_33 rfl fl_X5_18 rfl (Nat.le_of_ble_eq_true rfl) rfl rfl) ?_
    refine im_st (r_aload_n (i := 0) dX5_add_36 rfl rfl rfl) ?_
    refine im_app (Gm := fun (σ5 : Sg) => Go M_X5_add Q 0 0 37 [some (.ref 30), some (.int a1), some (.int a2), some (.int a3)] [.ref 30, .ref 33] (mk σ5 τ)) (fun σ5 => ?_)
    refine im_st (s_getI (tag := 5) (j := 3) dX5_add_37 rfl fl_X5_21 rfl (Nat.le_of_ble_eq_true rfl) rfl) ?_
    refine im_st (r_iload_n (i := 3) dX5_add_40 rfl rfl rfl) ?_
    refine im_grd (fun g6 => ?_)
    refine im_st (s_iastore dX5_add_41 rfl rfl (Nat.le_of_ble_eq_true rfl) (inR_in g6)) ?_
    refine im_st (r_aload_n (i := 0) dX5_add_42 rfl rfl rfl) ?_
    refine im_st (r_dup dX5_add_43 rfl rfl) ?_
    refine im_app (Gm := fun (σ7 : Sg) => Go M_X5_add Q 0 0 44 [some (.ref 30), some (.int a1), some (.int a2), some (.int a3)] [.ref 30, .ref 30] (mk σ7 τ)) (fun σ7 => ?_)
    refine im_st (s_getI (tag := 5) (j := 3) dX5_add_44 rfl fl_X5_21 rfl (Nat.le_of_ble_eq_true rfl) rfl) ?_
    refine im_st (r_iconst (v := 1) dX5_add_47 rfl kI_1) ?_
    refine im_st (r_iadd dX5_add_48 rfl) ?_
    refine im_st (s_putI (tag := 5) (j := 3) dX5_add_49 rfl fl_X5_21 rfl (Nat.le_of_ble_eq_true rfl) rfl fw_5_3) ?_
    refine im_st (r_aload_n (i := 0) dX5_add_52 rfl rfl rfl) ?_
    refine im_app (Gm := fun (σ8 : Sg) => Go M_X5_add Q 0 0 53 [some (.ref 30), some (.int a1), some (.int a2), some (.int a3)] [.ref 30] (mk σ8 τ)) (fun σ8 => ?_)
    refine im_st (s_getI (tag := 5) (j := 3) dX5_add_53 rfl fl_X5_21 rfl (Nat.le_of_ble_eq_true rfl) rfl) ?_
    exact im_ret (fun q => g_iret rfl rfl rfl dX5_add_56 q)
  · refine im_st (r_bipush (v := -3) dX5_add_9 rfl kB_m3) ?_
    exact im_ret (fun q => g_iret rfl rfl rfl dX5_add_11 q)
theorem e_X5_add (a1 : Int32) (a2 : Int32) (a3 : Int32) (σ : Sg) (τ : Sl) (y : (Int32 × Sg)) (hy : f_X5_add a1 a2 a3 σ = some y) : EvD M_X5_add [.ref 30, .int a1, .int a2, .int a3] (mk σ τ) (some (.int y.1)) (mk y.2 τ) := EvM.of (by decide +kernel) (Nat.le_of_ble_eq_true rfl) (i_X5_add a1 a2 a3 σ τ _ y hy ⟨rfl, rfl⟩)
def M_X5_holds : Ms := (yX5_holds, cX5_holds, 4, some .boolean, 4, 85, 0, 0)
theorem mv_X5_holds : MV M_X5_holds 1 := ⟨⟨q873, q8, by decide, by decide, by decide +kernel⟩, q872, p19⟩
def b_X5_holds_2 (b1 : Nat) : (Int32 × Sg) → Option ((Int32 × Sg) ⊕ ((Int32 × Sg) ⊕ (Int32 × Sg))) := fun (s1 : (Int32 × Sg)) =>
  if (s1.2 30 3) ≤ s1.1 then
    some (.inr (.inl (s1.1, s1.2)))
  else
    if inR s1.1 6 then
    if (f_X7_isHedgehog b1 (s1.2 31 s1.1.toNatClampNeg) s1.2) = 0 then
      some (.inr (.inr ((0 : Int32), s1.2)))
    else
      if inR s1.1 6 then
      if inR s1.1 6 then
      (f_X2_letGo b1 (s1.2 31 s1.1.toNatClampNeg) (s1.2 32 s1.1.toNatClampNeg) s1.2).bind fun (y7 : Sg) =>
      if inR s1.1 6 then
      app (if (y7 (b1 + 10) 0) = (-4 : Int32) then
        (9 : Int32)
      else
        (y7 (b1 + 10) 0)) fun (j9 : Int32) =>
      if (y7 33 s1.1.toNatClampNeg) = j9 then
        some (.inl ((s1.1 + 1), y7))
      else
        some (.inr (.inr ((0 : Int32), y7)))
      else none
      else none
      else none
    else none
def f_X5_holds (b1 : Nat) (σ : Sg) : Option (Int32 × Sg) :=
  (wh (b_X5_holds_2 b1) 4096 ((0 : Int32), σ)).bind fun (r14 : ((Int32 × Sg) ⊕ (Int32 × Sg))) =>
  Sum.elim (fun (e12 : (Int32 × Sg)) =>
    some ((1 : Int32), e12.2)) (fun (y13 : (Int32 × Sg)) => some y13) r14
set_option maxHeartbeats 4000000 in
set_option maxRecDepth 20000 in
theorem i_X5_holds (b1 : Nat) (σ : Sg) (τ : Sl) (hb1 : isCt b1) (Q : Option Value → Hp → Prop) : Imp (f_X5_holds b1 σ) (fun (y : (Int32 × Sg)) => Q (some (.int y.1)) (mk y.2 τ)) (Go M_X5_holds Q 0 0 0 [some (.ref 30), some (.ref (b1 + 9)), none, none] [] (mk σ τ)) := by
  unfold f_X5_holds
  refine im_st (r_iconst (v := 0) dX5_holds_0 rfl kI_0) ?_
  refine im_st (r_istore_n (i := 2) (L1 := [some (.ref 30), some (.ref (b1 + 9)), some (.int (0 : Int32)), none]) dX5_holds_1 rfl rfl (by decide) rfl) ?_
  refine im_seq (Gm := Sum.elim (fun (e12 : (Int32 × Sg)) => Go M_X5_holds Q 0 0 77 [none, none, none, none] [] (mk e12.2 τ)) (fun (y : (Int32 × Sg)) => Q (some (.int y.1)) (mk y.2 τ))) ?_ (fun r14 => ?_)
  · refine im_wh (G := fun (s1 : (Int32 × Sg)) => Go M_X5_holds Q 0 0 2 [some (.ref 30), some (.ref (b1 + 9)), some (.int s1.1), none] [] (mk s1.2 τ)) (fun s1 => ?_) _ _
    unfold b_X5_holds_2
    refine im_st (r_iload_n (i := 2) dX5_holds_2 rfl rfl rfl) ?_
    refine im_st (r_aload_n (i := 0) dX5_holds_3 rfl rfl rfl) ?_
    refine im_st (s_getI (tag := 5) (j := 3) dX5_holds_4 rfl fl_X5_21 rfl (Nat.le_of_ble_eq_true rfl) rfl) ?_
    refine im_br (r_icmp_ge (tgt := 77) dX5_holds_7 rfl (by decide)) (fun c2 => ?_) (fun c2 => ?_)
    · refine im_st (r_fgt (L1 := [none, none, none, none]) [0, 1, 2] rfl) ?_
      exact im_ret id
    · refine im_st (r_aload_n (i := 1) dX5_holds_10 rfl rfl rfl) ?_
      refine im_st (s_getR (b := b1) (tag := 2) (j := 0) dX5_holds_11 rfl fl_X5_25 (ct_sh hb1) (ct_lt hb1) rfl (ct_rf0 hb1)) ?_
      refine im_st (r_aload_n (i := 0) dX5_holds_14 rfl rfl rfl) ?_
      refine im_st (s_getR (b := 31) (tag := 5) (j := 0) dX5_holds_15 rfl fl_X5_9 rfl (Nat.le_of_ble_eq_true rfl) rfl rfl) ?_
      refine im_st (r_iload_n (i := 2) dX5_holds_18 rfl rfl rfl) ?_
      refine im_grd (fun g3 => ?_)
      refine im_st (s_iaload dX5_holds_19 rfl rfl (Nat.le_of_ble_eq_true rfl) (inR_in g3)) ?_
      refine im_st (r_callV (as := [.int (s1.2 31 s1.1.toNatClampNeg)]) (r := some (.int (f_X7_isHedgehog b1 (s1.2 31 s1.1.toNatClampNeg) s1.2))) (kc1 := 0) (ks1 := 0) (st := []) (st1 := [.int (f_X7_isHedgehog b1 (s1.2 31 s1.1.toNatClampNeg) s1.2)]) (e_X7_isHedgehog b1 (s1.2 31 s1.1.toNatClampNeg) s1.2 τ (ct_sl hb1)) mv_X7_isHedgehog lk_X5_31 ⟨by decide, by decide⟩ (sl_sh (ct_sl hb1)) (sl_lt (ct_sl hb1)) (by decide) ⟨_, rfl, rfl⟩ ⟨by decide, by decide⟩ (Nat.le_of_ble_eq_true rfl) dX5_holds_20 rfl rfl rfl rfl rfl) ?_
      refine im_br (r_if_ne (tgt := 28) dX5_holds_23 rfl (by decide)) (fun c4 => ?_) (fun c4 => ?_)
      · refine im_st (r_iconst (v := 0) dX5_holds_26 rfl kI_0) ?_
        exact im_ret (fun q => g_zret (ty := .boolean) rfl rfl rfl rfl dX5_holds_27 q)
      · refine im_st (r_aload_n (i := 1) dX5_holds_28 rfl rfl rfl) ?_
        refine im_st (r_aload_n (i := 0) dX5_holds_29 rfl rfl rfl) ?_
        refine im_st (s_getR (b := 31) (tag := 5) (j := 0) dX5_holds_30 rfl fl_X5_9 rfl (Nat.le_of_ble_eq_true rfl) rfl rfl) ?_
        refine im_st (r_iload_n (i := 2) dX5_holds_33 rfl rfl rfl) ?_
        refine im_grd (fun g5 => ?_)
        refine im_st (s_iaload dX5_holds_34 rfl rfl (Nat.le_of_ble_eq_true rfl) (inR_in g5)) ?_
        refine im_st (r_aload_n (i := 0) dX5_holds_35 rfl rfl rfl) ?_
        refine im_st (s_getR (b := 32) (tag := 5) (j := 1) dX5_holds_36 rfl fl_X5_15 rfl (Nat.le_of_ble_eq_true rfl) rfl rfl) ?_
        refine im_st (r_iload_n (i := 2) dX5_holds_39 rfl rfl rfl) ?_
        refine im_grd (fun g6 => ?_)
        refine im_st (s_iaload dX5_holds_40 rfl rfl (Nat.le_of_ble_eq_true rfl) (inR_in g6)) ?_
        refine im_bind (fun y7 hy7 => ?_)
        refine im_st (r_callV (as := [.int (s1.2 31 s1.1.toNatClampNeg), .int (s1.2 32 s1.1.toNatClampNeg)]) (r := some (.ref (b1 + 10))) (kc1 := 0) (ks1 := 0) (st := []) (st1 := [.ref (b1 + 10)]) (e_X2_letGo b1 (s1.2 31 s1.1.toNatClampNeg) (s1.2 32 s1.1.toNatClampNeg) s1.2 τ hb1 y7 hy7) mv_X2_letGo lk_X5_37 ⟨by decide, by decide⟩ (ct_sh hb1) (ct_lt hb1) (by decide) ⟨_, rfl, rfl⟩ ⟨by decide, by decide⟩ (Nat.le_of_ble_eq_true rfl) dX5_holds_41 rfl rfl rfl rfl rfl) ?_
        refine im_st (s_getI (tag := 1) (j := 0) dX5_holds_44 rfl fl_X5_41 (co_sh hb1) (co_lt hb1) rfl) ?_
        refine im_st (r_istore_n (i := 3) (L1 := [some (.ref 30), some (.ref (b1 + 9)), some (.int s1.1), some (.int (y7 (b1 + 10) 0))]) dX5_holds_47 rfl rfl (by decide) rfl) ?_
        refine im_st (r_aload_n (i := 0) dX5_holds_48 rfl rfl rfl) ?_
        refine im_st (s_getR (b := 33) (tag := 5) (j := 2) dX5_holds_49 rfl fl_X5_18 rfl (Nat.le_of_ble_eq_true rfl) rfl rfl) ?_
        refine im_st (r_iload_n (i := 2) dX5_holds_52 rfl rfl rfl) ?_
        refine im_grd (fun g8 => ?_)
        refine im_st (s_iaload dX5_holds_53 rfl rfl (Nat.le_of_ble_eq_true rfl) (inR_in g8)) ?_
        refine im_st (r_iload_n (i := 3) dX5_holds_54 rfl rfl rfl) ?_
        refine im_st (r_bipush (v := -4) dX5_holds_55 rfl kB_m4) ?_
        refine im_seqT (Gm := fun (j9 : Int32) => Go M_X5_holds Q 0 0 66 [some (.ref 30), some (.ref (b1 + 9)), some (.int s1.1), none] [.int j9, .int (y7 33 s1.1.toNatClampNeg)] (mk y7 τ)) ?_ (fun j9 => ?_)
        · refine im_brS (r_icmp_ne (tgt := 65) dX5_holds_57 rfl (by decide)) (fun c10 => ?_) (fun c10 => ?_)
          · refine im_st (r_bipush (v := 9) dX5_holds_60 rfl kB_9) ?_
            refine im_st (r_goto (pc1 := 66) dX5_holds_62 (by decide)) ?_
            refine im_st (r_fgt (L1 := [some (.ref 30), some (.ref (b1 + 9)), some (.int s1.1), none]) [3] rfl) ?_
            exact im_ret id
          · refine im_st (r_iload_n (i := 3) dX5_holds_65 rfl rfl rfl) ?_
            refine im_st (r_fgt (L1 := [some (.ref 30), some (.ref (b1 + 9)), some (.int s1.1), none]) [3] rfl) ?_
            exact im_ret id
        refine im_br (r_icmp_eq (tgt := 71) dX5_holds_66 rfl (by decide)) (fun c11 => ?_) (fun c11 => ?_)
        · refine im_st (r_iinc (i := 2) (x := s1.1) (v := (s1.1 + 1)) (L1 := [some (.ref 30), some (.ref (b1 + 9)), some (.int (s1.1 + 1)), none]) dX5_holds_71 rfl rfl rfl (by decide) rfl) ?_
          refine im_st (r_goto (pc1 := 2) dX5_holds_74 (by decide)) ?_
          exact im_ret id
        · refine im_st (r_iconst (v := 0) dX5_holds_69 rfl kI_0) ?_
          exact im_ret (fun q => g_zret (ty := .boolean) rfl rfl rfl rfl dX5_holds_70 q)
  refine im_sum (fun e12 => ?_) (fun y13 => im_ret id) r14
  refine im_st (r_iconst (v := 1) dX5_holds_77 rfl kI_1) ?_
  exact im_ret (fun q => g_zret (ty := .boolean) rfl rfl rfl rfl dX5_holds_78 q)
theorem e_X5_holds (b1 : Nat) (σ : Sg) (τ : Sl) (hb1 : isCt b1) (y : (Int32 × Sg)) (hy : f_X5_holds b1 σ = some y) : EvD M_X5_holds [.ref 30, .ref (b1 + 9)] (mk σ τ) (some (.int y.1)) (mk y.2 τ) := EvM.of (by decide +kernel) (Nat.le_of_ble_eq_true rfl) (i_X5_holds b1 σ τ hb1 _ y hy ⟨rfl, rfl⟩)
def M_X5_fittingKinds : Ms := (yX5_fittingKinds, cX5_fittingKinds, 7, some .int, 5, 108, 0, 0)
theorem mv_X5_fittingKinds : MV M_X5_fittingKinds 2 := ⟨⟨q868, q8, by decide, by decide, by decide +kernel⟩, q866, q867⟩
def b_X5_fittingKinds_27 (b1 : Nat) (a2 : Int32) : (Int32 × Int32 × Sg) → Option ((Int32 × Int32 × Sg) ⊕ (Int32 × Int32 × Sg)) := fun (s5 : (Int32 × Int32 × Sg)) =>
  if (4 : Int32) ≤ s5.2.1 then
    some (.inr (s5.1, s5.2.1, s5.2.2))
  else
    if inR a2 4 then
    app (up2 s5.2.2 (b1 + 4) a2.toNatClampNeg s5.2.1) fun (σ8 : Sg) =>
    (f_X5_holds b1 σ8).bind fun (y9 : (Int32 × Sg)) =>
    app (if y9.1 = 0 then
      s5.1
    else
      app (s5.1 ||| ((1 : Int32) <<< (s5.2.1 &&& 31))) fun (v12 : Int32) =>
      v12) fun (j10 : Int32) =>
    some (.inl (j10, (s5.2.1 + 1), y9.2))
    else none
def f_X5_fittingKinds (b1 : Nat) (a2 : Int32) (σ : Sg) : Option (Int32 × Sg) :=
  (if (f_X7_isHedgehog b1 a2 σ) = 0 then
    some ((0 : Int32), σ)
  else
    if inR a2 4 then
    app (σ (b1 + 4) a2.toNatClampNeg) fun (v4 : Int32) =>
    (wh (b_X5_fittingKinds_27 b1 a2) 4096 ((0 : Int32), (0 : Int32), σ)).bind fun (e13 : (Int32 × Int32 × Sg)) =>
    if inR a2 4 then
    some (e13.1, (up2 e13.2.2 (b1 + 4) a2.toNatClampNeg v4))
    else none
    else none).bind fun (j1 : (Int32 × Sg)) =>
  some (j1.1, j1.2)
set_option maxHeartbeats 4000000 in
set_option maxRecDepth 20000 in
theorem i_X5_fittingKinds (b1 : Nat) (a2 : Int32) (σ : Sg) (τ : Sl) (hb1 : isCt b1) (Q : Option Value → Hp → Prop) : Imp (f_X5_fittingKinds b1 a2 σ) (fun (y : (Int32 × Sg)) => Q (some (.int y.1)) (mk y.2 τ)) (Go M_X5_fittingKinds Q 0 0 0 [some (.ref 30), some (.ref (b1 + 9)), some (.int a2), none, none, none, none] [] (mk σ τ)) := by
  unfold f_X5_fittingKinds
  refine im_st (r_aload_n (i := 1) dX5_fittingKinds_0 rfl rfl rfl) ?_
  refine im_st (s_getR (b := b1) (tag := 2) (j := 0) dX5_fittingKinds_1 rfl fl_X5_25 (ct_sh hb1) (ct_lt hb1) rfl (ct_rf0 hb1)) ?_
  refine im_st (r_astore_n (i := 3) (L1 := [some (.ref 30), some (.ref (b1 + 9)), some (.int a2), some (.ref b1), none, none, none]) dX5_fittingKinds_4 rfl rfl (by decide) rfl) ?_
  refine im_st (r_iconst (v := 0) dX5_fittingKinds_5 rfl kI_0) ?_
  refine im_st (r_istore (i := 4) (L1 := [some (.ref 30), some (.ref (b1 + 9)), some (.int a2), some (.ref b1), some (.int (0 : Int32)), none, none]) dX5_fittingKinds_6 rfl (by decide) rfl) ?_
  refine im_st (r_aload_n (i := 3) dX5_fittingKinds_8 rfl rfl rfl) ?_
  refine im_st (r_iload_n (i := 2) dX5_fittingKinds_9 rfl rfl rfl) ?_
  refine im_st (r_callV (as := [.int a2]) (r := some (.int (f_X7_isHedgehog b1 a2 σ))) (kc1 := 0) (ks1 := 0) (st := []) (st1 := [.int (f_X7_isHedgehog b1 a2 σ)]) (e_X7_isHedgehog b1 a2 σ τ (ct_sl hb1)) mv_X7_isHedgehog lk_X5_31 ⟨by decide, by decide⟩ (sl_sh (ct_sl hb1)) (sl_lt (ct_sl hb1)) (by decide) ⟨_, rfl, rfl⟩ ⟨by decide, by decide⟩ (Nat.le_of_ble_eq_true rfl) dX5_fittingKinds_10 rfl rfl rfl rfl rfl) ?_
  refine im_seq (Gm := fun (j1 : (Int32 × Sg)) => Go M_X5_fittingKinds Q 0 0 72 [none, none, none, none, some (.int j1.1), none, none] [] (mk j1.2 τ)) ?_ (fun j1 => ?_)
  · refine im_br (r_if_eq (tgt := 72) dX5_fittingKinds_13 rfl (by decide)) (fun c2 => ?_) (fun c2 => ?_)
    · refine im_st (r_fgt (L1 := [none, none, none, none, some (.int (0 : Int32)), none, none]) [0, 1, 2, 3] rfl) ?_
      exact im_ret id
    · refine im_st (r_aload_n (i := 3) dX5_fittingKinds_16 rfl rfl rfl) ?_
      refine im_st (s_getR (b := (b1 + 4)) (tag := 7) (j := 5) dX5_fittingKinds_17 rfl fl_X5_46 (sl_sh (ct_sl hb1)) (sl_lt (ct_sl hb1)) rfl (sl_rf5 (ct_sl hb1))) ?_
      refine im_st (r_iload_n (i := 2) dX5_fittingKinds_20 rfl rfl rfl) ?_
      refine im_grd (fun g3 => ?_)
      refine im_st (s_iaload dX5_fittingKinds_21 rfl (sl_sh4 (ct_sl hb1)) (sl_lt4 (ct_sl hb1)) (inR_in g3)) ?_
      refine im_app (Gm := fun (v4 : Int32) => Go M_X5_fittingKinds Q 0 0 22 [some (.ref 30), some (.ref (b1 + 9)), some (.int a2), some (.ref b1), some (.int (0 : Int32)), none, none] [.int v4] (mk σ τ)) (fun v4 => ?_)
      refine im_st (r_istore (i := 5) (L1 := [some (.ref 30), some (.ref (b1 + 9)), some (.int a2), some (.ref b1), some (.int (0 : Int32)), some (.int v4), none]) dX5_fittingKinds_22 rfl (by decide) rfl) ?_
      refine im_st (r_iconst (v := 0) dX5_fittingKinds_24 rfl kI_0) ?_
      refine im_st (r_istore (i := 6) (L1 := [some (.ref 30), some (.ref (b1 + 9)), some (.int a2), some (.ref b1), some (.int (0 : Int32)), some (.int v4), some (.int (0 : Int32))]) dX5_fittingKinds_25 rfl (by decide) rfl) ?_
      refine im_seq (Gm := fun (e13 : (Int32 × Int32 × Sg)) => Go M_X5_fittingKinds Q 0 0 64 [none, none, some (.int a2), some (.ref b1), some (.int e13.1), some (.int v4), none] [] (mk e13.2.2 τ)) ?_ (fun e13 => ?_)
      · refine im_wh (G := fun (s5 : (Int32 × Int32 × Sg)) => Go M_X5_fittingKinds Q 0 0 27 [some (.ref 30), some (.ref (b1 + 9)), some (.int a2), some (.ref b1), some (.int s5.1), some (.int v4), some (.int s5.2.1)] [] (mk s5.2.2 τ)) (fun s5 => ?_) _ _
        unfold b_X5_fittingKinds_27
        refine im_st (r_iload (i := 6) dX5_fittingKinds_27 rfl rfl) ?_
        refine im_st (r_iconst (v := 4) dX5_fittingKinds_29 rfl kI_4) ?_
        refine im_br (r_icmp_ge (tgt := 64) dX5_fittingKinds_30 rfl (by decide)) (fun c6 => ?_) (fun c6 => ?_)
        · refine im_st (r_fgt (L1 := [none, none, some (.int a2), some (.ref b1), some (.int s5.1), some (.int v4), none]) [0, 1, 6] rfl) ?_
          exact im_ret id
        · refine im_st (r_aload_n (i := 3) dX5_fittingKinds_33 rfl rfl rfl) ?_
          refine im_st (s_getR (b := (b1 + 4)) (tag := 7) (j := 5) dX5_fittingKinds_34 rfl fl_X5_46 (sl_sh (ct_sl hb1)) (sl_lt (ct_sl hb1)) rfl (sl_rf5 (ct_sl hb1))) ?_
          refine im_st (r_iload_n (i := 2) dX5_fittingKinds_37 rfl rfl rfl) ?_
          refine im_st (r_iload (i := 6) dX5_fittingKinds_38 rfl rfl) ?_
          refine im_grd (fun g7 => ?_)
          refine im_st (s_iastore dX5_fittingKinds_40 rfl (sl_sh4 (ct_sl hb1)) (sl_lt4 (ct_sl hb1)) (inR_in g7)) ?_
          refine im_st (r_aload_n (i := 0) dX5_fittingKinds_41 rfl rfl rfl) ?_
          refine im_st (r_aload_n (i := 1) dX5_fittingKinds_42 rfl rfl rfl) ?_
          refine im_app (Gm := fun (σ8 : Sg) => Go M_X5_fittingKinds Q 0 0 43 [some (.ref 30), some (.ref (b1 + 9)), some (.int a2), some (.ref b1), some (.int s5.1), some (.int v4), some (.int s5.2.1)] [.ref (b1 + 9), .ref 30] (mk σ8 τ)) (fun σ8 => ?_)
          refine im_bind (fun y9 hy9 => ?_)
          refine im_st (r_callV (as := [.ref (b1 + 9)]) (r := some (.int y9.1)) (kc1 := 0) (ks1 := 0) (st := []) (st1 := [.int y9.1]) (e_X5_holds b1 σ8 τ hb1 y9 hy9) mv_X5_holds lk_X5_49 ⟨by decide, by decide⟩ rfl (Nat.le_of_ble_eq_true rfl) (by decide) ⟨_, rfl, rfl⟩ ⟨by decide, by decide⟩ (Nat.le_of_ble_eq_true rfl) dX5_fittingKinds_43 rfl rfl rfl rfl rfl) ?_
          refine im_seqT (Gm := fun (j10 : Int32) => Go M_X5_fittingKinds Q 0 0 58 [some (.ref 30), some (.ref (b1 + 9)), some (.int a2), some (.ref b1), some (.int j10), some (.int v4), some (.int s5.2.1)] [] (mk y9.2 τ)) ?_ (fun j10 => ?_)
          · refine im_brS (r_if_eq (tgt := 58) dX5_fittingKinds_46 rfl (by decide)) (fun c11 => ?_) (fun c11 => ?_)
            · exact im_ret id
            · refine im_st (r_iload (i := 4) dX5_fittingKinds_49 rfl rfl) ?_
              refine im_st (r_iconst (v := 1) dX5_fittingKinds_51 rfl kI_1) ?_
              refine im_st (r_iload (i := 6) dX5_fittingKinds_52 rfl rfl) ?_
              refine im_st (r_ishl dX5_fittingKinds_54 rfl) ?_
              refine im_st (r_ior dX5_fittingKinds_55 rfl) ?_
              refine im_appS (Gm := fun (v12 : Int32) => Go M_X5_fittingKinds Q 0 0 56 [some (.ref 30), some (.ref (b1 + 9)), some (.int a2), some (.ref b1), some (.int s5.1), some (.int v4), some (.int s5.2.1)] [.int v12] (mk y9.2 τ)) (fun v12 => ?_)
              refine im_st (r_istore (i := 4) (L1 := [some (.ref 30), some (.ref (b1 + 9)), some (.int a2), some (.ref b1), some (.int v12), some (.int v4), some (.int s5.2.1)]) dX5_fittingKinds_56 rfl (by decide) rfl) ?_
              exact im_ret id
          refine im_st (r_iinc (i := 6) (x := s5.2.1) (v := (s5.2.1 + 1)) (L1 := [some (.ref 30), some (.ref (b1 + 9)), some (.int a2), some (.ref b1), some (.int j10), some (.int v4), some (.int (s5.2.1 + 1))]) dX5_fittingKinds_58 rfl rfl rfl (by decide) rfl) ?_
          refine im_st (r_goto (pc1 := 27) dX5_fittingKinds_61 (by decide)) ?_
          exact im_ret id
      refine im_st (r_aload_n (i := 3) dX5_fittingKinds_64 rfl rfl rfl) ?_
      refine im_st (s_getR (b := (b1 + 4)) (tag := 7) (j := 5) dX5_fittingKinds_65 rfl fl_X5_46 (sl_sh (ct_sl hb1)) (sl_lt (ct_sl hb1)) rfl (sl_rf5 (ct_sl hb1))) ?_
      refine im_st (r_iload_n (i := 2) dX5_fittingKinds_68 rfl rfl rfl) ?_
      refine im_st (r_iload (i := 5) dX5_fittingKinds_69 rfl rfl) ?_
      refine im_grd (fun g14 => ?_)
      refine im_st (s_iastore dX5_fittingKinds_71 rfl (sl_sh4 (ct_sl hb1)) (sl_lt4 (ct_sl hb1)) (inR_in g14)) ?_
      refine im_st (r_fgt (L1 := [none, none, none, none, some (.int e13.1), none, none]) [2, 3, 5] rfl) ?_
      exact im_ret id
  refine im_st (r_iload (i := 4) dX5_fittingKinds_72 rfl rfl) ?_
  exact im_ret (fun q => g_iret rfl rfl rfl dX5_fittingKinds_74 q)
theorem e_X5_fittingKinds (b1 : Nat) (a2 : Int32) (σ : Sg) (τ : Sl) (hb1 : isCt b1) (y : (Int32 × Sg)) (hy : f_X5_fittingKinds b1 a2 σ = some y) : EvD M_X5_fittingKinds [.ref 30, .ref (b1 + 9), .int a2] (mk σ τ) (some (.int y.1)) (mk y.2 τ) := EvM.of (by decide +kernel) (Nat.le_of_ble_eq_true rfl) (i_X5_fittingKinds b1 a2 σ τ hb1 _ y hy ⟨rfl, rfl⟩)
def M_X5_fittingSpeeds : Ms := (yX5_fittingSpeeds, cX5_fittingSpeeds, 7, some .int, 5, 108, 0, 0)
theorem mv_X5_fittingSpeeds : MV M_X5_fittingSpeeds 2 := ⟨⟨q882, q8, by decide, by decide, by decide +kernel⟩, q880, q881⟩
def b_X5_fittingSpeeds_27 (b1 : Nat) (a2 : Int32) : (Int32 × Int32 × Sg) → Option ((Int32 × Int32 × Sg) ⊕ (Int32 × Int32 × Sg)) := fun (s5 : (Int32 × Int32 × Sg)) =>
  if (9 : Int32) < s5.2.1 then
    some (.inr (s5.1, s5.2.1, s5.2.2))
  else
    if inR a2 4 then
    app (up2 s5.2.2 (b1 + 5) a2.toNatClampNeg s5.2.1) fun (σ8 : Sg) =>
    (f_X5_holds b1 σ8).bind fun (y9 : (Int32 × Sg)) =>
    app (if y9.1 = 0 then
      s5.1
    else
      app (s5.1 ||| ((1 : Int32) <<< (s5.2.1 &&& 31))) fun (v12 : Int32) =>
      v12) fun (j10 : Int32) =>
    some (.inl (j10, (s5.2.1 + 1), y9.2))
    else none
def f_X5_fittingSpeeds (b1 : Nat) (a2 : Int32) (σ : Sg) : Option (Int32 × Sg) :=
  (if (f_X7_isHedgehog b1 a2 σ) = 0 then
    some ((0 : Int32), σ)
  else
    if inR a2 4 then
    app (σ (b1 + 5) a2.toNatClampNeg) fun (v4 : Int32) =>
    (wh (b_X5_fittingSpeeds_27 b1 a2) 4096 ((0 : Int32), (1 : Int32), σ)).bind fun (e13 : (Int32 × Int32 × Sg)) =>
    if inR a2 4 then
    some (e13.1, (up2 e13.2.2 (b1 + 5) a2.toNatClampNeg v4))
    else none
    else none).bind fun (j1 : (Int32 × Sg)) =>
  some (j1.1, j1.2)
set_option maxHeartbeats 4000000 in
set_option maxRecDepth 20000 in
theorem i_X5_fittingSpeeds (b1 : Nat) (a2 : Int32) (σ : Sg) (τ : Sl) (hb1 : isCt b1) (Q : Option Value → Hp → Prop) : Imp (f_X5_fittingSpeeds b1 a2 σ) (fun (y : (Int32 × Sg)) => Q (some (.int y.1)) (mk y.2 τ)) (Go M_X5_fittingSpeeds Q 0 0 0 [some (.ref 30), some (.ref (b1 + 9)), some (.int a2), none, none, none, none] [] (mk σ τ)) := by
  unfold f_X5_fittingSpeeds
  refine im_st (r_aload_n (i := 1) dX5_fittingSpeeds_0 rfl rfl rfl) ?_
  refine im_st (s_getR (b := b1) (tag := 2) (j := 0) dX5_fittingSpeeds_1 rfl fl_X5_25 (ct_sh hb1) (ct_lt hb1) rfl (ct_rf0 hb1)) ?_
  refine im_st (r_astore_n (i := 3) (L1 := [some (.ref 30), some (.ref (b1 + 9)), some (.int a2), some (.ref b1), none, none, none]) dX5_fittingSpeeds_4 rfl rfl (by decide) rfl) ?_
  refine im_st (r_iconst (v := 0) dX5_fittingSpeeds_5 rfl kI_0) ?_
  refine im_st (r_istore (i := 4) (L1 := [some (.ref 30), some (.ref (b1 + 9)), some (.int a2), some (.ref b1), some (.int (0 : Int32)), none, none]) dX5_fittingSpeeds_6 rfl (by decide) rfl) ?_
  refine im_st (r_aload_n (i := 3) dX5_fittingSpeeds_8 rfl rfl rfl) ?_
  refine im_st (r_iload_n (i := 2) dX5_fittingSpeeds_9 rfl rfl rfl) ?_
  refine im_st (r_callV (as := [.int a2]) (r := some (.int (f_X7_isHedgehog b1 a2 σ))) (kc1 := 0) (ks1 := 0) (st := []) (st1 := [.int (f_X7_isHedgehog b1 a2 σ)]) (e_X7_isHedgehog b1 a2 σ τ (ct_sl hb1)) mv_X7_isHedgehog lk_X5_31 ⟨by decide, by decide⟩ (sl_sh (ct_sl hb1)) (sl_lt (ct_sl hb1)) (by decide) ⟨_, rfl, rfl⟩ ⟨by decide, by decide⟩ (Nat.le_of_ble_eq_true rfl) dX5_fittingSpeeds_10 rfl rfl rfl rfl rfl) ?_
  refine im_seq (Gm := fun (j1 : (Int32 × Sg)) => Go M_X5_fittingSpeeds Q 0 0 73 [none, none, none, none, some (.int j1.1), none, none] [] (mk j1.2 τ)) ?_ (fun j1 => ?_)
  · refine im_br (r_if_eq (tgt := 73) dX5_fittingSpeeds_13 rfl (by decide)) (fun c2 => ?_) (fun c2 => ?_)
    · refine im_st (r_fgt (L1 := [none, none, none, none, some (.int (0 : Int32)), none, none]) [0, 1, 2, 3] rfl) ?_
      exact im_ret id
    · refine im_st (r_aload_n (i := 3) dX5_fittingSpeeds_16 rfl rfl rfl) ?_
      refine im_st (s_getR (b := (b1 + 5)) (tag := 7) (j := 6) dX5_fittingSpeeds_17 rfl fl_X5_53 (sl_sh (ct_sl hb1)) (sl_lt (ct_sl hb1)) rfl (sl_rf6 (ct_sl hb1))) ?_
      refine im_st (r_iload_n (i := 2) dX5_fittingSpeeds_20 rfl rfl rfl) ?_
      refine im_grd (fun g3 => ?_)
      refine im_st (s_iaload dX5_fittingSpeeds_21 rfl (sl_sh5 (ct_sl hb1)) (sl_lt5 (ct_sl hb1)) (inR_in g3)) ?_
      refine im_app (Gm := fun (v4 : Int32) => Go M_X5_fittingSpeeds Q 0 0 22 [some (.ref 30), some (.ref (b1 + 9)), some (.int a2), some (.ref b1), some (.int (0 : Int32)), none, none] [.int v4] (mk σ τ)) (fun v4 => ?_)
      refine im_st (r_istore (i := 5) (L1 := [some (.ref 30), some (.ref (b1 + 9)), some (.int a2), some (.ref b1), some (.int (0 : Int32)), some (.int v4), none]) dX5_fittingSpeeds_22 rfl (by decide) rfl) ?_
      refine im_st (r_iconst (v := 1) dX5_fittingSpeeds_24 rfl kI_1) ?_
      refine im_st (r_istore (i := 6) (L1 := [some (.ref 30), some (.ref (b1 + 9)), some (.int a2), some (.ref b1), some (.int (0 : Int32)), some (.int v4), some (.int (1 : Int32))]) dX5_fittingSpeeds_25 rfl (by decide) rfl) ?_
      refine im_seq (Gm := fun (e13 : (Int32 × Int32 × Sg)) => Go M_X5_fittingSpeeds Q 0 0 65 [none, none, some (.int a2), some (.ref b1), some (.int e13.1), some (.int v4), none] [] (mk e13.2.2 τ)) ?_ (fun e13 => ?_)
      · refine im_wh (G := fun (s5 : (Int32 × Int32 × Sg)) => Go M_X5_fittingSpeeds Q 0 0 27 [some (.ref 30), some (.ref (b1 + 9)), some (.int a2), some (.ref b1), some (.int s5.1), some (.int v4), some (.int s5.2.1)] [] (mk s5.2.2 τ)) (fun s5 => ?_) _ _
        unfold b_X5_fittingSpeeds_27
        refine im_st (r_iload (i := 6) dX5_fittingSpeeds_27 rfl rfl) ?_
        refine im_st (r_bipush (v := 9) dX5_fittingSpeeds_29 rfl kB_9) ?_
        refine im_br (r_icmp_gt (tgt := 65) dX5_fittingSpeeds_31 rfl (by decide)) (fun c6 => ?_) (fun c6 => ?_)
        · refine im_st (r_fgt (L1 := [none, none, some (.int a2), some (.ref b1), some (.int s5.1), some (.int v4), none]) [0, 1, 6] rfl) ?_
          exact im_ret id
        · refine im_st (r_aload_n (i := 3) dX5_fittingSpeeds_34 rfl rfl rfl) ?_
          refine im_st (s_getR (b := (b1 + 5)) (tag := 7) (j := 6) dX5_fittingSpeeds_35 rfl fl_X5_53 (sl_sh (ct_sl hb1)) (sl_lt (ct_sl hb1)) rfl (sl_rf6 (ct_sl hb1))) ?_
          refine im_st (r_iload_n (i := 2) dX5_fittingSpeeds_38 rfl rfl rfl) ?_
          refine im_st (r_iload (i := 6) dX5_fittingSpeeds_39 rfl rfl) ?_
          refine im_grd (fun g7 => ?_)
          refine im_st (s_iastore dX5_fittingSpeeds_41 rfl (sl_sh5 (ct_sl hb1)) (sl_lt5 (ct_sl hb1)) (inR_in g7)) ?_
          refine im_st (r_aload_n (i := 0) dX5_fittingSpeeds_42 rfl rfl rfl) ?_
          refine im_st (r_aload_n (i := 1) dX5_fittingSpeeds_43 rfl rfl rfl) ?_
          refine im_app (Gm := fun (σ8 : Sg) => Go M_X5_fittingSpeeds Q 0 0 44 [some (.ref 30), some (.ref (b1 + 9)), some (.int a2), some (.ref b1), some (.int s5.1), some (.int v4), some (.int s5.2.1)] [.ref (b1 + 9), .ref 30] (mk σ8 τ)) (fun σ8 => ?_)
          refine im_bind (fun y9 hy9 => ?_)
          refine im_st (r_callV (as := [.ref (b1 + 9)]) (r := some (.int y9.1)) (kc1 := 0) (ks1 := 0) (st := []) (st1 := [.int y9.1]) (e_X5_holds b1 σ8 τ hb1 y9 hy9) mv_X5_holds lk_X5_49 ⟨by decide, by decide⟩ rfl (Nat.le_of_ble_eq_true rfl) (by decide) ⟨_, rfl, rfl⟩ ⟨by decide, by decide⟩ (Nat.le_of_ble_eq_true rfl) dX5_fittingSpeeds_44 rfl rfl rfl rfl rfl) ?_
          refine im_seqT (Gm := fun (j10 : Int32) => Go M_X5_fittingSpeeds Q 0 0 59 [some (.ref 30), some (.ref (b1 + 9)), some (.int a2), some (.ref b1), some (.int j10), some (.int v4), some (.int s5.2.1)] [] (mk y9.2 τ)) ?_ (fun j10 => ?_)
          · refine im_brS (r_if_eq (tgt := 59) dX5_fittingSpeeds_47 rfl (by decide)) (fun c11 => ?_) (fun c11 => ?_)
            · exact im_ret id
            · refine im_st (r_iload (i := 4) dX5_fittingSpeeds_50 rfl rfl) ?_
              refine im_st (r_iconst (v := 1) dX5_fittingSpeeds_52 rfl kI_1) ?_
              refine im_st (r_iload (i := 6) dX5_fittingSpeeds_53 rfl rfl) ?_
              refine im_st (r_ishl dX5_fittingSpeeds_55 rfl) ?_
              refine im_st (r_ior dX5_fittingSpeeds_56 rfl) ?_
              refine im_appS (Gm := fun (v12 : Int32) => Go M_X5_fittingSpeeds Q 0 0 57 [some (.ref 30), some (.ref (b1 + 9)), some (.int a2), some (.ref b1), some (.int s5.1), some (.int v4), some (.int s5.2.1)] [.int v12] (mk y9.2 τ)) (fun v12 => ?_)
              refine im_st (r_istore (i := 4) (L1 := [some (.ref 30), some (.ref (b1 + 9)), some (.int a2), some (.ref b1), some (.int v12), some (.int v4), some (.int s5.2.1)]) dX5_fittingSpeeds_57 rfl (by decide) rfl) ?_
              exact im_ret id
          refine im_st (r_iinc (i := 6) (x := s5.2.1) (v := (s5.2.1 + 1)) (L1 := [some (.ref 30), some (.ref (b1 + 9)), some (.int a2), some (.ref b1), some (.int j10), some (.int v4), some (.int (s5.2.1 + 1))]) dX5_fittingSpeeds_59 rfl rfl rfl (by decide) rfl) ?_
          refine im_st (r_goto (pc1 := 27) dX5_fittingSpeeds_62 (by decide)) ?_
          exact im_ret id
      refine im_st (r_aload_n (i := 3) dX5_fittingSpeeds_65 rfl rfl rfl) ?_
      refine im_st (s_getR (b := (b1 + 5)) (tag := 7) (j := 6) dX5_fittingSpeeds_66 rfl fl_X5_53 (sl_sh (ct_sl hb1)) (sl_lt (ct_sl hb1)) rfl (sl_rf6 (ct_sl hb1))) ?_
      refine im_st (r_iload_n (i := 2) dX5_fittingSpeeds_69 rfl rfl rfl) ?_
      refine im_st (r_iload (i := 5) dX5_fittingSpeeds_70 rfl rfl) ?_
      refine im_grd (fun g14 => ?_)
      refine im_st (s_iastore dX5_fittingSpeeds_72 rfl (sl_sh5 (ct_sl hb1)) (sl_lt5 (ct_sl hb1)) (inR_in g14)) ?_
      refine im_st (r_fgt (L1 := [none, none, none, none, some (.int e13.1), none, none]) [2, 3, 5] rfl) ?_
      exact im_ret id
  refine im_st (r_iload (i := 4) dX5_fittingSpeeds_73 rfl rfl) ?_
  exact im_ret (fun q => g_iret rfl rfl rfl dX5_fittingSpeeds_75 q)
theorem e_X5_fittingSpeeds (b1 : Nat) (a2 : Int32) (σ : Sg) (τ : Sl) (hb1 : isCt b1) (y : (Int32 × Sg)) (hy : f_X5_fittingSpeeds b1 a2 σ = some y) : EvD M_X5_fittingSpeeds [.ref 30, .ref (b1 + 9), .int a2] (mk σ τ) (some (.int y.1)) (mk y.2 τ) := EvM.of (by decide +kernel) (Nat.le_of_ble_eq_true rfl) (i_X5_fittingSpeeds b1 a2 σ τ hb1 _ y hy ⟨rfl, rfl⟩)
def M_X6_renew : Ms := (yX6_renew, cX6_renew, 3, none, 1, 23, 0, 0)
theorem mv_X6_renew : MV M_X6_renew 2 := ⟨⟨q931, q11, by decide, by decide, by decide +kernel⟩, q929, q930⟩
def f_X6_renew (t : Nat) (a1 : Int32) (a2 : Int32) (σ : Sg) : Sg :=
  app (up2 σ t 0 a1) fun (σ1 : Sg) =>
  app (up2 σ1 t 1 (iMax (0 : Int32) (iMin (40 : Int32) a2))) fun (σ2 : Sg) =>
  (upR σ2 (t + 1) (fillR (σ2 (t + 1)) 40 (0 : Int32)))
set_option maxHeartbeats 4000000 in
set_option maxRecDepth 20000 in
theorem i_X6_renew (t : Nat) (a1 : Int32) (a2 : Int32) (σ : Sg) (τ : Sl) (ht : isSh t) (Q : Option Value → Hp → Prop) : Imp (some (f_X6_renew t a1 a2 σ)) (fun (y : Sg) => Q (none) (mk y τ)) (Go M_X6_renew Q 0 0 0 [some (.ref t), some (.int a1), some (.int a2)] [] (mk σ τ)) := by
  unfold f_X6_renew
  refine im_st (r_aload_n (i := 0) dX6_renew_0 rfl rfl rfl) ?_
  refine im_st (r_iload_n (i := 1) dX6_renew_1 rfl rfl rfl) ?_
  refine im_st (s_putI (tag := 6) (j := 0) dX6_renew_2 rfl fl_X6_11 (sht_sh ht) (sht_lt ht) rfl fw_6_0) ?_
  refine im_st (r_aload_n (i := 0) dX6_renew_5 rfl rfl rfl) ?_
  refine im_st (r_iconst (v := 0) dX6_renew_6 rfl kI_0) ?_
  refine im_st (r_bipush (v := 40) dX6_renew_7 rfl kB_40) ?_
  refine im_st (r_iload_n (i := 2) dX6_renew_9 rfl rfl rfl) ?_
  refine im_st (s_iMin lk_X6_22 (by decide) (Nat.le_of_ble_eq_true rfl) dX6_renew_10 rfl) ?_
  refine im_st (s_iMax lk_X6_28 (by decide) (Nat.le_of_ble_eq_true rfl) dX6_renew_13 rfl) ?_
  refine im_appS (Gm := fun (σ1 : Sg) => Go M_X6_renew Q 0 0 16 [some (.ref t), some (.int a1), some (.int a2)] [.int (iMax (0 : Int32) (iMin (40 : Int32) a2)), .ref t] (mk σ1 τ)) (fun σ1 => ?_)
  refine im_st (s_putI (tag := 6) (j := 1) dX6_renew_16 rfl fl_X6_15 (sht_sh ht) (sht_lt ht) rfl fw_6_1) ?_
  refine im_st (r_aload_n (i := 0) dX6_renew_19 rfl rfl rfl) ?_
  refine im_st (s_getR (b := (t + 1)) (tag := 6) (j := 2) dX6_renew_20 rfl fl_X6_18 (sht_sh ht) (sht_lt ht) rfl (sht_rf2 ht)) ?_
  refine im_st (r_iconst (v := 0) dX6_renew_23 rfl kI_0) ?_
  refine im_appS (Gm := fun (σ2 : Sg) => Go M_X6_renew Q 0 0 24 [some (.ref t), some (.int a1), some (.int a2)] [.int (0 : Int32), .ref (t + 1)] (mk σ2 τ)) (fun σ2 => ?_)
  refine im_st (r_callS (r := none) (kc1 := 0) (ks1 := 0) (st := []) (st1 := []) (es_J7_fill_53178 (t + 1) 40 (0 : Int32) σ2 τ (sht_sh1 ht) (sht_lt1 ht) (by decide)) ms_J7_fill_53178 lk_X6_31 ⟨by decide, by decide⟩ ⟨by decide, by decide⟩ (Nat.le_of_ble_eq_true rfl) dX6_renew_24 rfl rfl rfl rfl rfl) ?_
  exact im_ret (fun q => g_vret rfl rfl rfl dX6_renew_27 q)
theorem e_X6_renew (t : Nat) (a1 : Int32) (a2 : Int32) (σ : Sg) (τ : Sl) (ht : isSh t) : EvD M_X6_renew [.ref t, .int a1, .int a2] (mk σ τ) (none) (mk (f_X6_renew t a1 a2 σ) τ) := EvM.of (by decide +kernel) (Nat.le_of_ble_eq_true rfl) (i_X6_renew t a1 a2 σ τ ht _ _ rfl ⟨rfl, rfl⟩)
def M_X6_refusal : Ms := (yX6_refusal, cX6_refusal, 3, some .int, 0, 0, 0, 0)
theorem mv_X6_refusal : MV M_X6_refusal 2 := ⟨⟨q942, q11, by decide, by decide, by decide +kernel⟩, q940, q941⟩
def f_X6_refusal (t : Nat) (a1 : Int32) (a2 : Int32) (σ : Sg) : Int32 :=
  if (σ t 0) = (-1 : Int32) then
    (1 : Int32)
  else
    if (σ t 0) = a1 then
      if a2 < 0 then
        (2 : Int32)
      else
        if a2 < (σ t 1) then
          (0 : Int32)
        else
          (2 : Int32)
    else
      (3 : Int32)
set_option maxHeartbeats 4000000 in
set_option maxRecDepth 20000 in
theorem i_X6_refusal (t : Nat) (a1 : Int32) (a2 : Int32) (σ : Sg) (τ : Sl) (ht : isSh t) (Q : Option Value → Hp → Prop) : Imp (some (f_X6_refusal t a1 a2 σ)) (fun (y : Int32) => Q (some (.int y)) (mk σ τ)) (Go M_X6_refusal Q 0 0 0 [some (.ref t), some (.int a1), some (.int a2)] [] (mk σ τ)) := by
  unfold f_X6_refusal
  refine im_st (r_aload_n (i := 0) dX6_refusal_0 rfl rfl rfl) ?_
  refine im_st (s_getI (tag := 6) (j := 0) dX6_refusal_1 rfl fl_X6_11 (sht_sh ht) (sht_lt ht) rfl) ?_
  refine im_st (r_iconst (v := -1) dX6_refusal_4 rfl kI_m1) ?_
  refine im_brS (r_icmp_ne (tgt := 10) dX6_refusal_5 rfl (by decide)) (fun c1 => ?_) (fun c1 => ?_)
  · refine im_st (r_iconst (v := 1) dX6_refusal_8 rfl kI_1) ?_
    exact im_ret (fun q => g_iret rfl rfl rfl dX6_refusal_9 q)
  · refine im_st (r_aload_n (i := 0) dX6_refusal_10 rfl rfl rfl) ?_
    refine im_st (s_getI (tag := 6) (j := 0) dX6_refusal_11 rfl fl_X6_11 (sht_sh ht) (sht_lt ht) rfl) ?_
    refine im_st (r_iload_n (i := 1) dX6_refusal_14 rfl rfl rfl) ?_
    refine im_brS (r_icmp_eq (tgt := 20) dX6_refusal_15 rfl (by decide)) (fun c2 => ?_) (fun c2 => ?_)
    · refine im_st (r_iload_n (i := 2) dX6_refusal_20 rfl rfl rfl) ?_
      refine im_brS (r_if_lt (tgt := 32) dX6_refusal_21 rfl (by decide)) (fun c3 => ?_) (fun c3 => ?_)
      · refine im_st (r_iconst (v := 2) dX6_refusal_32 rfl kI_2) ?_
        refine im_st (r_goto (pc1 := 37) dX6_refusal_33 (by decide)) ?_
        exact im_ret (fun q => g_iret rfl rfl rfl dX6_refusal_37 q)
      · refine im_st (r_iload_n (i := 2) dX6_refusal_24 rfl rfl rfl) ?_
        refine im_st (r_aload_n (i := 0) dX6_refusal_25 rfl rfl rfl) ?_
        refine im_st (s_getI (tag := 6) (j := 1) dX6_refusal_26 rfl fl_X6_15 (sht_sh ht) (sht_lt ht) rfl) ?_
        refine im_brS (r_icmp_lt (tgt := 36) dX6_refusal_29 rfl (by decide)) (fun c4 => ?_) (fun c4 => ?_)
        · refine im_st (r_iconst (v := 0) dX6_refusal_36 rfl kI_0) ?_
          exact im_ret (fun q => g_iret rfl rfl rfl dX6_refusal_37 q)
        · refine im_st (r_iconst (v := 2) dX6_refusal_32 rfl kI_2) ?_
          refine im_st (r_goto (pc1 := 37) dX6_refusal_33 (by decide)) ?_
          exact im_ret (fun q => g_iret rfl rfl rfl dX6_refusal_37 q)
    · refine im_st (r_iconst (v := 3) dX6_refusal_18 rfl kI_3) ?_
      exact im_ret (fun q => g_iret rfl rfl rfl dX6_refusal_19 q)
theorem e_X6_refusal (t : Nat) (a1 : Int32) (a2 : Int32) (σ : Sg) (τ : Sl) (ht : isSh t) : EvD M_X6_refusal [.ref t, .int a1, .int a2] (mk σ τ) (some (.int (f_X6_refusal t a1 a2 σ))) (mk σ τ) := EvM.of (by decide +kernel) (Nat.le_of_ble_eq_true rfl) (i_X6_refusal t a1 a2 σ τ ht _ _ rfl ⟨rfl, rfl⟩)
def M_X6_refusalOfTwo : Ms := (yX6_refusalOfTwo, cX6_refusalOfTwo, 4, some .int, 1, 22, 0, 0)
theorem mv_X6_refusalOfTwo : MV M_X6_refusalOfTwo 2 := ⟨⟨q954, q11, by decide, by decide, by decide +kernel⟩, q952, q953⟩
def f_X6_refusalOfTwo (t : Nat) (a1 : Int32) (a2 : Int32) (σ : Sg) : Int32 :=
  app (f_X6_refusal t a1 a2 σ) fun (v1 : Int32) =>
  if v1 = 0 then
    (f_X6_refusal t a1 (a2 + (1 : Int32)) σ)
  else
    v1
set_option maxHeartbeats 4000000 in
set_option maxRecDepth 20000 in
theorem i_X6_refusalOfTwo (t : Nat) (a1 : Int32) (a2 : Int32) (σ : Sg) (τ : Sl) (ht : isSh t) (Q : Option Value → Hp → Prop) : Imp (some (f_X6_refusalOfTwo t a1 a2 σ)) (fun (y : Int32) => Q (some (.int y)) (mk σ τ)) (Go M_X6_refusalOfTwo Q 0 0 0 [some (.ref t), some (.int a1), some (.int a2), none] [] (mk σ τ)) := by
  unfold f_X6_refusalOfTwo
  refine im_st (r_aload_n (i := 0) dX6_refusalOfTwo_0 rfl rfl rfl) ?_
  refine im_st (r_iload_n (i := 1) dX6_refusalOfTwo_1 rfl rfl rfl) ?_
  refine im_st (r_iload_n (i := 2) dX6_refusalOfTwo_2 rfl rfl rfl) ?_
  refine im_st (r_callV (as := [.int a1, .int a2]) (r := some (.int (f_X6_refusal t a1 a2 σ))) (kc1 := 0) (ks1 := 0) (st := []) (st1 := [.int (f_X6_refusal t a1 a2 σ)]) (e_X6_refusal t a1 a2 σ τ ht) mv_X6_refusal lk_X6_37 ⟨by decide, by decide⟩ (sht_sh ht) (sht_lt ht) (by decide) ⟨_, rfl, rfl⟩ ⟨by decide, by decide⟩ (Nat.le_of_ble_eq_true rfl) dX6_refusalOfTwo_3 rfl rfl rfl rfl rfl) ?_
  refine im_appS (Gm := fun (v1 : Int32) => Go M_X6_refusalOfTwo Q 0 0 6 [some (.ref t), some (.int a1), some (.int a2), none] [.int v1] (mk σ τ)) (fun v1 => ?_)
  refine im_st (r_istore_n (i := 3) (L1 := [some (.ref t), some (.int a1), some (.int a2), some (.int v1)]) dX6_refusalOfTwo_6 rfl rfl (by decide) rfl) ?_
  refine im_st (r_iload_n (i := 3) dX6_refusalOfTwo_7 rfl rfl rfl) ?_
  refine im_brS (r_if_eq (tgt := 15) dX6_refusalOfTwo_8 rfl (by decide)) (fun c2 => ?_) (fun c2 => ?_)
  · refine im_st (r_aload_n (i := 0) dX6_refusalOfTwo_15 rfl rfl rfl) ?_
    refine im_st (r_iload_n (i := 1) dX6_refusalOfTwo_16 rfl rfl rfl) ?_
    refine im_st (r_iload_n (i := 2) dX6_refusalOfTwo_17 rfl rfl rfl) ?_
    refine im_st (r_iconst (v := 1) dX6_refusalOfTwo_18 rfl kI_1) ?_
    refine im_st (r_iadd dX6_refusalOfTwo_19 rfl) ?_
    refine im_st (r_callV (as := [.int a1, .int (a2 + (1 : Int32))]) (r := some (.int (f_X6_refusal t a1 (a2 + (1 : Int32)) σ))) (kc1 := 0) (ks1 := 0) (st := []) (st1 := [.int (f_X6_refusal t a1 (a2 + (1 : Int32)) σ)]) (e_X6_refusal t a1 (a2 + (1 : Int32)) σ τ ht) mv_X6_refusal lk_X6_37 ⟨by decide, by decide⟩ (sht_sh ht) (sht_lt ht) (by decide) ⟨_, rfl, rfl⟩ ⟨by decide, by decide⟩ (Nat.le_of_ble_eq_true rfl) dX6_refusalOfTwo_20 rfl rfl rfl rfl rfl) ?_
    exact im_ret (fun q => g_iret rfl rfl rfl dX6_refusalOfTwo_23 q)
  · refine im_st (r_iload_n (i := 3) dX6_refusalOfTwo_11 rfl rfl rfl) ?_
    refine im_st (r_goto (pc1 := 23) dX6_refusalOfTwo_12 (by decide)) ?_
    exact im_ret (fun q => g_iret rfl rfl rfl dX6_refusalOfTwo_23 q)
theorem e_X6_refusalOfTwo (t : Nat) (a1 : Int32) (a2 : Int32) (σ : Sg) (τ : Sl) (ht : isSh t) : EvD M_X6_refusalOfTwo [.ref t, .int a1, .int a2] (mk σ τ) (some (.int (f_X6_refusalOfTwo t a1 a2 σ))) (mk σ τ) := EvM.of (by decide +kernel) (Nat.le_of_ble_eq_true rfl) (i_X6_refusalOfTwo t a1 a2 σ τ ht _ _ rfl ⟨rfl, rfl⟩)
def M_X6_store : Ms := (yX6_store, cX6_store, 3, none, 0, 0, 0, 0)
theorem mv_X6_store : MV M_X6_store 2 := ⟨⟨q946, q11, by decide, by decide, by decide +kernel⟩, q944, q945⟩
def f_X6_store (t : Nat) (a1 : Int32) (a2 : Int32) (σ : Sg) : Option Sg :=
  if a1 < 0 then
    some σ
  else
    if a1 < (σ t 1) then
      app (σ t 0) fun (v3 : Int32) =>
      if v3 = 0 then
        if inR a1 40 then
        some (up2 σ (t + 1) a1.toNatClampNeg (a2.toInt8.toInt32))
        else none
      else
        if v3 = 1 then
          if inR a1 40 then
          some (up2 σ (t + 1) a1.toNatClampNeg (a2.toInt16.toInt32))
          else none
        else
          if inR a1 40 then
          some (up2 σ (t + 1) a1.toNatClampNeg a2)
          else none
    else
      some σ
set_option maxHeartbeats 4000000 in
set_option maxRecDepth 20000 in
theorem i_X6_store (t : Nat) (a1 : Int32) (a2 : Int32) (σ : Sg) (τ : Sl) (ht : isSh t) (Q : Option Value → Hp → Prop) : Imp (f_X6_store t a1 a2 σ) (fun (y : Sg) => Q (none) (mk y τ)) (Go M_X6_store Q 0 0 0 [some (.ref t), some (.int a1), some (.int a2)] [] (mk σ τ)) := by
  unfold f_X6_store
  refine im_st (r_iload_n (i := 1) dX6_store_0 rfl rfl rfl) ?_
  refine im_br (r_if_lt (tgt := 12) dX6_store_1 rfl (by decide)) (fun c1 => ?_) (fun c1 => ?_)
  · exact im_ret (fun q => g_vret rfl rfl rfl dX6_store_12 q)
  · refine im_st (r_iload_n (i := 1) dX6_store_4 rfl rfl rfl) ?_
    refine im_st (r_aload_n (i := 0) dX6_store_5 rfl rfl rfl) ?_
    refine im_st (s_getI (tag := 6) (j := 1) dX6_store_6 rfl fl_X6_15 (sht_sh ht) (sht_lt ht) rfl) ?_
    refine im_br (r_icmp_lt (tgt := 13) dX6_store_9 rfl (by decide)) (fun c2 => ?_) (fun c2 => ?_)
    · refine im_st (r_aload_n (i := 0) dX6_store_13 rfl rfl rfl) ?_
      refine im_st (s_getI (tag := 6) (j := 0) dX6_store_14 rfl fl_X6_11 (sht_sh ht) (sht_lt ht) rfl) ?_
      refine im_app (Gm := fun (v3 : Int32) => Go M_X6_store Q 0 0 17 [some (.ref t), some (.int a1), some (.int a2)] [.int v3] (mk σ τ)) (fun v3 => ?_)
      refine im_if (fun c4 => ?_) (fun c4 => ?_)
      · refine im_st (r_look (off := 27) (pc1 := 44) dX6_store_17 (by decide) (by rw [c4]; decide) (by decide)) ?_
        refine im_st (r_aload_n (i := 0) dX6_store_44 rfl rfl rfl) ?_
        refine im_st (s_getR (b := (t + 1)) (tag := 6) (j := 2) dX6_store_45 rfl fl_X6_18 (sht_sh ht) (sht_lt ht) rfl (sht_rf2 ht)) ?_
        refine im_st (r_iload_n (i := 1) dX6_store_48 rfl rfl rfl) ?_
        refine im_st (r_iload_n (i := 2) dX6_store_49 rfl rfl rfl) ?_
        refine im_st (r_i2b (v := a2.toInt8.toInt32) dX6_store_50 rfl rfl) ?_
        refine im_grd (fun g5 => ?_)
        refine im_st (s_iastore dX6_store_51 rfl (sht_sh1 ht) (sht_lt1 ht) (inR_in g5)) ?_
        refine im_st (r_goto (pc1 := 73) dX6_store_52 (by decide)) ?_
        exact im_ret (fun q => g_vret rfl rfl rfl dX6_store_73 q)
      · refine im_if (fun c6 => ?_) (fun c6 => ?_)
        · refine im_st (r_look (off := 38) (pc1 := 55) dX6_store_17 (by decide) (by rw [c6]; decide) (by decide)) ?_
          refine im_st (r_aload_n (i := 0) dX6_store_55 rfl rfl rfl) ?_
          refine im_st (s_getR (b := (t + 1)) (tag := 6) (j := 2) dX6_store_56 rfl fl_X6_18 (sht_sh ht) (sht_lt ht) rfl (sht_rf2 ht)) ?_
          refine im_st (r_iload_n (i := 1) dX6_store_59 rfl rfl rfl) ?_
          refine im_st (r_iload_n (i := 2) dX6_store_60 rfl rfl rfl) ?_
          refine im_st (r_i2s (v := a2.toInt16.toInt32) dX6_store_61 rfl rfl) ?_
          refine im_grd (fun g7 => ?_)
          refine im_st (s_iastore dX6_store_62 rfl (sht_sh1 ht) (sht_lt1 ht) (inR_in g7)) ?_
          refine im_st (r_goto (pc1 := 73) dX6_store_63 (by decide)) ?_
          exact im_ret (fun q => g_vret rfl rfl rfl dX6_store_73 q)
        · refine im_st (r_look (off := 49) (pc1 := 66) dX6_store_17 (by decide) (by show Op.lookupswitch.offset [(0, 27), (1, 38)] _ _ = _; rw [lv_osw c4 (a := 0) (by decide), lv_osw c6 (a := 1) (by decide)]; rfl) (by decide)) ?_
          refine im_st (r_aload_n (i := 0) dX6_store_66 rfl rfl rfl) ?_
          refine im_st (s_getR (b := (t + 1)) (tag := 6) (j := 2) dX6_store_67 rfl fl_X6_18 (sht_sh ht) (sht_lt ht) rfl (sht_rf2 ht)) ?_
          refine im_st (r_iload_n (i := 1) dX6_store_70 rfl rfl rfl) ?_
          refine im_st (r_iload_n (i := 2) dX6_store_71 rfl rfl rfl) ?_
          refine im_grd (fun g8 => ?_)
          refine im_st (s_iastore dX6_store_72 rfl (sht_sh1 ht) (sht_lt1 ht) (inR_in g8)) ?_
          exact im_ret (fun q => g_vret rfl rfl rfl dX6_store_73 q)
    · exact im_ret (fun q => g_vret rfl rfl rfl dX6_store_12 q)
theorem e_X6_store (t : Nat) (a1 : Int32) (a2 : Int32) (σ : Sg) (τ : Sl) (ht : isSh t) (y : Sg) (hy : f_X6_store t a1 a2 σ = some y) : EvD M_X6_store [.ref t, .int a1, .int a2] (mk σ τ) (none) (mk y τ) := EvM.of (by decide +kernel) (Nat.le_of_ble_eq_true rfl) (i_X6_store t a1 a2 σ τ ht _ y hy ⟨rfl, rfl⟩)
def M_X6_stored : Ms := (yX6_stored, cX6_stored, 2, some .int, 0, 0, 0, 0)
theorem mv_X6_stored : MV M_X6_stored 1 := ⟨⟨q959, q11, by decide, by decide, by decide +kernel⟩, q957, q958⟩
def f_X6_stored (t : Nat) (a1 : Int32) (σ : Sg) : Option Int32 :=
  if a1 < 0 then
    some (0 : Int32)
  else
    if (σ t 1) ≤ a1 then
      some (0 : Int32)
    else
      if inR a1 40 then
      some (σ (t + 1) a1.toNatClampNeg)
      else none
set_option maxHeartbeats 4000000 in
set_option maxRecDepth 20000 in
theorem i_X6_stored (t : Nat) (a1 : Int32) (σ : Sg) (τ : Sl) (ht : isSh t) (Q : Option Value → Hp → Prop) : Imp (f_X6_stored t a1 σ) (fun (y : Int32) => Q (some (.int y)) (mk σ τ)) (Go M_X6_stored Q 0 0 0 [some (.ref t), some (.int a1)] [] (mk σ τ)) := by
  unfold f_X6_stored
  refine im_st (r_iload_n (i := 1) dX6_stored_0 rfl rfl rfl) ?_
  refine im_br (r_if_lt (tgt := 21) dX6_stored_1 rfl (by decide)) (fun c1 => ?_) (fun c1 => ?_)
  · refine im_st (r_iconst (v := 0) dX6_stored_21 rfl kI_0) ?_
    exact im_ret (fun q => g_iret rfl rfl rfl dX6_stored_22 q)
  · refine im_st (r_iload_n (i := 1) dX6_stored_4 rfl rfl rfl) ?_
    refine im_st (r_aload_n (i := 0) dX6_stored_5 rfl rfl rfl) ?_
    refine im_st (s_getI (tag := 6) (j := 1) dX6_stored_6 rfl fl_X6_15 (sht_sh ht) (sht_lt ht) rfl) ?_
    refine im_br (r_icmp_ge (tgt := 21) dX6_stored_9 rfl (by decide)) (fun c2 => ?_) (fun c2 => ?_)
    · refine im_st (r_iconst (v := 0) dX6_stored_21 rfl kI_0) ?_
      exact im_ret (fun q => g_iret rfl rfl rfl dX6_stored_22 q)
    · refine im_st (r_aload_n (i := 0) dX6_stored_12 rfl rfl rfl) ?_
      refine im_st (s_getR (b := (t + 1)) (tag := 6) (j := 2) dX6_stored_13 rfl fl_X6_18 (sht_sh ht) (sht_lt ht) rfl (sht_rf2 ht)) ?_
      refine im_st (r_iload_n (i := 1) dX6_stored_16 rfl rfl rfl) ?_
      refine im_grd (fun g3 => ?_)
      refine im_st (s_iaload dX6_stored_17 rfl (sht_sh1 ht) (sht_lt1 ht) (inR_in g3)) ?_
      refine im_st (r_goto (pc1 := 22) dX6_stored_18 (by decide)) ?_
      exact im_ret (fun q => g_iret rfl rfl rfl dX6_stored_22 q)
theorem e_X6_stored (t : Nat) (a1 : Int32) (σ : Sg) (τ : Sl) (ht : isSh t) (y : Int32) (hy : f_X6_stored t a1 σ = some y) : EvD M_X6_stored [.ref t, .int a1] (mk σ τ) (some (.int y)) (mk σ τ) := EvM.of (by decide +kernel) (Nat.le_of_ble_eq_true rfl) (i_X6_stored t a1 σ τ ht _ y hy ⟨rfl, rfl⟩)
def M_X8_add : Ms := (yX8_add, cX8_add, 2, some .int, 0, 0, 0, 0)
theorem mv_X8_add : MV M_X8_add 1 := ⟨⟨q343, q9, by decide, by decide, by decide +kernel⟩, q341, q342⟩
def f_X8_add (a1 : Int32) (σ : Sg) : Option (Int32 × Sg) :=
  if (σ 54 1) < (160 : Int32) then
    if inR (σ 54 1) 160 then
    app (up2 σ 55 (σ 54 1).toNatClampNeg a1) fun (σ3 : Sg) =>
    app (up2 σ3 54 1 ((σ3 54 1) + (1 : Int32))) fun (σ4 : Sg) =>
    some ((σ4 54 1), σ4)
    else none
  else
    some ((-3 : Int32), σ)
set_option maxHeartbeats 4000000 in
set_option maxRecDepth 20000 in
theorem i_X8_add (a1 : Int32) (σ : Sg) (τ : Sl) (Q : Option Value → Hp → Prop) : Imp (f_X8_add a1 σ) (fun (y : (Int32 × Sg)) => Q (some (.int y.1)) (mk y.2 τ)) (Go M_X8_add Q 0 0 0 [some (.ref 54), some (.int a1)] [] (mk σ τ)) := by
  unfold f_X8_add
  refine im_st (r_aload_n (i := 0) dX8_add_0 rfl rfl rfl) ?_
  refine im_st (s_getI (tag := 8) (j := 1) dX8_add_1 rfl fl_X8_15 rfl (Nat.le_of_ble_eq_true rfl) rfl) ?_
  refine im_st (r_sipush (v := 160) dX8_add_4 rfl kS_160) ?_
  refine im_br (r_icmp_lt (tgt := 13) dX8_add_7 rfl (by decide)) (fun c1 => ?_) (fun c1 => ?_)
  · refine im_st (r_aload_n (i := 0) dX8_add_13 rfl rfl rfl) ?_
    refine im_st (s_getR (b := 55) (tag := 8) (j := 0) dX8_add_14 rfl fl_X8_9 rfl (Nat.le_of_ble_eq_true rfl) rfl rfl) ?_
    refine im_st (r_aload_n (i := 0) dX8_add_17 rfl rfl rfl) ?_
    refine im_st (s_getI (tag := 8) (j := 1) dX8_add_18 rfl fl_X8_15 rfl (Nat.le_of_ble_eq_true rfl) rfl) ?_
    refine im_st (r_iload_n (i := 1) dX8_add_21 rfl rfl rfl) ?_
    refine im_grd (fun g2 => ?_)
    refine im_st (s_iastore dX8_add_22 rfl rfl (Nat.le_of_ble_eq_true rfl) (inR_in g2)) ?_
    refine im_st (r_aload_n (i := 0) dX8_add_23 rfl rfl rfl) ?_
    refine im_st (r_dup dX8_add_24 rfl rfl) ?_
    refine im_app (Gm := fun (σ3 : Sg) => Go M_X8_add Q 0 0 25 [some (.ref 54), some (.int a1)] [.ref 54, .ref 54] (mk σ3 τ)) (fun σ3 => ?_)
    refine im_st (s_getI (tag := 8) (j := 1) dX8_add_25 rfl fl_X8_15 rfl (Nat.le_of_ble_eq_true rfl) rfl) ?_
    refine im_st (r_iconst (v := 1) dX8_add_28 rfl kI_1) ?_
    refine im_st (r_iadd dX8_add_29 rfl) ?_
    refine im_st (s_putI (tag := 8) (j := 1) dX8_add_30 rfl fl_X8_15 rfl (Nat.le_of_ble_eq_true rfl) rfl fw_8_1) ?_
    refine im_st (r_aload_n (i := 0) dX8_add_33 rfl rfl rfl) ?_
    refine im_app (Gm := fun (σ4 : Sg) => Go M_X8_add Q 0 0 34 [some (.ref 54), some (.int a1)] [.ref 54] (mk σ4 τ)) (fun σ4 => ?_)
    refine im_st (s_getI (tag := 8) (j := 1) dX8_add_34 rfl fl_X8_15 rfl (Nat.le_of_ble_eq_true rfl) rfl) ?_
    exact im_ret (fun q => g_iret rfl rfl rfl dX8_add_37 q)
  · refine im_st (r_bipush (v := -3) dX8_add_10 rfl kB_m3) ?_
    exact im_ret (fun q => g_iret rfl rfl rfl dX8_add_12 q)
theorem e_X8_add (a1 : Int32) (σ : Sg) (τ : Sl) (y : (Int32 × Sg)) (hy : f_X8_add a1 σ = some y) : EvD M_X8_add [.ref 54, .int a1] (mk σ τ) (some (.int y.1)) (mk y.2 τ) := EvM.of (by decide +kernel) (Nat.le_of_ble_eq_true rfl) (i_X8_add a1 σ τ _ y hy ⟨rfl, rfl⟩)
