def M_X9_isRag : Ms := (yX9_isRag, cX9_isRag, 1, some .boolean, 0, 0, 0, 0)
theorem ms_X9_isRag : MS M_X9_isRag 1 := ⟨⟨q470, q1, by decide, by decide, by decide +kernel⟩, q469⟩
def f_X9_isRag (a0 : Int32) : Int32 :=
  if a0 < 0 then
    (0 : Int32)
  else
    if (4 : Int32) ≤ a0 then
      (0 : Int32)
    else
      (1 : Int32)
theorem z_X9_isRag (a0 : Int32) : isB (f_X9_isRag a0) = true := by
  unfold f_X9_isRag
  (repeat' split) <;> first | rfl
set_option maxHeartbeats 4000000 in
set_option maxRecDepth 20000 in
theorem i_X9_isRag (a0 : Int32) (σ : Sg) (τ : Sl) (Q : Option Value → Hp → Prop) : Imp (some (f_X9_isRag a0)) (fun (y : Int32) => Q (some (.int y)) (mk σ τ)) (Go M_X9_isRag Q 0 0 0 [some (.int a0)] [] (mk σ τ)) := by
  unfold f_X9_isRag
  refine im_st (r_iload_n (i := 0) dX9_isRag_0 rfl rfl rfl) ?_
  refine im_brS (r_if_lt (tgt := 13) dX9_isRag_1 rfl (by decide)) (fun c1 => ?_) (fun c1 => ?_)
  · refine im_st (r_iconst (v := 0) dX9_isRag_13 rfl kI_0) ?_
    exact im_ret (fun q => g_zret (ty := .boolean) rfl rfl rfl rfl dX9_isRag_14 q)
  · refine im_st (r_iload_n (i := 0) dX9_isRag_4 rfl rfl rfl) ?_
    refine im_st (r_iconst (v := 4) dX9_isRag_5 rfl kI_4) ?_
    refine im_brS (r_icmp_ge (tgt := 13) dX9_isRag_6 rfl (by decide)) (fun c2 => ?_) (fun c2 => ?_)
    · refine im_st (r_iconst (v := 0) dX9_isRag_13 rfl kI_0) ?_
      exact im_ret (fun q => g_zret (ty := .boolean) rfl rfl rfl rfl dX9_isRag_14 q)
    · refine im_st (r_iconst (v := 1) dX9_isRag_9 rfl kI_1) ?_
      refine im_st (r_goto (pc1 := 14) dX9_isRag_10 (by decide)) ?_
      exact im_ret (fun q => g_zret (ty := .boolean) rfl rfl rfl rfl dX9_isRag_14 q)
theorem e_X9_isRag (a0 : Int32) (σ : Sg) (τ : Sl) : EvD M_X9_isRag [.int a0] (mk σ τ) (some (.int (f_X9_isRag a0))) (mk σ τ) := EvM.of (by decide +kernel) (Nat.le_of_ble_eq_true rfl) (i_X9_isRag a0 σ τ _ _ rfl ⟨rfl, rfl⟩)
def M_J6_bitCount_0f7a4 : Ms := (yJ6_bitCount_0f7a4, cJ6_bitCount_0f7a4, 1, some .int, 0, 0, 0, 0)
theorem ms_J6_bitCount_0f7a4 : MS M_J6_bitCount_0f7a4 1 := ⟨⟨q693, q19, by decide, by decide, by decide +kernel⟩, q692⟩
def f_J6_bitCount_0f7a4 (a0 : Int32) : Int32 :=
  app (a0 - ((ushr a0 (1 : Int32)) &&& (1431655765 : Int32))) fun (v1 : Int32) =>
  app ((v1 &&& (858993459 : Int32)) + ((ushr v1 (2 : Int32)) &&& (858993459 : Int32))) fun (v2 : Int32) =>
  app ((v2 + (ushr v2 (4 : Int32))) &&& (252645135 : Int32)) fun (v3 : Int32) =>
  app (v3 + (ushr v3 (8 : Int32))) fun (v4 : Int32) =>
  app (v4 + (ushr v4 (16 : Int32))) fun (v5 : Int32) =>
  (v5 &&& (63 : Int32))
set_option maxHeartbeats 4000000 in
set_option maxRecDepth 20000 in
theorem i_J6_bitCount_0f7a4 (a0 : Int32) (σ : Sg) (τ : Sl) (Q : Option Value → Hp → Prop) : Imp (some (f_J6_bitCount_0f7a4 a0)) (fun (y : Int32) => Q (some (.int y)) (mk σ τ)) (Go M_J6_bitCount_0f7a4 Q 0 0 0 [some (.int a0)] [] (mk σ τ)) := by
  unfold f_J6_bitCount_0f7a4
  refine im_st (r_iload_n (i := 0) dJ6_bitCount_0f7a4_0 rfl rfl rfl) ?_
  refine im_st (r_iload_n (i := 0) dJ6_bitCount_0f7a4_1 rfl rfl rfl) ?_
  refine im_st (r_iconst (v := 1) dJ6_bitCount_0f7a4_2 rfl kI_1) ?_
  refine im_st (r_iushr (v := (ushr a0 (1 : Int32))) dJ6_bitCount_0f7a4_3 rfl rfl) ?_
  refine im_st (r_ldcw (v := 1431655765) dJ6_bitCount_0f7a4_4 rfl q694) ?_
  refine im_st (r_iand dJ6_bitCount_0f7a4_7 rfl) ?_
  refine im_st (r_isub dJ6_bitCount_0f7a4_8 rfl) ?_
  refine im_appS (Gm := fun (v1 : Int32) => Go M_J6_bitCount_0f7a4 Q 0 0 9 [some (.int a0)] [.int v1] (mk σ τ)) (fun v1 => ?_)
  refine im_st (r_istore_n (i := 0) (L1 := [some (.int v1)]) dJ6_bitCount_0f7a4_9 rfl rfl (by decide) rfl) ?_
  refine im_st (r_iload_n (i := 0) dJ6_bitCount_0f7a4_10 rfl rfl rfl) ?_
  refine im_st (r_ldcw (v := 858993459) dJ6_bitCount_0f7a4_11 rfl q695) ?_
  refine im_st (r_iand dJ6_bitCount_0f7a4_14 rfl) ?_
  refine im_st (r_iload_n (i := 0) dJ6_bitCount_0f7a4_15 rfl rfl rfl) ?_
  refine im_st (r_iconst (v := 2) dJ6_bitCount_0f7a4_16 rfl kI_2) ?_
  refine im_st (r_iushr (v := (ushr v1 (2 : Int32))) dJ6_bitCount_0f7a4_17 rfl rfl) ?_
  refine im_st (r_ldcw (v := 858993459) dJ6_bitCount_0f7a4_18 rfl q695) ?_
  refine im_st (r_iand dJ6_bitCount_0f7a4_21 rfl) ?_
  refine im_st (r_iadd dJ6_bitCount_0f7a4_22 rfl) ?_
  refine im_appS (Gm := fun (v2 : Int32) => Go M_J6_bitCount_0f7a4 Q 0 0 23 [some (.int v1)] [.int v2] (mk σ τ)) (fun v2 => ?_)
  refine im_st (r_istore_n (i := 0) (L1 := [some (.int v2)]) dJ6_bitCount_0f7a4_23 rfl rfl (by decide) rfl) ?_
  refine im_st (r_iload_n (i := 0) dJ6_bitCount_0f7a4_24 rfl rfl rfl) ?_
  refine im_st (r_iload_n (i := 0) dJ6_bitCount_0f7a4_25 rfl rfl rfl) ?_
  refine im_st (r_iconst (v := 4) dJ6_bitCount_0f7a4_26 rfl kI_4) ?_
  refine im_st (r_iushr (v := (ushr v2 (4 : Int32))) dJ6_bitCount_0f7a4_27 rfl rfl) ?_
  refine im_st (r_iadd dJ6_bitCount_0f7a4_28 rfl) ?_
  refine im_st (r_ldcw (v := 252645135) dJ6_bitCount_0f7a4_29 rfl q696) ?_
  refine im_st (r_iand dJ6_bitCount_0f7a4_32 rfl) ?_
  refine im_appS (Gm := fun (v3 : Int32) => Go M_J6_bitCount_0f7a4 Q 0 0 33 [some (.int v2)] [.int v3] (mk σ τ)) (fun v3 => ?_)
  refine im_st (r_istore_n (i := 0) (L1 := [some (.int v3)]) dJ6_bitCount_0f7a4_33 rfl rfl (by decide) rfl) ?_
  refine im_st (r_iload_n (i := 0) dJ6_bitCount_0f7a4_34 rfl rfl rfl) ?_
  refine im_st (r_iload_n (i := 0) dJ6_bitCount_0f7a4_35 rfl rfl rfl) ?_
  refine im_st (r_bipush (v := 8) dJ6_bitCount_0f7a4_36 rfl kB_8) ?_
  refine im_st (r_iushr (v := (ushr v3 (8 : Int32))) dJ6_bitCount_0f7a4_38 rfl rfl) ?_
  refine im_st (r_iadd dJ6_bitCount_0f7a4_39 rfl) ?_
  refine im_appS (Gm := fun (v4 : Int32) => Go M_J6_bitCount_0f7a4 Q 0 0 40 [some (.int v3)] [.int v4] (mk σ τ)) (fun v4 => ?_)
  refine im_st (r_istore_n (i := 0) (L1 := [some (.int v4)]) dJ6_bitCount_0f7a4_40 rfl rfl (by decide) rfl) ?_
  refine im_st (r_iload_n (i := 0) dJ6_bitCount_0f7a4_41 rfl rfl rfl) ?_
  refine im_st (r_iload_n (i := 0) dJ6_bitCount_0f7a4_42 rfl rfl rfl) ?_
  refine im_st (r_bipush (v := 16) dJ6_bitCount_0f7a4_43 rfl kB_16) ?_
  refine im_st (r_iushr (v := (ushr v4 (16 : Int32))) dJ6_bitCount_0f7a4_45 rfl rfl) ?_
  refine im_st (r_iadd dJ6_bitCount_0f7a4_46 rfl) ?_
  refine im_appS (Gm := fun (v5 : Int32) => Go M_J6_bitCount_0f7a4 Q 0 0 47 [some (.int v4)] [.int v5] (mk σ τ)) (fun v5 => ?_)
  refine im_st (r_istore_n (i := 0) (L1 := [some (.int v5)]) dJ6_bitCount_0f7a4_47 rfl rfl (by decide) rfl) ?_
  refine im_st (r_iload_n (i := 0) dJ6_bitCount_0f7a4_48 rfl rfl rfl) ?_
  refine im_st (r_bipush (v := 63) dJ6_bitCount_0f7a4_49 rfl kB_63) ?_
  refine im_st (r_iand dJ6_bitCount_0f7a4_51 rfl) ?_
  exact im_ret (fun q => g_iret rfl rfl rfl dJ6_bitCount_0f7a4_52 q)
theorem e_J6_bitCount_0f7a4 (a0 : Int32) (σ : Sg) (τ : Sl) : EvD M_J6_bitCount_0f7a4 [.int a0] (mk σ τ) (some (.int (f_J6_bitCount_0f7a4 a0))) (mk σ τ) := EvM.of (by decide +kernel) (Nat.le_of_ble_eq_true rfl) (i_J6_bitCount_0f7a4 a0 σ τ _ _ rfl ⟨rfl, rfl⟩)
def M_X7_isPeg : Ms := (yX7_isPeg, cX7_isPeg, 2, some .boolean, 0, 0, 0, 0)
theorem mv_X7_isPeg : MV M_X7_isPeg 1 := ⟨⟨q555, q2, by decide, by decide, by decide +kernel⟩, q553, q554⟩
def f_X7_isPeg (b : Nat) (a1 : Int32) (σ : Sg) : Int32 :=
  if a1 < 0 then
    (0 : Int32)
  else
    if (σ b 2) ≤ a1 then
      (0 : Int32)
    else
      (1 : Int32)
theorem z_X7_isPeg (b : Nat) (a1 : Int32) (σ : Sg) : isB (f_X7_isPeg b a1 σ) = true := by
  unfold f_X7_isPeg
  (repeat' split) <;> first | rfl
set_option maxHeartbeats 4000000 in
set_option maxRecDepth 20000 in
theorem i_X7_isPeg (b : Nat) (a1 : Int32) (σ : Sg) (τ : Sl) (hb : isSl b) (Q : Option Value → Hp → Prop) : Imp (some (f_X7_isPeg b a1 σ)) (fun (y : Int32) => Q (some (.int y)) (mk σ τ)) (Go M_X7_isPeg Q 0 0 0 [some (.ref b), some (.int a1)] [] (mk σ τ)) := by
  unfold f_X7_isPeg
  refine im_st (r_iload_n (i := 1) dX7_isPeg_0 rfl rfl rfl) ?_
  refine im_brS (r_if_lt (tgt := 16) dX7_isPeg_1 rfl (by decide)) (fun c1 => ?_) (fun c1 => ?_)
  · refine im_st (r_iconst (v := 0) dX7_isPeg_16 rfl kI_0) ?_
    exact im_ret (fun q => g_zret (ty := .boolean) rfl rfl rfl rfl dX7_isPeg_17 q)
  · refine im_st (r_iload_n (i := 1) dX7_isPeg_4 rfl rfl rfl) ?_
    refine im_st (r_aload_n (i := 0) dX7_isPeg_5 rfl rfl rfl) ?_
    refine im_st (s_getI (tag := 7) (j := 2) dX7_isPeg_6 rfl fl_X7_18 (sl_sh hb) (sl_lt hb) rfl) ?_
    refine im_brS (r_icmp_ge (tgt := 16) dX7_isPeg_9 rfl (by decide)) (fun c2 => ?_) (fun c2 => ?_)
    · refine im_st (r_iconst (v := 0) dX7_isPeg_16 rfl kI_0) ?_
      exact im_ret (fun q => g_zret (ty := .boolean) rfl rfl rfl rfl dX7_isPeg_17 q)
    · refine im_st (r_iconst (v := 1) dX7_isPeg_12 rfl kI_1) ?_
      refine im_st (r_goto (pc1 := 17) dX7_isPeg_13 (by decide)) ?_
      exact im_ret (fun q => g_zret (ty := .boolean) rfl rfl rfl rfl dX7_isPeg_17 q)
theorem e_X7_isPeg (b : Nat) (a1 : Int32) (σ : Sg) (τ : Sl) (hb : isSl b) : EvD M_X7_isPeg [.ref b, .int a1] (mk σ τ) (some (.int (f_X7_isPeg b a1 σ))) (mk σ τ) := EvM.of (by decide +kernel) (Nat.le_of_ble_eq_true rfl) (i_X7_isPeg b a1 σ τ hb _ _ rfl ⟨rfl, rfl⟩)
def M_X7_standingAt : Ms := (yX7_standingAt, cX7_standingAt, 2, some .int, 0, 0, 0, 0)
theorem mv_X7_standingAt : MV M_X7_standingAt 1 := ⟨⟨q551, q2, by decide, by decide, by decide +kernel⟩, q549, q550⟩
def f_X7_standingAt (b : Nat) (a1 : Int32) (σ : Sg) : Option Int32 :=
  if a1 < 0 then
    some (-1 : Int32)
  else
    if (100 : Int32) ≤ a1 then
      some (-1 : Int32)
    else
      if inR a1 100 then
      some (σ (b + 8) a1.toNatClampNeg)
      else none
set_option maxHeartbeats 4000000 in
set_option maxRecDepth 20000 in
theorem i_X7_standingAt (b : Nat) (a1 : Int32) (σ : Sg) (τ : Sl) (hb : isSl b) (Q : Option Value → Hp → Prop) : Imp (f_X7_standingAt b a1 σ) (fun (y : Int32) => Q (some (.int y)) (mk σ τ)) (Go M_X7_standingAt Q 0 0 0 [some (.ref b), some (.int a1)] [] (mk σ τ)) := by
  unfold f_X7_standingAt
  refine im_st (r_iload_n (i := 1) dX7_standingAt_0 rfl rfl rfl) ?_
  refine im_br (r_if_lt (tgt := 19) dX7_standingAt_1 rfl (by decide)) (fun c1 => ?_) (fun c1 => ?_)
  · refine im_st (r_iconst (v := -1) dX7_standingAt_19 rfl kI_m1) ?_
    exact im_ret (fun q => g_iret rfl rfl rfl dX7_standingAt_20 q)
  · refine im_st (r_iload_n (i := 1) dX7_standingAt_4 rfl rfl rfl) ?_
    refine im_st (r_bipush (v := 100) dX7_standingAt_5 rfl kB_100) ?_
    refine im_br (r_icmp_ge (tgt := 19) dX7_standingAt_7 rfl (by decide)) (fun c2 => ?_) (fun c2 => ?_)
    · refine im_st (r_iconst (v := -1) dX7_standingAt_19 rfl kI_m1) ?_
      exact im_ret (fun q => g_iret rfl rfl rfl dX7_standingAt_20 q)
    · refine im_st (r_aload_n (i := 0) dX7_standingAt_10 rfl rfl rfl) ?_
      refine im_st (s_getR (b := (b + 8)) (tag := 7) (j := 11) dX7_standingAt_11 rfl fl_X7_46 (sl_sh hb) (sl_lt hb) rfl (sl_rf11 hb)) ?_
      refine im_st (r_iload_n (i := 1) dX7_standingAt_14 rfl rfl rfl) ?_
      refine im_grd (fun g3 => ?_)
      refine im_st (s_iaload dX7_standingAt_15 rfl (sl_sh8 hb) (sl_lt8 hb) (inR_in g3)) ?_
      refine im_st (r_goto (pc1 := 20) dX7_standingAt_16 (by decide)) ?_
      exact im_ret (fun q => g_iret rfl rfl rfl dX7_standingAt_20 q)
theorem e_X7_standingAt (b : Nat) (a1 : Int32) (σ : Sg) (τ : Sl) (hb : isSl b) (y : Int32) (hy : f_X7_standingAt b a1 σ = some y) : EvD M_X7_standingAt [.ref b, .int a1] (mk σ τ) (some (.int y)) (mk σ τ) := EvM.of (by decide +kernel) (Nat.le_of_ble_eq_true rfl) (i_X7_standingAt b a1 σ τ hb _ y hy ⟨rfl, rfl⟩)
def M_X7_isHedgehog : Ms := (yX7_isHedgehog, cX7_isHedgehog, 2, some .boolean, 0, 0, 0, 0)
theorem mv_X7_isHedgehog : MV M_X7_isHedgehog 1 := ⟨⟨q509, q2, by decide, by decide, by decide +kernel⟩, q507, q508⟩
def f_X7_isHedgehog (b : Nat) (a1 : Int32) (σ : Sg) : Int32 :=
  if a1 < 0 then
    (0 : Int32)
  else
    if (σ b 7) ≤ a1 then
      (0 : Int32)
    else
      (1 : Int32)
theorem z_X7_isHedgehog (b : Nat) (a1 : Int32) (σ : Sg) : isB (f_X7_isHedgehog b a1 σ) = true := by
  unfold f_X7_isHedgehog
  (repeat' split) <;> first | rfl
set_option maxHeartbeats 4000000 in
set_option maxRecDepth 20000 in
theorem i_X7_isHedgehog (b : Nat) (a1 : Int32) (σ : Sg) (τ : Sl) (hb : isSl b) (Q : Option Value → Hp → Prop) : Imp (some (f_X7_isHedgehog b a1 σ)) (fun (y : Int32) => Q (some (.int y)) (mk σ τ)) (Go M_X7_isHedgehog Q 0 0 0 [some (.ref b), some (.int a1)] [] (mk σ τ)) := by
  unfold f_X7_isHedgehog
  refine im_st (r_iload_n (i := 1) dX7_isHedgehog_0 rfl rfl rfl) ?_
  refine im_brS (r_if_lt (tgt := 16) dX7_isHedgehog_1 rfl (by decide)) (fun c1 => ?_) (fun c1 => ?_)
  · refine im_st (r_iconst (v := 0) dX7_isHedgehog_16 rfl kI_0) ?_
    exact im_ret (fun q => g_zret (ty := .boolean) rfl rfl rfl rfl dX7_isHedgehog_17 q)
  · refine im_st (r_iload_n (i := 1) dX7_isHedgehog_4 rfl rfl rfl) ?_
    refine im_st (r_aload_n (i := 0) dX7_isHedgehog_5 rfl rfl rfl) ?_
    refine im_st (s_getI (tag := 7) (j := 7) dX7_isHedgehog_6 rfl fl_X7_34 (sl_sh hb) (sl_lt hb) rfl) ?_
    refine im_brS (r_icmp_ge (tgt := 16) dX7_isHedgehog_9 rfl (by decide)) (fun c2 => ?_) (fun c2 => ?_)
    · refine im_st (r_iconst (v := 0) dX7_isHedgehog_16 rfl kI_0) ?_
      exact im_ret (fun q => g_zret (ty := .boolean) rfl rfl rfl rfl dX7_isHedgehog_17 q)
    · refine im_st (r_iconst (v := 1) dX7_isHedgehog_12 rfl kI_1) ?_
      refine im_st (r_goto (pc1 := 17) dX7_isHedgehog_13 (by decide)) ?_
      exact im_ret (fun q => g_zret (ty := .boolean) rfl rfl rfl rfl dX7_isHedgehog_17 q)
theorem e_X7_isHedgehog (b : Nat) (a1 : Int32) (σ : Sg) (τ : Sl) (hb : isSl b) : EvD M_X7_isHedgehog [.ref b, .int a1] (mk σ τ) (some (.int (f_X7_isHedgehog b a1 σ))) (mk σ τ) := EvM.of (by decide +kernel) (Nat.le_of_ble_eq_true rfl) (i_X7_isHedgehog b a1 σ τ hb _ _ rfl ⟨rfl, rfl⟩)
def M_X7_isSuit : Ms := (yX7_isSuit, cX7_isSuit, 2, some .boolean, 0, 0, 0, 0)
theorem mv_X7_isSuit : MV M_X7_isSuit 1 := ⟨⟨q541, q2, by decide, by decide, by decide +kernel⟩, q539, q540⟩
def f_X7_isSuit (b : Nat) (a1 : Int32) (σ : Sg) : Int32 :=
  if a1 < 0 then
    (0 : Int32)
  else
    if (σ b 10) ≤ a1 then
      (0 : Int32)
    else
      (1 : Int32)
theorem z_X7_isSuit (b : Nat) (a1 : Int32) (σ : Sg) : isB (f_X7_isSuit b a1 σ) = true := by
  unfold f_X7_isSuit
  (repeat' split) <;> first | rfl
set_option maxHeartbeats 4000000 in
set_option maxRecDepth 20000 in
theorem i_X7_isSuit (b : Nat) (a1 : Int32) (σ : Sg) (τ : Sl) (hb : isSl b) (Q : Option Value → Hp → Prop) : Imp (some (f_X7_isSuit b a1 σ)) (fun (y : Int32) => Q (some (.int y)) (mk σ τ)) (Go M_X7_isSuit Q 0 0 0 [some (.ref b), some (.int a1)] [] (mk σ τ)) := by
  unfold f_X7_isSuit
  refine im_st (r_iload_n (i := 1) dX7_isSuit_0 rfl rfl rfl) ?_
  refine im_brS (r_if_lt (tgt := 16) dX7_isSuit_1 rfl (by decide)) (fun c1 => ?_) (fun c1 => ?_)
  · refine im_st (r_iconst (v := 0) dX7_isSuit_16 rfl kI_0) ?_
    exact im_ret (fun q => g_zret (ty := .boolean) rfl rfl rfl rfl dX7_isSuit_17 q)
  · refine im_st (r_iload_n (i := 1) dX7_isSuit_4 rfl rfl rfl) ?_
    refine im_st (r_aload_n (i := 0) dX7_isSuit_5 rfl rfl rfl) ?_
    refine im_st (s_getI (tag := 7) (j := 10) dX7_isSuit_6 rfl fl_X7_43 (sl_sh hb) (sl_lt hb) rfl) ?_
    refine im_brS (r_icmp_ge (tgt := 16) dX7_isSuit_9 rfl (by decide)) (fun c2 => ?_) (fun c2 => ?_)
    · refine im_st (r_iconst (v := 0) dX7_isSuit_16 rfl kI_0) ?_
      exact im_ret (fun q => g_zret (ty := .boolean) rfl rfl rfl rfl dX7_isSuit_17 q)
    · refine im_st (r_iconst (v := 1) dX7_isSuit_12 rfl kI_1) ?_
      refine im_st (r_goto (pc1 := 17) dX7_isSuit_13 (by decide)) ?_
      exact im_ret (fun q => g_zret (ty := .boolean) rfl rfl rfl rfl dX7_isSuit_17 q)
theorem e_X7_isSuit (b : Nat) (a1 : Int32) (σ : Sg) (τ : Sl) (hb : isSl b) : EvD M_X7_isSuit [.ref b, .int a1] (mk σ τ) (some (.int (f_X7_isSuit b a1 σ))) (mk σ τ) := EvM.of (by decide +kernel) (Nat.le_of_ble_eq_true rfl) (i_X7_isSuit b a1 σ τ hb _ _ rfl ⟨rfl, rfl⟩)
def M_X7_isCell : Ms := (yX7_isCell, cX7_isCell, 1, some .boolean, 0, 0, 0, 0)
theorem ms_X7_isCell : MS M_X7_isCell 1 := ⟨⟨q454, q2, by decide, by decide, by decide +kernel⟩, q453⟩
def f_X7_isCell (a0 : Int32) : Int32 :=
  if a0 < 0 then
    (0 : Int32)
  else
    if (100 : Int32) ≤ a0 then
      (0 : Int32)
    else
      if (8 : Int32) ≤ (a0 - a0 / (10 : Int32) * (10 : Int32)) then
        (0 : Int32)
      else
        (1 : Int32)
theorem z_X7_isCell (a0 : Int32) : isB (f_X7_isCell a0) = true := by
  unfold f_X7_isCell
  (repeat' split) <;> first | rfl
set_option maxHeartbeats 4000000 in
set_option maxRecDepth 20000 in
theorem i_X7_isCell (a0 : Int32) (σ : Sg) (τ : Sl) (Q : Option Value → Hp → Prop) : Imp (some (f_X7_isCell a0)) (fun (y : Int32) => Q (some (.int y)) (mk σ τ)) (Go M_X7_isCell Q 0 0 0 [some (.int a0)] [] (mk σ τ)) := by
  unfold f_X7_isCell
  refine im_st (r_iload_n (i := 0) dX7_isCell_0 rfl rfl rfl) ?_
  refine im_brS (r_if_lt (tgt := 23) dX7_isCell_1 rfl (by decide)) (fun c1 => ?_) (fun c1 => ?_)
  · refine im_st (r_iconst (v := 0) dX7_isCell_23 rfl kI_0) ?_
    exact im_ret (fun q => g_zret (ty := .boolean) rfl rfl rfl rfl dX7_isCell_24 q)
  · refine im_st (r_iload_n (i := 0) dX7_isCell_4 rfl rfl rfl) ?_
    refine im_st (r_bipush (v := 100) dX7_isCell_5 rfl kB_100) ?_
    refine im_brS (r_icmp_ge (tgt := 23) dX7_isCell_7 rfl (by decide)) (fun c2 => ?_) (fun c2 => ?_)
    · refine im_st (r_iconst (v := 0) dX7_isCell_23 rfl kI_0) ?_
      exact im_ret (fun q => g_zret (ty := .boolean) rfl rfl rfl rfl dX7_isCell_24 q)
    · refine im_st (r_iload_n (i := 0) dX7_isCell_10 rfl rfl rfl) ?_
      refine im_st (r_bipush (v := 10) dX7_isCell_11 rfl kB_10) ?_
      refine im_st (r_irem dX7_isCell_13 rfl (by decide)) ?_
      refine im_st (r_bipush (v := 8) dX7_isCell_14 rfl kB_8) ?_
      refine im_brS (r_icmp_ge (tgt := 23) dX7_isCell_16 rfl (by decide)) (fun c3 => ?_) (fun c3 => ?_)
      · refine im_st (r_iconst (v := 0) dX7_isCell_23 rfl kI_0) ?_
        exact im_ret (fun q => g_zret (ty := .boolean) rfl rfl rfl rfl dX7_isCell_24 q)
      · refine im_st (r_iconst (v := 1) dX7_isCell_19 rfl kI_1) ?_
        refine im_st (r_goto (pc1 := 24) dX7_isCell_20 (by decide)) ?_
        exact im_ret (fun q => g_zret (ty := .boolean) rfl rfl rfl rfl dX7_isCell_24 q)
theorem e_X7_isCell (a0 : Int32) (σ : Sg) (τ : Sl) : EvD M_X7_isCell [.int a0] (mk σ τ) (some (.int (f_X7_isCell a0))) (mk σ τ) := EvM.of (by decide +kernel) (Nat.le_of_ble_eq_true rfl) (i_X7_isCell a0 σ τ _ _ rfl ⟨rfl, rfl⟩)
def M_X7_isFree : Ms := (yX7_isFree, cX7_isFree, 2, some .boolean, 1, 20, 0, 0)
theorem mv_X7_isFree : MV M_X7_isFree 1 := ⟨⟨q458, q2, by decide, by decide, by decide +kernel⟩, q456, q457⟩
def f_X7_isFree (b : Nat) (a1 : Int32) (σ : Sg) : Option Int32 :=
  if (f_X7_isCell a1) = 0 then
    some (0 : Int32)
  else
    if inR a1 100 then
    if (σ (b + 8) a1.toNatClampNeg) = (-1 : Int32) then
      some (1 : Int32)
    else
      some (0 : Int32)
    else none
set_option maxHeartbeats 4000000 in
set_option maxRecDepth 20000 in
theorem i_X7_isFree (b : Nat) (a1 : Int32) (σ : Sg) (τ : Sl) (hb : isSl b) (Q : Option Value → Hp → Prop) : Imp (f_X7_isFree b a1 σ) (fun (y : Int32) => Q (some (.int y)) (mk σ τ)) (Go M_X7_isFree Q 0 0 0 [some (.ref b), some (.int a1)] [] (mk σ τ)) := by
  unfold f_X7_isFree
  refine im_st (r_iload_n (i := 1) dX7_isFree_0 rfl rfl rfl) ?_
  refine im_st (r_callS (as := [.int a1]) (r := some (.int (f_X7_isCell a1))) (kc1 := 0) (ks1 := 0) (st := []) (st1 := [.int (f_X7_isCell a1)]) (e_X7_isCell a1 σ τ) ms_X7_isCell lk_X7_55 ⟨by decide, by decide⟩ ⟨by decide, by decide⟩ (Nat.le_of_ble_eq_true rfl) dX7_isFree_1 rfl rfl rfl rfl rfl) ?_
  refine im_br (r_if_eq (tgt := 21) dX7_isFree_4 rfl (by decide)) (fun c1 => ?_) (fun c1 => ?_)
  · refine im_st (r_iconst (v := 0) dX7_isFree_21 rfl kI_0) ?_
    exact im_ret (fun q => g_zret (ty := .boolean) rfl rfl rfl rfl dX7_isFree_22 q)
  · refine im_st (r_aload_n (i := 0) dX7_isFree_7 rfl rfl rfl) ?_
    refine im_st (s_getR (b := (b + 8)) (tag := 7) (j := 11) dX7_isFree_8 rfl fl_X7_46 (sl_sh hb) (sl_lt hb) rfl (sl_rf11 hb)) ?_
    refine im_st (r_iload_n (i := 1) dX7_isFree_11 rfl rfl rfl) ?_
    refine im_grd (fun g2 => ?_)
    refine im_st (s_iaload dX7_isFree_12 rfl (sl_sh8 hb) (sl_lt8 hb) (inR_in g2)) ?_
    refine im_st (r_iconst (v := -1) dX7_isFree_13 rfl kI_m1) ?_
    refine im_br (r_icmp_ne (tgt := 21) dX7_isFree_14 rfl (by decide)) (fun c3 => ?_) (fun c3 => ?_)
    · refine im_st (r_iconst (v := 1) dX7_isFree_17 rfl kI_1) ?_
      refine im_st (r_goto (pc1 := 22) dX7_isFree_18 (by decide)) ?_
      exact im_ret (fun q => g_zret (ty := .boolean) rfl rfl rfl rfl dX7_isFree_22 q)
    · refine im_st (r_iconst (v := 0) dX7_isFree_21 rfl kI_0) ?_
      exact im_ret (fun q => g_zret (ty := .boolean) rfl rfl rfl rfl dX7_isFree_22 q)
theorem e_X7_isFree (b : Nat) (a1 : Int32) (σ : Sg) (τ : Sl) (hb : isSl b) (y : Int32) (hy : f_X7_isFree b a1 σ = some y) : EvD M_X7_isFree [.ref b, .int a1] (mk σ τ) (some (.int y)) (mk σ τ) := EvM.of (by decide +kernel) (Nat.le_of_ble_eq_true rfl) (i_X7_isFree b a1 σ τ hb _ y hy ⟨rfl, rfl⟩)
def M_X7_stand : Ms := (yX7_stand, cX7_stand, 3, none, 0, 0, 0, 0)
theorem mv_X7_stand : MV M_X7_stand 2 := ⟨⟨q475, q2, by decide, by decide, by decide +kernel⟩, q474, p9⟩
def f_X7_stand (b : Nat) (a1 : Int32) (a2 : Int32) (σ : Sg) : Option Sg :=
  if a1 < 0 then
    some σ
  else
    if (100 : Int32) ≤ a1 then
      some σ
    else
      if inR a1 100 then
      some (up2 σ (b + 8) a1.toNatClampNeg a2)
      else none
set_option maxHeartbeats 4000000 in
set_option maxRecDepth 20000 in
theorem i_X7_stand (b : Nat) (a1 : Int32) (a2 : Int32) (σ : Sg) (τ : Sl) (hb : isSl b) (Q : Option Value → Hp → Prop) : Imp (f_X7_stand b a1 a2 σ) (fun (y : Sg) => Q (none) (mk y τ)) (Go M_X7_stand Q 0 0 0 [some (.ref b), some (.int a1), some (.int a2)] [] (mk σ τ)) := by
  unfold f_X7_stand
  refine im_st (r_iload_n (i := 1) dX7_stand_0 rfl rfl rfl) ?_
  refine im_br (r_if_lt (tgt := 17) dX7_stand_1 rfl (by decide)) (fun c1 => ?_) (fun c1 => ?_)
  · exact im_ret (fun q => g_vret rfl rfl rfl dX7_stand_17 q)
  · refine im_st (r_iload_n (i := 1) dX7_stand_4 rfl rfl rfl) ?_
    refine im_st (r_bipush (v := 100) dX7_stand_5 rfl kB_100) ?_
    refine im_br (r_icmp_ge (tgt := 17) dX7_stand_7 rfl (by decide)) (fun c2 => ?_) (fun c2 => ?_)
    · exact im_ret (fun q => g_vret rfl rfl rfl dX7_stand_17 q)
    · refine im_st (r_aload_n (i := 0) dX7_stand_10 rfl rfl rfl) ?_
      refine im_st (s_getR (b := (b + 8)) (tag := 7) (j := 11) dX7_stand_11 rfl fl_X7_46 (sl_sh hb) (sl_lt hb) rfl (sl_rf11 hb)) ?_
      refine im_st (r_iload_n (i := 1) dX7_stand_14 rfl rfl rfl) ?_
      refine im_st (r_iload_n (i := 2) dX7_stand_15 rfl rfl rfl) ?_
      refine im_grd (fun g3 => ?_)
      refine im_st (s_iastore dX7_stand_16 rfl (sl_sh8 hb) (sl_lt8 hb) (inR_in g3)) ?_
      exact im_ret (fun q => g_vret rfl rfl rfl dX7_stand_17 q)
theorem e_X7_stand (b : Nat) (a1 : Int32) (a2 : Int32) (σ : Sg) (τ : Sl) (hb : isSl b) (y : Sg) (hy : f_X7_stand b a1 a2 σ = some y) : EvD M_X7_stand [.ref b, .int a1, .int a2] (mk σ τ) (none) (mk y τ) := EvM.of (by decide +kernel) (Nat.le_of_ble_eq_true rfl) (i_X7_stand b a1 a2 σ τ hb _ y hy ⟨rfl, rfl⟩)
def M_X7_addPeg : Ms := (yX7_addPeg, cX7_addPeg, 3, some .int, 2, 41, 0, 0)
theorem mv_X7_addPeg : MV M_X7_addPeg 2 := ⟨⟨q467, q2, by decide, by decide, by decide +kernel⟩, q465, q466⟩
def f_X7_addPeg (b : Nat) (a1 : Int32) (a2 : Int32) (σ : Sg) : Option (Int32 × Sg) :=
  if (f_X7_isCell a1) = 0 then
    some ((-1 : Int32), σ)
  else
    if (f_X9_isRag a2) = 0 then
      some ((-1 : Int32), σ)
    else
      (f_X7_isFree b a1 σ).bind fun (y3 : Int32) =>
      if y3 = 0 then
        some ((-2 : Int32), σ)
      else
        if (σ b 2) < (7 : Int32) then
          if inR (σ b 2) 7 then
          app (up2 σ (b + 1) (σ b 2).toNatClampNeg a1) fun (σ7 : Sg) =>
          if inR (σ7 b 2) 7 then
          app (up2 σ7 (b + 2) (σ7 b 2).toNatClampNeg a2) fun (σ9 : Sg) =>
          (f_X7_stand b a1 (σ9 b 2) σ9).bind fun (y10 : Sg) =>
          app (up2 y10 b 2 ((y10 b 2) + (1 : Int32))) fun (σ11 : Sg) =>
          some ((σ11 b 2), σ11)
          else none
          else none
        else
          some ((-3 : Int32), σ)
set_option maxHeartbeats 4000000 in
set_option maxRecDepth 20000 in
theorem i_X7_addPeg (b : Nat) (a1 : Int32) (a2 : Int32) (σ : Sg) (τ : Sl) (hb : isSl b) (Q : Option Value → Hp → Prop) : Imp (f_X7_addPeg b a1 a2 σ) (fun (y : (Int32 × Sg)) => Q (some (.int y.1)) (mk y.2 τ)) (Go M_X7_addPeg Q 0 0 0 [some (.ref b), some (.int a1), some (.int a2)] [] (mk σ τ)) := by
  unfold f_X7_addPeg
  refine im_st (r_iload_n (i := 1) dX7_addPeg_0 rfl rfl rfl) ?_
  refine im_st (r_callS (as := [.int a1]) (r := some (.int (f_X7_isCell a1))) (kc1 := 0) (ks1 := 0) (st := []) (st1 := [.int (f_X7_isCell a1)]) (e_X7_isCell a1 σ τ) ms_X7_isCell lk_X7_55 ⟨by decide, by decide⟩ ⟨by decide, by decide⟩ (Nat.le_of_ble_eq_true rfl) dX7_addPeg_1 rfl rfl rfl rfl rfl) ?_
  refine im_br (r_if_eq (tgt := 14) dX7_addPeg_4 rfl (by decide)) (fun c1 => ?_) (fun c1 => ?_)
  · refine im_st (r_iconst (v := -1) dX7_addPeg_14 rfl kI_m1) ?_
    exact im_ret (fun q => g_iret rfl rfl rfl dX7_addPeg_15 q)
  · refine im_st (r_iload_n (i := 2) dX7_addPeg_7 rfl rfl rfl) ?_
    refine im_st (r_callSN (as := [.int a2]) (r := some (.int (f_X9_isRag a2))) (kc1 := 0) (ks1 := 0) (st := []) (st1 := [.int (f_X9_isRag a2)]) (e_X9_isRag a2 σ τ) ms_X9_isRag (nk_X7_65) ⟨by decide, by decide⟩ ⟨by decide, by decide⟩ (Nat.le_of_ble_eq_true rfl) dX7_addPeg_8 rfl rfl rfl rfl rfl) ?_
    refine im_br (r_if_ne (tgt := 16) dX7_addPeg_11 rfl (by decide)) (fun c2 => ?_) (fun c2 => ?_)
    · refine im_st (r_iconst (v := -1) dX7_addPeg_14 rfl kI_m1) ?_
      exact im_ret (fun q => g_iret rfl rfl rfl dX7_addPeg_15 q)
    · refine im_st (r_aload_n (i := 0) dX7_addPeg_16 rfl rfl rfl) ?_
      refine im_st (r_iload_n (i := 1) dX7_addPeg_17 rfl rfl rfl) ?_
      refine im_bind (fun y3 hy3 => ?_)
      refine im_st (r_callV (as := [.int a1]) (r := some (.int y3)) (kc1 := 0) (ks1 := 0) (st := []) (st1 := [.int y3]) (e_X7_isFree b a1 σ τ hb y3 hy3) mv_X7_isFree lk_X7_68 ⟨by decide, by decide⟩ (sl_sh hb) (sl_lt hb) (by decide) ⟨_, rfl, rfl⟩ ⟨by decide, by decide⟩ (Nat.le_of_ble_eq_true rfl) dX7_addPeg_18 rfl rfl rfl rfl rfl) ?_
      refine im_br (r_if_ne (tgt := 27) dX7_addPeg_21 rfl (by decide)) (fun c4 => ?_) (fun c4 => ?_)
      · refine im_st (r_bipush (v := -2) dX7_addPeg_24 rfl kB_m2) ?_
        exact im_ret (fun q => g_iret rfl rfl rfl dX7_addPeg_26 q)
      · refine im_st (r_aload_n (i := 0) dX7_addPeg_27 rfl rfl rfl) ?_
        refine im_st (s_getI (tag := 7) (j := 2) dX7_addPeg_28 rfl fl_X7_18 (sl_sh hb) (sl_lt hb) rfl) ?_
        refine im_st (r_bipush (v := 7) dX7_addPeg_31 rfl kB_7) ?_
        refine im_br (r_icmp_lt (tgt := 39) dX7_addPeg_33 rfl (by decide)) (fun c5 => ?_) (fun c5 => ?_)
        · refine im_st (r_aload_n (i := 0) dX7_addPeg_39 rfl rfl rfl) ?_
          refine im_st (s_getR (b := (b + 1)) (tag := 7) (j := 0) dX7_addPeg_40 rfl fl_X7_9 (sl_sh hb) (sl_lt hb) rfl (sl_rf0 hb)) ?_
          refine im_st (r_aload_n (i := 0) dX7_addPeg_43 rfl rfl rfl) ?_
          refine im_st (s_getI (tag := 7) (j := 2) dX7_addPeg_44 rfl fl_X7_18 (sl_sh hb) (sl_lt hb) rfl) ?_
          refine im_st (r_iload_n (i := 1) dX7_addPeg_47 rfl rfl rfl) ?_
          refine im_grd (fun g6 => ?_)
          refine im_st (s_iastore dX7_addPeg_48 rfl (sl_sh1 hb) (sl_lt1 hb) (inR_in g6)) ?_
          refine im_st (r_aload_n (i := 0) dX7_addPeg_49 rfl rfl rfl) ?_
          refine im_st (s_getR (b := (b + 2)) (tag := 7) (j := 1) dX7_addPeg_50 rfl fl_X7_15 (sl_sh hb) (sl_lt hb) rfl (sl_rf1 hb)) ?_
          refine im_st (r_aload_n (i := 0) dX7_addPeg_53 rfl rfl rfl) ?_
          refine im_app (Gm := fun (σ7 : Sg) => Go M_X7_addPeg Q 0 0 54 [some (.ref b), some (.int a1), some (.int a2)] [.ref b, .ref (b + 2)] (mk σ7 τ)) (fun σ7 => ?_)
          refine im_st (s_getI (tag := 7) (j := 2) dX7_addPeg_54 rfl fl_X7_18 (sl_sh hb) (sl_lt hb) rfl) ?_
          refine im_st (r_iload_n (i := 2) dX7_addPeg_57 rfl rfl rfl) ?_
          refine im_grd (fun g8 => ?_)
          refine im_st (s_iastore dX7_addPeg_58 rfl (sl_sh2 hb) (sl_lt2 hb) (inR_in g8)) ?_
          refine im_st (r_aload_n (i := 0) dX7_addPeg_59 rfl rfl rfl) ?_
          refine im_st (r_iload_n (i := 1) dX7_addPeg_60 rfl rfl rfl) ?_
          refine im_st (r_aload_n (i := 0) dX7_addPeg_61 rfl rfl rfl) ?_
          refine im_app (Gm := fun (σ9 : Sg) => Go M_X7_addPeg Q 0 0 62 [some (.ref b), some (.int a1), some (.int a2)] [.ref b, .int a1, .ref b] (mk σ9 τ)) (fun σ9 => ?_)
          refine im_st (s_getI (tag := 7) (j := 2) dX7_addPeg_62 rfl fl_X7_18 (sl_sh hb) (sl_lt hb) rfl) ?_
          refine im_bind (fun y10 hy10 => ?_)
          refine im_st (r_callV (as := [.int a1, .int (σ9 b 2)]) (r := none) (kc1 := 0) (ks1 := 0) (st := []) (st1 := []) (e_X7_stand b a1 (σ9 b 2) σ9 τ hb y10 hy10) mv_X7_stand lk_X7_71 ⟨by decide, by decide⟩ (sl_sh hb) (sl_lt hb) (by decide) ⟨_, rfl, rfl⟩ ⟨by decide, by decide⟩ (Nat.le_of_ble_eq_true rfl) dX7_addPeg_65 rfl rfl rfl rfl rfl) ?_
          refine im_st (r_aload_n (i := 0) dX7_addPeg_68 rfl rfl rfl) ?_
          refine im_st (r_dup dX7_addPeg_69 rfl rfl) ?_
          refine im_st (s_getI (tag := 7) (j := 2) dX7_addPeg_70 rfl fl_X7_18 (sl_sh hb) (sl_lt hb) rfl) ?_
          refine im_st (r_iconst (v := 1) dX7_addPeg_73 rfl kI_1) ?_
          refine im_st (r_iadd dX7_addPeg_74 rfl) ?_
          refine im_st (s_putI (tag := 7) (j := 2) dX7_addPeg_75 rfl fl_X7_18 (sl_sh hb) (sl_lt hb) rfl fw_7_2) ?_
          refine im_st (r_aload_n (i := 0) dX7_addPeg_78 rfl rfl rfl) ?_
          refine im_app (Gm := fun (σ11 : Sg) => Go M_X7_addPeg Q 0 0 79 [some (.ref b), some (.int a1), some (.int a2)] [.ref b] (mk σ11 τ)) (fun σ11 => ?_)
          refine im_st (s_getI (tag := 7) (j := 2) dX7_addPeg_79 rfl fl_X7_18 (sl_sh hb) (sl_lt hb) rfl) ?_
          exact im_ret (fun q => g_iret rfl rfl rfl dX7_addPeg_82 q)
        · refine im_st (r_bipush (v := -3) dX7_addPeg_36 rfl kB_m3) ?_
          exact im_ret (fun q => g_iret rfl rfl rfl dX7_addPeg_38 q)
theorem e_X7_addPeg (b : Nat) (a1 : Int32) (a2 : Int32) (σ : Sg) (τ : Sl) (hb : isSl b) (y : (Int32 × Sg)) (hy : f_X7_addPeg b a1 a2 σ = some y) : EvD M_X7_addPeg [.ref b, .int a1, .int a2] (mk σ τ) (some (.int y.1)) (mk y.2 τ) := EvM.of (by decide +kernel) (Nat.le_of_ble_eq_true rfl) (i_X7_addPeg b a1 a2 σ τ hb _ y hy ⟨rfl, rfl⟩)
def M_X7_cutPegs : Ms := (yX7_cutPegs, cX7_cutPegs, 3, none, 1, 22, 0, 0)
theorem mv_X7_cutPegs : MV M_X7_cutPegs 1 := ⟨⟨q738, q2, by decide, by decide, by decide +kernel⟩, q736, q737⟩
def b_X7_cutPegs_6 (b : Nat) : (Int32 × Sg) → Option ((Int32 × Sg) ⊕ (Int32 × Sg)) := fun (s1 : (Int32 × Sg)) =>
  if (s1.2 b 2) ≤ s1.1 then
    some (.inr (s1.1, s1.2))
  else
    if inR s1.1 7 then
    (f_X7_stand b (s1.2 (b + 1) s1.1.toNatClampNeg) (-1 : Int32) s1.2).bind fun (y4 : Sg) =>
    some (.inl ((s1.1 + 1), y4))
    else none
def f_X7_cutPegs (b : Nat) (a1 : Int32) (σ : Sg) : Option Sg :=
  (wh (b_X7_cutPegs_6 b) 4096 ((iMax a1 (0 : Int32)), σ)).bind fun (e5 : (Int32 × Sg)) =>
  some (up2 e5.2 b 2 (iMax (0 : Int32) (iMin a1 (e5.2 b 2))))
set_option maxHeartbeats 4000000 in
set_option maxRecDepth 20000 in
theorem i_X7_cutPegs (b : Nat) (a1 : Int32) (σ : Sg) (τ : Sl) (hb : isSl b) (Q : Option Value → Hp → Prop) : Imp (f_X7_cutPegs b a1 σ) (fun (y : Sg) => Q (none) (mk y τ)) (Go M_X7_cutPegs Q 0 0 0 [some (.ref b), some (.int a1), none] [] (mk σ τ)) := by
  unfold f_X7_cutPegs
  refine im_st (r_iload_n (i := 1) dX7_cutPegs_0 rfl rfl rfl) ?_
  refine im_st (r_iconst (v := 0) dX7_cutPegs_1 rfl kI_0) ?_
  refine im_st (s_iMax lk_X7_75 (by decide) (Nat.le_of_ble_eq_true rfl) dX7_cutPegs_2 rfl) ?_
  refine im_st (r_istore_n (i := 2) (L1 := [some (.ref b), some (.int a1), some (.int (iMax a1 (0 : Int32)))]) dX7_cutPegs_5 rfl rfl (by decide) rfl) ?_
  refine im_seq (Gm := fun (e5 : (Int32 × Sg)) => Go M_X7_cutPegs Q 0 0 31 [some (.ref b), some (.int a1), none] [] (mk e5.2 τ)) ?_ (fun e5 => ?_)
  · refine im_wh (G := fun (s1 : (Int32 × Sg)) => Go M_X7_cutPegs Q 0 0 6 [some (.ref b), some (.int a1), some (.int s1.1)] [] (mk s1.2 τ)) (fun s1 => ?_) _ _
    unfold b_X7_cutPegs_6
    refine im_st (r_iload_n (i := 2) dX7_cutPegs_6 rfl rfl rfl) ?_
    refine im_st (r_aload_n (i := 0) dX7_cutPegs_7 rfl rfl rfl) ?_
    refine im_st (s_getI (tag := 7) (j := 2) dX7_cutPegs_8 rfl fl_X7_18 (sl_sh hb) (sl_lt hb) rfl) ?_
    refine im_br (r_icmp_ge (tgt := 31) dX7_cutPegs_11 rfl (by decide)) (fun c2 => ?_) (fun c2 => ?_)
    · refine im_st (r_fgt (L1 := [some (.ref b), some (.int a1), none]) [2] rfl) ?_
      exact im_ret id
    · refine im_st (r_aload_n (i := 0) dX7_cutPegs_14 rfl rfl rfl) ?_
      refine im_st (r_aload_n (i := 0) dX7_cutPegs_15 rfl rfl rfl) ?_
      refine im_st (s_getR (b := (b + 1)) (tag := 7) (j := 0) dX7_cutPegs_16 rfl fl_X7_9 (sl_sh hb) (sl_lt hb) rfl (sl_rf0 hb)) ?_
      refine im_st (r_iload_n (i := 2) dX7_cutPegs_19 rfl rfl rfl) ?_
      refine im_grd (fun g3 => ?_)
      refine im_st (s_iaload dX7_cutPegs_20 rfl (sl_sh1 hb) (sl_lt1 hb) (inR_in g3)) ?_
      refine im_st (r_iconst (v := -1) dX7_cutPegs_21 rfl kI_m1) ?_
      refine im_bind (fun y4 hy4 => ?_)
      refine im_st (r_callV (as := [.int (s1.2 (b + 1) s1.1.toNatClampNeg), .int (-1 : Int32)]) (r := none) (kc1 := 0) (ks1 := 0) (st := []) (st1 := []) (e_X7_stand b (s1.2 (b + 1) s1.1.toNatClampNeg) (-1 : Int32) s1.2 τ hb y4 hy4) mv_X7_stand lk_X7_71 ⟨by decide, by decide⟩ (sl_sh hb) (sl_lt hb) (by decide) ⟨_, rfl, rfl⟩ ⟨by decide, by decide⟩ (Nat.le_of_ble_eq_true rfl) dX7_cutPegs_22 rfl rfl rfl rfl rfl) ?_
      refine im_st (r_iinc (i := 2) (x := s1.1) (v := (s1.1 + 1)) (L1 := [some (.ref b), some (.int a1), some (.int (s1.1 + 1))]) dX7_cutPegs_25 rfl rfl rfl (by decide) rfl) ?_
      refine im_st (r_goto (pc1 := 6) dX7_cutPegs_28 (by decide)) ?_
      exact im_ret id
  refine im_st (r_aload_n (i := 0) dX7_cutPegs_31 rfl rfl rfl) ?_
  refine im_st (r_iconst (v := 0) dX7_cutPegs_32 rfl kI_0) ?_
  refine im_st (r_iload_n (i := 1) dX7_cutPegs_33 rfl rfl rfl) ?_
  refine im_st (r_aload_n (i := 0) dX7_cutPegs_34 rfl rfl rfl) ?_
  refine im_st (s_getI (tag := 7) (j := 2) dX7_cutPegs_35 rfl fl_X7_18 (sl_sh hb) (sl_lt hb) rfl) ?_
  refine im_st (s_iMin lk_X7_81 (by decide) (Nat.le_of_ble_eq_true rfl) dX7_cutPegs_38 rfl) ?_
  refine im_st (s_iMax lk_X7_75 (by decide) (Nat.le_of_ble_eq_true rfl) dX7_cutPegs_41 rfl) ?_
  refine im_st (s_putI (tag := 7) (j := 2) dX7_cutPegs_44 rfl fl_X7_18 (sl_sh hb) (sl_lt hb) rfl fw_7_2) ?_
  exact im_ret (fun q => g_vret rfl rfl rfl dX7_cutPegs_47 q)
theorem e_X7_cutPegs (b : Nat) (a1 : Int32) (σ : Sg) (τ : Sl) (hb : isSl b) (y : Sg) (hy : f_X7_cutPegs b a1 σ = some y) : EvD M_X7_cutPegs [.ref b, .int a1] (mk σ τ) (none) (mk y τ) := EvM.of (by decide +kernel) (Nat.le_of_ble_eq_true rfl) (i_X7_cutPegs b a1 σ τ hb _ y hy ⟨rfl, rfl⟩)
def M_X7_movePeg : Ms := (yX7_movePeg, cX7_movePeg, 3, none, 1, 22, 0, 0)
theorem mv_X7_movePeg : MV M_X7_movePeg 2 := ⟨⟨q619, q2, by decide, by decide, by decide +kernel⟩, q617, q618⟩
def f_X7_movePeg (b : Nat) (a1 : Int32) (a2 : Int32) (σ : Sg) : Option Sg :=
  if (f_X7_isPeg b a1 σ) = 0 then
    some σ
  else
    if (f_X7_isCell a2) = 0 then
      some σ
    else
      if inR a1 7 then
      (f_X7_stand b (σ (b + 1) a1.toNatClampNeg) (-1 : Int32) σ).bind fun (y4 : Sg) =>
      if inR a1 7 then
      app (up2 y4 (b + 1) a1.toNatClampNeg a2) fun (σ6 : Sg) =>
      (f_X7_stand b a2 a1 σ6).bind fun (y7 : Sg) =>
      some y7
      else none
      else none
set_option maxHeartbeats 4000000 in
set_option maxRecDepth 20000 in
theorem i_X7_movePeg (b : Nat) (a1 : Int32) (a2 : Int32) (σ : Sg) (τ : Sl) (hb : isSl b) (Q : Option Value → Hp → Prop) : Imp (f_X7_movePeg b a1 a2 σ) (fun (y : Sg) => Q (none) (mk y τ)) (Go M_X7_movePeg Q 0 0 0 [some (.ref b), some (.int a1), some (.int a2)] [] (mk σ τ)) := by
  unfold f_X7_movePeg
  refine im_st (r_aload_n (i := 0) dX7_movePeg_0 rfl rfl rfl) ?_
  refine im_st (r_iload_n (i := 1) dX7_movePeg_1 rfl rfl rfl) ?_
  refine im_st (r_callV (as := [.int a1]) (r := some (.int (f_X7_isPeg b a1 σ))) (kc1 := 0) (ks1 := 0) (st := []) (st1 := [.int (f_X7_isPeg b a1 σ)]) (e_X7_isPeg b a1 σ τ hb) mv_X7_isPeg lk_X7_84 ⟨by decide, by decide⟩ (sl_sh hb) (sl_lt hb) (by decide) ⟨_, rfl, rfl⟩ ⟨by decide, by decide⟩ (Nat.le_of_ble_eq_true rfl) dX7_movePeg_2 rfl rfl rfl rfl rfl) ?_
  refine im_br (r_if_eq (tgt := 39) dX7_movePeg_5 rfl (by decide)) (fun c1 => ?_) (fun c1 => ?_)
  · exact im_ret (fun q => g_vret rfl rfl rfl dX7_movePeg_39 q)
  · refine im_st (r_iload_n (i := 2) dX7_movePeg_8 rfl rfl rfl) ?_
    refine im_st (r_callS (as := [.int a2]) (r := some (.int (f_X7_isCell a2))) (kc1 := 0) (ks1 := 0) (st := []) (st1 := [.int (f_X7_isCell a2)]) (e_X7_isCell a2 σ τ) ms_X7_isCell lk_X7_55 ⟨by decide, by decide⟩ ⟨by decide, by decide⟩ (Nat.le_of_ble_eq_true rfl) dX7_movePeg_9 rfl rfl rfl rfl rfl) ?_
    refine im_br (r_if_eq (tgt := 39) dX7_movePeg_12 rfl (by decide)) (fun c2 => ?_) (fun c2 => ?_)
    · exact im_ret (fun q => g_vret rfl rfl rfl dX7_movePeg_39 q)
    · refine im_st (r_aload_n (i := 0) dX7_movePeg_15 rfl rfl rfl) ?_
      refine im_st (r_aload_n (i := 0) dX7_movePeg_16 rfl rfl rfl) ?_
      refine im_st (s_getR (b := (b + 1)) (tag := 7) (j := 0) dX7_movePeg_17 rfl fl_X7_9 (sl_sh hb) (sl_lt hb) rfl (sl_rf0 hb)) ?_
      refine im_st (r_iload_n (i := 1) dX7_movePeg_20 rfl rfl rfl) ?_
      refine im_grd (fun g3 => ?_)
      refine im_st (s_iaload dX7_movePeg_21 rfl (sl_sh1 hb) (sl_lt1 hb) (inR_in g3)) ?_
      refine im_st (r_iconst (v := -1) dX7_movePeg_22 rfl kI_m1) ?_
      refine im_bind (fun y4 hy4 => ?_)
      refine im_st (r_callV (as := [.int (σ (b + 1) a1.toNatClampNeg), .int (-1 : Int32)]) (r := none) (kc1 := 0) (ks1 := 0) (st := []) (st1 := []) (e_X7_stand b (σ (b + 1) a1.toNatClampNeg) (-1 : Int32) σ τ hb y4 hy4) mv_X7_stand lk_X7_71 ⟨by decide, by decide⟩ (sl_sh hb) (sl_lt hb) (by decide) ⟨_, rfl, rfl⟩ ⟨by decide, by decide⟩ (Nat.le_of_ble_eq_true rfl) dX7_movePeg_23 rfl rfl rfl rfl rfl) ?_
      refine im_st (r_aload_n (i := 0) dX7_movePeg_26 rfl rfl rfl) ?_
      refine im_st (s_getR (b := (b + 1)) (tag := 7) (j := 0) dX7_movePeg_27 rfl fl_X7_9 (sl_sh hb) (sl_lt hb) rfl (sl_rf0 hb)) ?_
      refine im_st (r_iload_n (i := 1) dX7_movePeg_30 rfl rfl rfl) ?_
      refine im_st (r_iload_n (i := 2) dX7_movePeg_31 rfl rfl rfl) ?_
      refine im_grd (fun g5 => ?_)
      refine im_st (s_iastore dX7_movePeg_32 rfl (sl_sh1 hb) (sl_lt1 hb) (inR_in g5)) ?_
      refine im_st (r_aload_n (i := 0) dX7_movePeg_33 rfl rfl rfl) ?_
      refine im_st (r_iload_n (i := 2) dX7_movePeg_34 rfl rfl rfl) ?_
      refine im_st (r_iload_n (i := 1) dX7_movePeg_35 rfl rfl rfl) ?_
      refine im_app (Gm := fun (σ6 : Sg) => Go M_X7_movePeg Q 0 0 36 [some (.ref b), some (.int a1), some (.int a2)] [.int a1, .int a2, .ref b] (mk σ6 τ)) (fun σ6 => ?_)
      refine im_bind (fun y7 hy7 => ?_)
      refine im_st (r_callV (as := [.int a2, .int a1]) (r := none) (kc1 := 0) (ks1 := 0) (st := []) (st1 := []) (e_X7_stand b a2 a1 σ6 τ hb y7 hy7) mv_X7_stand lk_X7_71 ⟨by decide, by decide⟩ (sl_sh hb) (sl_lt hb) (by decide) ⟨_, rfl, rfl⟩ ⟨by decide, by decide⟩ (Nat.le_of_ble_eq_true rfl) dX7_movePeg_36 rfl rfl rfl rfl rfl) ?_
      exact im_ret (fun q => g_vret rfl rfl rfl dX7_movePeg_39 q)
theorem e_X7_movePeg (b : Nat) (a1 : Int32) (a2 : Int32) (σ : Sg) (τ : Sl) (hb : isSl b) (y : Sg) (hy : f_X7_movePeg b a1 a2 σ = some y) : EvD M_X7_movePeg [.ref b, .int a1, .int a2] (mk σ τ) (none) (mk y τ) := EvM.of (by decide +kernel) (Nat.le_of_ble_eq_true rfl) (i_X7_movePeg b a1 a2 σ τ hb _ y hy ⟨rfl, rfl⟩)
def M_X7_addSlug : Ms := (yX7_addSlug, cX7_addSlug, 2, some .int, 2, 41, 0, 0)
theorem mv_X7_addSlug : MV M_X7_addSlug 1 := ⟨⟨q484, q2, by decide, by decide, by decide +kernel⟩, q482, q483⟩
def f_X7_addSlug (b : Nat) (a1 : Int32) (σ : Sg) : Option (Int32 × Sg) :=
  if (f_X7_isCell a1) = 0 then
    some ((-1 : Int32), σ)
  else
    (f_X7_isFree b a1 σ).bind fun (y2 : Int32) =>
    if y2 = 0 then
      some ((-2 : Int32), σ)
    else
      if (σ b 4) < (4 : Int32) then
        if inR (σ b 4) 4 then
        app (up2 σ (b + 3) (σ b 4).toNatClampNeg a1) fun (σ6 : Sg) =>
        (f_X7_stand b a1 (-2 : Int32) σ6).bind fun (y7 : Sg) =>
        app (up2 y7 b 4 ((y7 b 4) + (1 : Int32))) fun (σ8 : Sg) =>
        some ((σ8 b 4), σ8)
        else none
      else
        some ((-3 : Int32), σ)
set_option maxHeartbeats 4000000 in
set_option maxRecDepth 20000 in
theorem i_X7_addSlug (b : Nat) (a1 : Int32) (σ : Sg) (τ : Sl) (hb : isSl b) (Q : Option Value → Hp → Prop) : Imp (f_X7_addSlug b a1 σ) (fun (y : (Int32 × Sg)) => Q (some (.int y.1)) (mk y.2 τ)) (Go M_X7_addSlug Q 0 0 0 [some (.ref b), some (.int a1)] [] (mk σ τ)) := by
  unfold f_X7_addSlug
  refine im_st (r_iload_n (i := 1) dX7_addSlug_0 rfl rfl rfl) ?_
  refine im_st (r_callS (as := [.int a1]) (r := some (.int (f_X7_isCell a1))) (kc1 := 0) (ks1 := 0) (st := []) (st1 := [.int (f_X7_isCell a1)]) (e_X7_isCell a1 σ τ) ms_X7_isCell lk_X7_55 ⟨by decide, by decide⟩ ⟨by decide, by decide⟩ (Nat.le_of_ble_eq_true rfl) dX7_addSlug_1 rfl rfl rfl rfl rfl) ?_
  refine im_br (r_if_ne (tgt := 9) dX7_addSlug_4 rfl (by decide)) (fun c1 => ?_) (fun c1 => ?_)
  · refine im_st (r_iconst (v := -1) dX7_addSlug_7 rfl kI_m1) ?_
    exact im_ret (fun q => g_iret rfl rfl rfl dX7_addSlug_8 q)
  · refine im_st (r_aload_n (i := 0) dX7_addSlug_9 rfl rfl rfl) ?_
    refine im_st (r_iload_n (i := 1) dX7_addSlug_10 rfl rfl rfl) ?_
    refine im_bind (fun y2 hy2 => ?_)
    refine im_st (r_callV (as := [.int a1]) (r := some (.int y2)) (kc1 := 0) (ks1 := 0) (st := []) (st1 := [.int y2]) (e_X7_isFree b a1 σ τ hb y2 hy2) mv_X7_isFree lk_X7_68 ⟨by decide, by decide⟩ (sl_sh hb) (sl_lt hb) (by decide) ⟨_, rfl, rfl⟩ ⟨by decide, by decide⟩ (Nat.le_of_ble_eq_true rfl) dX7_addSlug_11 rfl rfl rfl rfl rfl) ?_
    refine im_br (r_if_ne (tgt := 20) dX7_addSlug_14 rfl (by decide)) (fun c3 => ?_) (fun c3 => ?_)
    · refine im_st (r_bipush (v := -2) dX7_addSlug_17 rfl kB_m2) ?_
      exact im_ret (fun q => g_iret rfl rfl rfl dX7_addSlug_19 q)
    · refine im_st (r_aload_n (i := 0) dX7_addSlug_20 rfl rfl rfl) ?_
      refine im_st (s_getI (tag := 7) (j := 4) dX7_addSlug_21 rfl fl_X7_25 (sl_sh hb) (sl_lt hb) rfl) ?_
      refine im_st (r_iconst (v := 4) dX7_addSlug_24 rfl kI_4) ?_
      refine im_br (r_icmp_lt (tgt := 31) dX7_addSlug_25 rfl (by decide)) (fun c4 => ?_) (fun c4 => ?_)
      · refine im_st (r_aload_n (i := 0) dX7_addSlug_31 rfl rfl rfl) ?_
        refine im_st (s_getR (b := (b + 3)) (tag := 7) (j := 3) dX7_addSlug_32 rfl fl_X7_22 (sl_sh hb) (sl_lt hb) rfl (sl_rf3 hb)) ?_
        refine im_st (r_aload_n (i := 0) dX7_addSlug_35 rfl rfl rfl) ?_
        refine im_st (s_getI (tag := 7) (j := 4) dX7_addSlug_36 rfl fl_X7_25 (sl_sh hb) (sl_lt hb) rfl) ?_
        refine im_st (r_iload_n (i := 1) dX7_addSlug_39 rfl rfl rfl) ?_
        refine im_grd (fun g5 => ?_)
        refine im_st (s_iastore dX7_addSlug_40 rfl (sl_sh3 hb) (sl_lt3 hb) (inR_in g5)) ?_
        refine im_st (r_aload_n (i := 0) dX7_addSlug_41 rfl rfl rfl) ?_
        refine im_st (r_iload_n (i := 1) dX7_addSlug_42 rfl rfl rfl) ?_
        refine im_st (r_bipush (v := -2) dX7_addSlug_43 rfl kB_m2) ?_
        refine im_app (Gm := fun (σ6 : Sg) => Go M_X7_addSlug Q 0 0 45 [some (.ref b), some (.int a1)] [.int (-2 : Int32), .int a1, .ref b] (mk σ6 τ)) (fun σ6 => ?_)
        refine im_bind (fun y7 hy7 => ?_)
        refine im_st (r_callV (as := [.int a1, .int (-2 : Int32)]) (r := none) (kc1 := 0) (ks1 := 0) (st := []) (st1 := []) (e_X7_stand b a1 (-2 : Int32) σ6 τ hb y7 hy7) mv_X7_stand lk_X7_71 ⟨by decide, by decide⟩ (sl_sh hb) (sl_lt hb) (by decide) ⟨_, rfl, rfl⟩ ⟨by decide, by decide⟩ (Nat.le_of_ble_eq_true rfl) dX7_addSlug_45 rfl rfl rfl rfl rfl) ?_
        refine im_st (r_aload_n (i := 0) dX7_addSlug_48 rfl rfl rfl) ?_
        refine im_st (r_dup dX7_addSlug_49 rfl rfl) ?_
        refine im_st (s_getI (tag := 7) (j := 4) dX7_addSlug_50 rfl fl_X7_25 (sl_sh hb) (sl_lt hb) rfl) ?_
        refine im_st (r_iconst (v := 1) dX7_addSlug_53 rfl kI_1) ?_
        refine im_st (r_iadd dX7_addSlug_54 rfl) ?_
        refine im_st (s_putI (tag := 7) (j := 4) dX7_addSlug_55 rfl fl_X7_25 (sl_sh hb) (sl_lt hb) rfl fw_7_4) ?_
        refine im_st (r_aload_n (i := 0) dX7_addSlug_58 rfl rfl rfl) ?_
        refine im_app (Gm := fun (σ8 : Sg) => Go M_X7_addSlug Q 0 0 59 [some (.ref b), some (.int a1)] [.ref b] (mk σ8 τ)) (fun σ8 => ?_)
        refine im_st (s_getI (tag := 7) (j := 4) dX7_addSlug_59 rfl fl_X7_25 (sl_sh hb) (sl_lt hb) rfl) ?_
        exact im_ret (fun q => g_iret rfl rfl rfl dX7_addSlug_62 q)
      · refine im_st (r_bipush (v := -3) dX7_addSlug_28 rfl kB_m3) ?_
        exact im_ret (fun q => g_iret rfl rfl rfl dX7_addSlug_30 q)
theorem e_X7_addSlug (b : Nat) (a1 : Int32) (σ : Sg) (τ : Sl) (hb : isSl b) (y : (Int32 × Sg)) (hy : f_X7_addSlug b a1 σ = some y) : EvD M_X7_addSlug [.ref b, .int a1] (mk σ τ) (some (.int y.1)) (mk y.2 τ) := EvM.of (by decide +kernel) (Nat.le_of_ble_eq_true rfl) (i_X7_addSlug b a1 σ τ hb _ y hy ⟨rfl, rfl⟩)
def M_X7_cutSlugs : Ms := (yX7_cutSlugs, cX7_cutSlugs, 3, none, 1, 22, 0, 0)
theorem mv_X7_cutSlugs : MV M_X7_cutSlugs 1 := ⟨⟨q647, q2, by decide, by decide, by decide +kernel⟩, q645, q646⟩
def b_X7_cutSlugs_6 (b : Nat) : (Int32 × Sg) → Option ((Int32 × Sg) ⊕ (Int32 × Sg)) := fun (s1 : (Int32 × Sg)) =>
  if (s1.2 b 4) ≤ s1.1 then
    some (.inr (s1.1, s1.2))
  else
    if inR s1.1 4 then
    (f_X7_stand b (s1.2 (b + 3) s1.1.toNatClampNeg) (-1 : Int32) s1.2).bind fun (y4 : Sg) =>
    some (.inl ((s1.1 + 1), y4))
    else none
def f_X7_cutSlugs (b : Nat) (a1 : Int32) (σ : Sg) : Option Sg :=
  (wh (b_X7_cutSlugs_6 b) 4096 ((iMax a1 (0 : Int32)), σ)).bind fun (e5 : (Int32 × Sg)) =>
  some (up2 e5.2 b 4 (iMax (0 : Int32) (iMin a1 (e5.2 b 4))))
set_option maxHeartbeats 4000000 in
set_option maxRecDepth 20000 in
theorem i_X7_cutSlugs (b : Nat) (a1 : Int32) (σ : Sg) (τ : Sl) (hb : isSl b) (Q : Option Value → Hp → Prop) : Imp (f_X7_cutSlugs b a1 σ) (fun (y : Sg) => Q (none) (mk y τ)) (Go M_X7_cutSlugs Q 0 0 0 [some (.ref b), some (.int a1), none] [] (mk σ τ)) := by
  unfold f_X7_cutSlugs
  refine im_st (r_iload_n (i := 1) dX7_cutSlugs_0 rfl rfl rfl) ?_
  refine im_st (r_iconst (v := 0) dX7_cutSlugs_1 rfl kI_0) ?_
  refine im_st (s_iMax lk_X7_75 (by decide) (Nat.le_of_ble_eq_true rfl) dX7_cutSlugs_2 rfl) ?_
  refine im_st (r_istore_n (i := 2) (L1 := [some (.ref b), some (.int a1), some (.int (iMax a1 (0 : Int32)))]) dX7_cutSlugs_5 rfl rfl (by decide) rfl) ?_
  refine im_seq (Gm := fun (e5 : (Int32 × Sg)) => Go M_X7_cutSlugs Q 0 0 31 [some (.ref b), some (.int a1), none] [] (mk e5.2 τ)) ?_ (fun e5 => ?_)
  · refine im_wh (G := fun (s1 : (Int32 × Sg)) => Go M_X7_cutSlugs Q 0 0 6 [some (.ref b), some (.int a1), some (.int s1.1)] [] (mk s1.2 τ)) (fun s1 => ?_) _ _
    unfold b_X7_cutSlugs_6
    refine im_st (r_iload_n (i := 2) dX7_cutSlugs_6 rfl rfl rfl) ?_
    refine im_st (r_aload_n (i := 0) dX7_cutSlugs_7 rfl rfl rfl) ?_
    refine im_st (s_getI (tag := 7) (j := 4) dX7_cutSlugs_8 rfl fl_X7_25 (sl_sh hb) (sl_lt hb) rfl) ?_
    refine im_br (r_icmp_ge (tgt := 31) dX7_cutSlugs_11 rfl (by decide)) (fun c2 => ?_) (fun c2 => ?_)
    · refine im_st (r_fgt (L1 := [some (.ref b), some (.int a1), none]) [2] rfl) ?_
      exact im_ret id
    · refine im_st (r_aload_n (i := 0) dX7_cutSlugs_14 rfl rfl rfl) ?_
      refine im_st (r_aload_n (i := 0) dX7_cutSlugs_15 rfl rfl rfl) ?_
      refine im_st (s_getR (b := (b + 3)) (tag := 7) (j := 3) dX7_cutSlugs_16 rfl fl_X7_22 (sl_sh hb) (sl_lt hb) rfl (sl_rf3 hb)) ?_
      refine im_st (r_iload_n (i := 2) dX7_cutSlugs_19 rfl rfl rfl) ?_
      refine im_grd (fun g3 => ?_)
      refine im_st (s_iaload dX7_cutSlugs_20 rfl (sl_sh3 hb) (sl_lt3 hb) (inR_in g3)) ?_
      refine im_st (r_iconst (v := -1) dX7_cutSlugs_21 rfl kI_m1) ?_
      refine im_bind (fun y4 hy4 => ?_)
      refine im_st (r_callV (as := [.int (s1.2 (b + 3) s1.1.toNatClampNeg), .int (-1 : Int32)]) (r := none) (kc1 := 0) (ks1 := 0) (st := []) (st1 := []) (e_X7_stand b (s1.2 (b + 3) s1.1.toNatClampNeg) (-1 : Int32) s1.2 τ hb y4 hy4) mv_X7_stand lk_X7_71 ⟨by decide, by decide⟩ (sl_sh hb) (sl_lt hb) (by decide) ⟨_, rfl, rfl⟩ ⟨by decide, by decide⟩ (Nat.le_of_ble_eq_true rfl) dX7_cutSlugs_22 rfl rfl rfl rfl rfl) ?_
      refine im_st (r_iinc (i := 2) (x := s1.1) (v := (s1.1 + 1)) (L1 := [some (.ref b), some (.int a1), some (.int (s1.1 + 1))]) dX7_cutSlugs_25 rfl rfl rfl (by decide) rfl) ?_
      refine im_st (r_goto (pc1 := 6) dX7_cutSlugs_28 (by decide)) ?_
      exact im_ret id
  refine im_st (r_aload_n (i := 0) dX7_cutSlugs_31 rfl rfl rfl) ?_
  refine im_st (r_iconst (v := 0) dX7_cutSlugs_32 rfl kI_0) ?_
  refine im_st (r_iload_n (i := 1) dX7_cutSlugs_33 rfl rfl rfl) ?_
  refine im_st (r_aload_n (i := 0) dX7_cutSlugs_34 rfl rfl rfl) ?_
  refine im_st (s_getI (tag := 7) (j := 4) dX7_cutSlugs_35 rfl fl_X7_25 (sl_sh hb) (sl_lt hb) rfl) ?_
  refine im_st (s_iMin lk_X7_81 (by decide) (Nat.le_of_ble_eq_true rfl) dX7_cutSlugs_38 rfl) ?_
  refine im_st (s_iMax lk_X7_75 (by decide) (Nat.le_of_ble_eq_true rfl) dX7_cutSlugs_41 rfl) ?_
  refine im_st (s_putI (tag := 7) (j := 4) dX7_cutSlugs_44 rfl fl_X7_25 (sl_sh hb) (sl_lt hb) rfl fw_7_4) ?_
  exact im_ret (fun q => g_vret rfl rfl rfl dX7_cutSlugs_47 q)
theorem e_X7_cutSlugs (b : Nat) (a1 : Int32) (σ : Sg) (τ : Sl) (hb : isSl b) (y : Sg) (hy : f_X7_cutSlugs b a1 σ = some y) : EvD M_X7_cutSlugs [.ref b, .int a1] (mk σ τ) (none) (mk y τ) := EvM.of (by decide +kernel) (Nat.le_of_ble_eq_true rfl) (i_X7_cutSlugs b a1 σ τ hb _ y hy ⟨rfl, rfl⟩)
def M_X7_exchangeHedgehogs : Ms := (yX7_exchangeHedgehogs, cX7_exchangeHedgehogs, 5, none, 1, 21, 0, 0)
theorem mv_X7_exchangeHedgehogs : MV M_X7_exchangeHedgehogs 2 := ⟨⟨q787, q2, by decide, by decide, by decide +kernel⟩, q785, q786⟩
def f_X7_exchangeHedgehogs (b : Nat) (a1 : Int32) (a2 : Int32) (σ : Sg) : Option Sg :=
  if (f_X7_isHedgehog b a1 σ) = 0 then
    some σ
  else
    if (f_X7_isHedgehog b a2 σ) = 0 then
      some σ
    else
      if inR a1 4 then
      app (σ (b + 4) a1.toNatClampNeg) fun (v4 : Int32) =>
      if inR a2 4 then
      if inR a1 4 then
      app (up2 σ (b + 4) a1.toNatClampNeg (σ (b + 4) a2.toNatClampNeg)) fun (σ7 : Sg) =>
      if inR a2 4 then
      app (up2 σ7 (b + 4) a2.toNatClampNeg v4) fun (σ9 : Sg) =>
      if inR a1 4 then
      app (σ9 (b + 5) a1.toNatClampNeg) fun (v11 : Int32) =>
      if inR a2 4 then
      if inR a1 4 then
      app (up2 σ9 (b + 5) a1.toNatClampNeg (σ9 (b + 5) a2.toNatClampNeg)) fun (σ14 : Sg) =>
      if inR a2 4 then
      some (up2 σ14 (b + 5) a2.toNatClampNeg v11)
      else none
      else none
      else none
      else none
      else none
      else none
      else none
      else none
set_option maxHeartbeats 4000000 in
set_option maxRecDepth 20000 in
theorem i_X7_exchangeHedgehogs (b : Nat) (a1 : Int32) (a2 : Int32) (σ : Sg) (τ : Sl) (hb : isSl b) (Q : Option Value → Hp → Prop) : Imp (f_X7_exchangeHedgehogs b a1 a2 σ) (fun (y : Sg) => Q (none) (mk y τ)) (Go M_X7_exchangeHedgehogs Q 0 0 0 [some (.ref b), some (.int a1), some (.int a2), none, none] [] (mk σ τ)) := by
  unfold f_X7_exchangeHedgehogs
  refine im_st (r_aload_n (i := 0) dX7_exchangeHedgehogs_0 rfl rfl rfl) ?_
  refine im_st (r_iload_n (i := 1) dX7_exchangeHedgehogs_1 rfl rfl rfl) ?_
  refine im_st (r_callV (as := [.int a1]) (r := some (.int (f_X7_isHedgehog b a1 σ))) (kc1 := 0) (ks1 := 0) (st := []) (st1 := [.int (f_X7_isHedgehog b a1 σ)]) (e_X7_isHedgehog b a1 σ τ hb) mv_X7_isHedgehog lk_X7_87 ⟨by decide, by decide⟩ (sl_sh hb) (sl_lt hb) (by decide) ⟨_, rfl, rfl⟩ ⟨by decide, by decide⟩ (Nat.le_of_ble_eq_true rfl) dX7_exchangeHedgehogs_2 rfl rfl rfl rfl rfl) ?_
  refine im_br (r_if_eq (tgt := 70) dX7_exchangeHedgehogs_5 rfl (by decide)) (fun c1 => ?_) (fun c1 => ?_)
  · exact im_ret (fun q => g_vret rfl rfl rfl dX7_exchangeHedgehogs_70 q)
  · refine im_st (r_aload_n (i := 0) dX7_exchangeHedgehogs_8 rfl rfl rfl) ?_
    refine im_st (r_iload_n (i := 2) dX7_exchangeHedgehogs_9 rfl rfl rfl) ?_
    refine im_st (r_callV (as := [.int a2]) (r := some (.int (f_X7_isHedgehog b a2 σ))) (kc1 := 0) (ks1 := 0) (st := []) (st1 := [.int (f_X7_isHedgehog b a2 σ)]) (e_X7_isHedgehog b a2 σ τ hb) mv_X7_isHedgehog lk_X7_87 ⟨by decide, by decide⟩ (sl_sh hb) (sl_lt hb) (by decide) ⟨_, rfl, rfl⟩ ⟨by decide, by decide⟩ (Nat.le_of_ble_eq_true rfl) dX7_exchangeHedgehogs_10 rfl rfl rfl rfl rfl) ?_
    refine im_br (r_if_eq (tgt := 70) dX7_exchangeHedgehogs_13 rfl (by decide)) (fun c2 => ?_) (fun c2 => ?_)
    · exact im_ret (fun q => g_vret rfl rfl rfl dX7_exchangeHedgehogs_70 q)
    · refine im_st (r_aload_n (i := 0) dX7_exchangeHedgehogs_16 rfl rfl rfl) ?_
      refine im_st (s_getR (b := (b + 4)) (tag := 7) (j := 5) dX7_exchangeHedgehogs_17 rfl fl_X7_28 (sl_sh hb) (sl_lt hb) rfl (sl_rf5 hb)) ?_
      refine im_st (r_iload_n (i := 1) dX7_exchangeHedgehogs_20 rfl rfl rfl) ?_
      refine im_grd (fun g3 => ?_)
      refine im_st (s_iaload dX7_exchangeHedgehogs_21 rfl (sl_sh4 hb) (sl_lt4 hb) (inR_in g3)) ?_
      refine im_app (Gm := fun (v4 : Int32) => Go M_X7_exchangeHedgehogs Q 0 0 22 [some (.ref b), some (.int a1), some (.int a2), none, none] [.int v4] (mk σ τ)) (fun v4 => ?_)
      refine im_st (r_istore_n (i := 3) (L1 := [some (.ref b), some (.int a1), some (.int a2), some (.int v4), none]) dX7_exchangeHedgehogs_22 rfl rfl (by decide) rfl) ?_
      refine im_st (r_aload_n (i := 0) dX7_exchangeHedgehogs_23 rfl rfl rfl) ?_
      refine im_st (s_getR (b := (b + 4)) (tag := 7) (j := 5) dX7_exchangeHedgehogs_24 rfl fl_X7_28 (sl_sh hb) (sl_lt hb) rfl (sl_rf5 hb)) ?_
      refine im_st (r_iload_n (i := 1) dX7_exchangeHedgehogs_27 rfl rfl rfl) ?_
      refine im_st (r_aload_n (i := 0) dX7_exchangeHedgehogs_28 rfl rfl rfl) ?_
      refine im_st (s_getR (b := (b + 4)) (tag := 7) (j := 5) dX7_exchangeHedgehogs_29 rfl fl_X7_28 (sl_sh hb) (sl_lt hb) rfl (sl_rf5 hb)) ?_
      refine im_st (r_iload_n (i := 2) dX7_exchangeHedgehogs_32 rfl rfl rfl) ?_
      refine im_grd (fun g5 => ?_)
      refine im_st (s_iaload dX7_exchangeHedgehogs_33 rfl (sl_sh4 hb) (sl_lt4 hb) (inR_in g5)) ?_
      refine im_grd (fun g6 => ?_)
      refine im_st (s_iastore dX7_exchangeHedgehogs_34 rfl (sl_sh4 hb) (sl_lt4 hb) (inR_in g6)) ?_
      refine im_st (r_aload_n (i := 0) dX7_exchangeHedgehogs_35 rfl rfl rfl) ?_
      refine im_st (s_getR (b := (b + 4)) (tag := 7) (j := 5) dX7_exchangeHedgehogs_36 rfl fl_X7_28 (sl_sh hb) (sl_lt hb) rfl (sl_rf5 hb)) ?_
      refine im_st (r_iload_n (i := 2) dX7_exchangeHedgehogs_39 rfl rfl rfl) ?_
      refine im_st (r_iload_n (i := 3) dX7_exchangeHedgehogs_40 rfl rfl rfl) ?_
      refine im_app (Gm := fun (σ7 : Sg) => Go M_X7_exchangeHedgehogs Q 0 0 41 [some (.ref b), some (.int a1), some (.int a2), some (.int v4), none] [.int v4, .int a2, .ref (b + 4)] (mk σ7 τ)) (fun σ7 => ?_)
      refine im_grd (fun g8 => ?_)
      refine im_st (s_iastore dX7_exchangeHedgehogs_41 rfl (sl_sh4 hb) (sl_lt4 hb) (inR_in g8)) ?_
      refine im_st (r_aload_n (i := 0) dX7_exchangeHedgehogs_42 rfl rfl rfl) ?_
      refine im_st (s_getR (b := (b + 5)) (tag := 7) (j := 6) dX7_exchangeHedgehogs_43 rfl fl_X7_31 (sl_sh hb) (sl_lt hb) rfl (sl_rf6 hb)) ?_
      refine im_st (r_iload_n (i := 1) dX7_exchangeHedgehogs_46 rfl rfl rfl) ?_
      refine im_app (Gm := fun (σ9 : Sg) => Go M_X7_exchangeHedgehogs Q 0 0 47 [some (.ref b), some (.int a1), some (.int a2), some (.int v4), none] [.int a1, .ref (b + 5)] (mk σ9 τ)) (fun σ9 => ?_)
      refine im_grd (fun g10 => ?_)
      refine im_st (s_iaload dX7_exchangeHedgehogs_47 rfl (sl_sh5 hb) (sl_lt5 hb) (inR_in g10)) ?_
      refine im_app (Gm := fun (v11 : Int32) => Go M_X7_exchangeHedgehogs Q 0 0 48 [some (.ref b), some (.int a1), some (.int a2), some (.int v4), none] [.int v11] (mk σ9 τ)) (fun v11 => ?_)
      refine im_st (r_istore (i := 4) (L1 := [some (.ref b), some (.int a1), some (.int a2), some (.int v4), some (.int v11)]) dX7_exchangeHedgehogs_48 rfl (by decide) rfl) ?_
      refine im_st (r_aload_n (i := 0) dX7_exchangeHedgehogs_50 rfl rfl rfl) ?_
      refine im_st (s_getR (b := (b + 5)) (tag := 7) (j := 6) dX7_exchangeHedgehogs_51 rfl fl_X7_31 (sl_sh hb) (sl_lt hb) rfl (sl_rf6 hb)) ?_
      refine im_st (r_iload_n (i := 1) dX7_exchangeHedgehogs_54 rfl rfl rfl) ?_
      refine im_st (r_aload_n (i := 0) dX7_exchangeHedgehogs_55 rfl rfl rfl) ?_
      refine im_st (s_getR (b := (b + 5)) (tag := 7) (j := 6) dX7_exchangeHedgehogs_56 rfl fl_X7_31 (sl_sh hb) (sl_lt hb) rfl (sl_rf6 hb)) ?_
      refine im_st (r_iload_n (i := 2) dX7_exchangeHedgehogs_59 rfl rfl rfl) ?_
      refine im_grd (fun g12 => ?_)
      refine im_st (s_iaload dX7_exchangeHedgehogs_60 rfl (sl_sh5 hb) (sl_lt5 hb) (inR_in g12)) ?_
      refine im_grd (fun g13 => ?_)
      refine im_st (s_iastore dX7_exchangeHedgehogs_61 rfl (sl_sh5 hb) (sl_lt5 hb) (inR_in g13)) ?_
      refine im_st (r_aload_n (i := 0) dX7_exchangeHedgehogs_62 rfl rfl rfl) ?_
      refine im_st (s_getR (b := (b + 5)) (tag := 7) (j := 6) dX7_exchangeHedgehogs_63 rfl fl_X7_31 (sl_sh hb) (sl_lt hb) rfl (sl_rf6 hb)) ?_
      refine im_st (r_iload_n (i := 2) dX7_exchangeHedgehogs_66 rfl rfl rfl) ?_
      refine im_st (r_iload (i := 4) dX7_exchangeHedgehogs_67 rfl rfl) ?_
      refine im_app (Gm := fun (σ14 : Sg) => Go M_X7_exchangeHedgehogs Q 0 0 69 [some (.ref b), some (.int a1), some (.int a2), some (.int v4), some (.int v11)] [.int v11, .int a2, .ref (b + 5)] (mk σ14 τ)) (fun σ14 => ?_)
      refine im_grd (fun g15 => ?_)
      refine im_st (s_iastore dX7_exchangeHedgehogs_69 rfl (sl_sh5 hb) (sl_lt5 hb) (inR_in g15)) ?_
      exact im_ret (fun q => g_vret rfl rfl rfl dX7_exchangeHedgehogs_70 q)
theorem e_X7_exchangeHedgehogs (b : Nat) (a1 : Int32) (a2 : Int32) (σ : Sg) (τ : Sl) (hb : isSl b) (y : Sg) (hy : f_X7_exchangeHedgehogs b a1 a2 σ = some y) : EvD M_X7_exchangeHedgehogs [.ref b, .int a1, .int a2] (mk σ τ) (none) (mk y τ) := EvM.of (by decide +kernel) (Nat.le_of_ble_eq_true rfl) (i_X7_exchangeHedgehogs b a1 a2 σ τ hb _ y hy ⟨rfl, rfl⟩)
def M_X7_hidePeg : Ms := (yX7_hidePeg, cX7_hidePeg, 2, none, 1, 22, 0, 0)
theorem mv_X7_hidePeg : MV M_X7_hidePeg 1 := ⟨⟨q800, q2, by decide, by decide, by decide +kernel⟩, q798, q799⟩
def f_X7_hidePeg (b : Nat) (a1 : Int32) (σ : Sg) : Option Sg :=
  if (f_X7_isPeg b a1 σ) = 0 then
    some σ
  else
    if inR a1 7 then
    (f_X7_stand b (σ (b + 1) a1.toNatClampNeg) (-1 : Int32) σ).bind fun (y3 : Sg) =>
    some y3
    else none
set_option maxHeartbeats 4000000 in
set_option maxRecDepth 20000 in
theorem i_X7_hidePeg (b : Nat) (a1 : Int32) (σ : Sg) (τ : Sl) (hb : isSl b) (Q : Option Value → Hp → Prop) : Imp (f_X7_hidePeg b a1 σ) (fun (y : Sg) => Q (none) (mk y τ)) (Go M_X7_hidePeg Q 0 0 0 [some (.ref b), some (.int a1)] [] (mk σ τ)) := by
  unfold f_X7_hidePeg
  refine im_st (r_aload_n (i := 0) dX7_hidePeg_0 rfl rfl rfl) ?_
  refine im_st (r_iload_n (i := 1) dX7_hidePeg_1 rfl rfl rfl) ?_
  refine im_st (r_callV (as := [.int a1]) (r := some (.int (f_X7_isPeg b a1 σ))) (kc1 := 0) (ks1 := 0) (st := []) (st1 := [.int (f_X7_isPeg b a1 σ)]) (e_X7_isPeg b a1 σ τ hb) mv_X7_isPeg lk_X7_84 ⟨by decide, by decide⟩ (sl_sh hb) (sl_lt hb) (by decide) ⟨_, rfl, rfl⟩ ⟨by decide, by decide⟩ (Nat.le_of_ble_eq_true rfl) dX7_hidePeg_2 rfl rfl rfl rfl rfl) ?_
  refine im_br (r_if_eq (tgt := 19) dX7_hidePeg_5 rfl (by decide)) (fun c1 => ?_) (fun c1 => ?_)
  · exact im_ret (fun q => g_vret rfl rfl rfl dX7_hidePeg_19 q)
  · refine im_st (r_aload_n (i := 0) dX7_hidePeg_8 rfl rfl rfl) ?_
    refine im_st (r_aload_n (i := 0) dX7_hidePeg_9 rfl rfl rfl) ?_
    refine im_st (s_getR (b := (b + 1)) (tag := 7) (j := 0) dX7_hidePeg_10 rfl fl_X7_9 (sl_sh hb) (sl_lt hb) rfl (sl_rf0 hb)) ?_
    refine im_st (r_iload_n (i := 1) dX7_hidePeg_13 rfl rfl rfl) ?_
    refine im_grd (fun g2 => ?_)
    refine im_st (s_iaload dX7_hidePeg_14 rfl (sl_sh1 hb) (sl_lt1 hb) (inR_in g2)) ?_
    refine im_st (r_iconst (v := -1) dX7_hidePeg_15 rfl kI_m1) ?_
    refine im_bind (fun y3 hy3 => ?_)
    refine im_st (r_callV (as := [.int (σ (b + 1) a1.toNatClampNeg), .int (-1 : Int32)]) (r := none) (kc1 := 0) (ks1 := 0) (st := []) (st1 := []) (e_X7_stand b (σ (b + 1) a1.toNatClampNeg) (-1 : Int32) σ τ hb y3 hy3) mv_X7_stand lk_X7_71 ⟨by decide, by decide⟩ (sl_sh hb) (sl_lt hb) (by decide) ⟨_, rfl, rfl⟩ ⟨by decide, by decide⟩ (Nat.le_of_ble_eq_true rfl) dX7_hidePeg_16 rfl rfl rfl rfl rfl) ?_
    exact im_ret (fun q => g_vret rfl rfl rfl dX7_hidePeg_19 q)
theorem e_X7_hidePeg (b : Nat) (a1 : Int32) (σ : Sg) (τ : Sl) (hb : isSl b) (y : Sg) (hy : f_X7_hidePeg b a1 σ = some y) : EvD M_X7_hidePeg [.ref b, .int a1] (mk σ τ) (none) (mk y τ) := EvM.of (by decide +kernel) (Nat.le_of_ble_eq_true rfl) (i_X7_hidePeg b a1 σ τ hb _ y hy ⟨rfl, rfl⟩)
def M_X7_showPeg : Ms := (yX7_showPeg, cX7_showPeg, 2, none, 1, 22, 0, 0)
theorem mv_X7_showPeg : MV M_X7_showPeg 1 := ⟨⟨q804, q2, by decide, by decide, by decide +kernel⟩, q802, q803⟩
def f_X7_showPeg (b : Nat) (a1 : Int32) (σ : Sg) : Option Sg :=
  if (f_X7_isPeg b a1 σ) = 0 then
    some σ
  else
    if inR a1 7 then
    (f_X7_stand b (σ (b + 1) a1.toNatClampNeg) a1 σ).bind fun (y3 : Sg) =>
    some y3
    else none
set_option maxHeartbeats 4000000 in
set_option maxRecDepth 20000 in
theorem i_X7_showPeg (b : Nat) (a1 : Int32) (σ : Sg) (τ : Sl) (hb : isSl b) (Q : Option Value → Hp → Prop) : Imp (f_X7_showPeg b a1 σ) (fun (y : Sg) => Q (none) (mk y τ)) (Go M_X7_showPeg Q 0 0 0 [some (.ref b), some (.int a1)] [] (mk σ τ)) := by
  unfold f_X7_showPeg
  refine im_st (r_aload_n (i := 0) dX7_showPeg_0 rfl rfl rfl) ?_
  refine im_st (r_iload_n (i := 1) dX7_showPeg_1 rfl rfl rfl) ?_
  refine im_st (r_callV (as := [.int a1]) (r := some (.int (f_X7_isPeg b a1 σ))) (kc1 := 0) (ks1 := 0) (st := []) (st1 := [.int (f_X7_isPeg b a1 σ)]) (e_X7_isPeg b a1 σ τ hb) mv_X7_isPeg lk_X7_84 ⟨by decide, by decide⟩ (sl_sh hb) (sl_lt hb) (by decide) ⟨_, rfl, rfl⟩ ⟨by decide, by decide⟩ (Nat.le_of_ble_eq_true rfl) dX7_showPeg_2 rfl rfl rfl rfl rfl) ?_
  refine im_br (r_if_eq (tgt := 19) dX7_showPeg_5 rfl (by decide)) (fun c1 => ?_) (fun c1 => ?_)
  · exact im_ret (fun q => g_vret rfl rfl rfl dX7_showPeg_19 q)
  · refine im_st (r_aload_n (i := 0) dX7_showPeg_8 rfl rfl rfl) ?_
    refine im_st (r_aload_n (i := 0) dX7_showPeg_9 rfl rfl rfl) ?_
    refine im_st (s_getR (b := (b + 1)) (tag := 7) (j := 0) dX7_showPeg_10 rfl fl_X7_9 (sl_sh hb) (sl_lt hb) rfl (sl_rf0 hb)) ?_
    refine im_st (r_iload_n (i := 1) dX7_showPeg_13 rfl rfl rfl) ?_
    refine im_grd (fun g2 => ?_)
    refine im_st (s_iaload dX7_showPeg_14 rfl (sl_sh1 hb) (sl_lt1 hb) (inR_in g2)) ?_
    refine im_st (r_iload_n (i := 1) dX7_showPeg_15 rfl rfl rfl) ?_
    refine im_bind (fun y3 hy3 => ?_)
    refine im_st (r_callV (as := [.int (σ (b + 1) a1.toNatClampNeg), .int a1]) (r := none) (kc1 := 0) (ks1 := 0) (st := []) (st1 := []) (e_X7_stand b (σ (b + 1) a1.toNatClampNeg) a1 σ τ hb y3 hy3) mv_X7_stand lk_X7_71 ⟨by decide, by decide⟩ (sl_sh hb) (sl_lt hb) (by decide) ⟨_, rfl, rfl⟩ ⟨by decide, by decide⟩ (Nat.le_of_ble_eq_true rfl) dX7_showPeg_16 rfl rfl rfl rfl rfl) ?_
    exact im_ret (fun q => g_vret rfl rfl rfl dX7_showPeg_19 q)
theorem e_X7_showPeg (b : Nat) (a1 : Int32) (σ : Sg) (τ : Sl) (hb : isSl b) (y : Sg) (hy : f_X7_showPeg b a1 σ = some y) : EvD M_X7_showPeg [.ref b, .int a1] (mk σ τ) (none) (mk y τ) := EvM.of (by decide +kernel) (Nat.le_of_ble_eq_true rfl) (i_X7_showPeg b a1 σ τ hb _ y hy ⟨rfl, rfl⟩)
def M_X7_isColumn : Ms := (yX7_isColumn, cX7_isColumn, 1, some .boolean, 0, 0, 0, 0)
theorem ms_X7_isColumn : MS M_X7_isColumn 1 := ⟨⟨q660, q2, by decide, by decide, by decide +kernel⟩, q659⟩
def f_X7_isColumn (a0 : Int32) : Int32 :=
  if a0 < 0 then
    (0 : Int32)
  else
    if (8 : Int32) ≤ a0 then
      (0 : Int32)
    else
      (1 : Int32)
theorem z_X7_isColumn (a0 : Int32) : isB (f_X7_isColumn a0) = true := by
  unfold f_X7_isColumn
  (repeat' split) <;> first | rfl
set_option maxHeartbeats 4000000 in
set_option maxRecDepth 20000 in
theorem i_X7_isColumn (a0 : Int32) (σ : Sg) (τ : Sl) (Q : Option Value → Hp → Prop) : Imp (some (f_X7_isColumn a0)) (fun (y : Int32) => Q (some (.int y)) (mk σ τ)) (Go M_X7_isColumn Q 0 0 0 [some (.int a0)] [] (mk σ τ)) := by
  unfold f_X7_isColumn
  refine im_st (r_iload_n (i := 0) dX7_isColumn_0 rfl rfl rfl) ?_
  refine im_brS (r_if_lt (tgt := 14) dX7_isColumn_1 rfl (by decide)) (fun c1 => ?_) (fun c1 => ?_)
  · refine im_st (r_iconst (v := 0) dX7_isColumn_14 rfl kI_0) ?_
    exact im_ret (fun q => g_zret (ty := .boolean) rfl rfl rfl rfl dX7_isColumn_15 q)
  · refine im_st (r_iload_n (i := 0) dX7_isColumn_4 rfl rfl rfl) ?_
    refine im_st (r_bipush (v := 8) dX7_isColumn_5 rfl kB_8) ?_
    refine im_brS (r_icmp_ge (tgt := 14) dX7_isColumn_7 rfl (by decide)) (fun c2 => ?_) (fun c2 => ?_)
    · refine im_st (r_iconst (v := 0) dX7_isColumn_14 rfl kI_0) ?_
      exact im_ret (fun q => g_zret (ty := .boolean) rfl rfl rfl rfl dX7_isColumn_15 q)
    · refine im_st (r_iconst (v := 1) dX7_isColumn_10 rfl kI_1) ?_
      refine im_st (r_goto (pc1 := 15) dX7_isColumn_11 (by decide)) ?_
      exact im_ret (fun q => g_zret (ty := .boolean) rfl rfl rfl rfl dX7_isColumn_15 q)
theorem e_X7_isColumn (a0 : Int32) (σ : Sg) (τ : Sl) : EvD M_X7_isColumn [.int a0] (mk σ τ) (some (.int (f_X7_isColumn a0))) (mk σ τ) := EvM.of (by decide +kernel) (Nat.le_of_ble_eq_true rfl) (i_X7_isColumn a0 σ τ _ _ rfl ⟨rfl, rfl⟩)
def M_X7_addHedgehog : Ms := (yX7_addHedgehog, cX7_addHedgehog, 3, some .int, 0, 0, 0, 0)
theorem mv_X7_addHedgehog : MV M_X7_addHedgehog 2 := ⟨⟨q502, q2, by decide, by decide, by decide +kernel⟩, q500, q501⟩
def f_X7_addHedgehog (b : Nat) (a1 : Int32) (a2 : Int32) (σ : Sg) : Option (Int32 × Sg) :=
  if (σ b 7) < (4 : Int32) then
    if inR (σ b 7) 4 then
    app (up2 σ (b + 4) (σ b 7).toNatClampNeg a1) fun (σ3 : Sg) =>
    if inR (σ3 b 7) 4 then
    app (up2 σ3 (b + 5) (σ3 b 7).toNatClampNeg a2) fun (σ5 : Sg) =>
    app (up2 σ5 b 7 ((σ5 b 7) + (1 : Int32))) fun (σ6 : Sg) =>
    some ((σ6 b 7), σ6)
    else none
    else none
  else
    some ((-3 : Int32), σ)
set_option maxHeartbeats 4000000 in
set_option maxRecDepth 20000 in
theorem i_X7_addHedgehog (b : Nat) (a1 : Int32) (a2 : Int32) (σ : Sg) (τ : Sl) (hb : isSl b) (Q : Option Value → Hp → Prop) : Imp (f_X7_addHedgehog b a1 a2 σ) (fun (y : (Int32 × Sg)) => Q (some (.int y.1)) (mk y.2 τ)) (Go M_X7_addHedgehog Q 0 0 0 [some (.ref b), some (.int a1), some (.int a2)] [] (mk σ τ)) := by
  unfold f_X7_addHedgehog
  refine im_st (r_aload_n (i := 0) dX7_addHedgehog_0 rfl rfl rfl) ?_
  refine im_st (s_getI (tag := 7) (j := 7) dX7_addHedgehog_1 rfl fl_X7_34 (sl_sh hb) (sl_lt hb) rfl) ?_
  refine im_st (r_iconst (v := 4) dX7_addHedgehog_4 rfl kI_4) ?_
  refine im_br (r_icmp_lt (tgt := 11) dX7_addHedgehog_5 rfl (by decide)) (fun c1 => ?_) (fun c1 => ?_)
  · refine im_st (r_aload_n (i := 0) dX7_addHedgehog_11 rfl rfl rfl) ?_
    refine im_st (s_getR (b := (b + 4)) (tag := 7) (j := 5) dX7_addHedgehog_12 rfl fl_X7_28 (sl_sh hb) (sl_lt hb) rfl (sl_rf5 hb)) ?_
    refine im_st (r_aload_n (i := 0) dX7_addHedgehog_15 rfl rfl rfl) ?_
    refine im_st (s_getI (tag := 7) (j := 7) dX7_addHedgehog_16 rfl fl_X7_34 (sl_sh hb) (sl_lt hb) rfl) ?_
    refine im_st (r_iload_n (i := 1) dX7_addHedgehog_19 rfl rfl rfl) ?_
    refine im_grd (fun g2 => ?_)
    refine im_st (s_iastore dX7_addHedgehog_20 rfl (sl_sh4 hb) (sl_lt4 hb) (inR_in g2)) ?_
    refine im_st (r_aload_n (i := 0) dX7_addHedgehog_21 rfl rfl rfl) ?_
    refine im_st (s_getR (b := (b + 5)) (tag := 7) (j := 6) dX7_addHedgehog_22 rfl fl_X7_31 (sl_sh hb) (sl_lt hb) rfl (sl_rf6 hb)) ?_
    refine im_st (r_aload_n (i := 0) dX7_addHedgehog_25 rfl rfl rfl) ?_
    refine im_app (Gm := fun (σ3 : Sg) => Go M_X7_addHedgehog Q 0 0 26 [some (.ref b), some (.int a1), some (.int a2)] [.ref b, .ref (b + 5)] (mk σ3 τ)) (fun σ3 => ?_)
    refine im_st (s_getI (tag := 7) (j := 7) dX7_addHedgehog_26 rfl fl_X7_34 (sl_sh hb) (sl_lt hb) rfl) ?_
    refine im_st (r_iload_n (i := 2) dX7_addHedgehog_29 rfl rfl rfl) ?_
    refine im_grd (fun g4 => ?_)
    refine im_st (s_iastore dX7_addHedgehog_30 rfl (sl_sh5 hb) (sl_lt5 hb) (inR_in g4)) ?_
    refine im_st (r_aload_n (i := 0) dX7_addHedgehog_31 rfl rfl rfl) ?_
    refine im_st (r_dup dX7_addHedgehog_32 rfl rfl) ?_
    refine im_app (Gm := fun (σ5 : Sg) => Go M_X7_addHedgehog Q 0 0 33 [some (.ref b), some (.int a1), some (.int a2)] [.ref b, .ref b] (mk σ5 τ)) (fun σ5 => ?_)
    refine im_st (s_getI (tag := 7) (j := 7) dX7_addHedgehog_33 rfl fl_X7_34 (sl_sh hb) (sl_lt hb) rfl) ?_
    refine im_st (r_iconst (v := 1) dX7_addHedgehog_36 rfl kI_1) ?_
    refine im_st (r_iadd dX7_addHedgehog_37 rfl) ?_
    refine im_st (s_putI (tag := 7) (j := 7) dX7_addHedgehog_38 rfl fl_X7_34 (sl_sh hb) (sl_lt hb) rfl fw_7_7) ?_
    refine im_st (r_aload_n (i := 0) dX7_addHedgehog_41 rfl rfl rfl) ?_
    refine im_app (Gm := fun (σ6 : Sg) => Go M_X7_addHedgehog Q 0 0 42 [some (.ref b), some (.int a1), some (.int a2)] [.ref b] (mk σ6 τ)) (fun σ6 => ?_)
    refine im_st (s_getI (tag := 7) (j := 7) dX7_addHedgehog_42 rfl fl_X7_34 (sl_sh hb) (sl_lt hb) rfl) ?_
    exact im_ret (fun q => g_iret rfl rfl rfl dX7_addHedgehog_45 q)
  · refine im_st (r_bipush (v := -3) dX7_addHedgehog_8 rfl kB_m3) ?_
    exact im_ret (fun q => g_iret rfl rfl rfl dX7_addHedgehog_10 q)
theorem e_X7_addHedgehog (b : Nat) (a1 : Int32) (a2 : Int32) (σ : Sg) (τ : Sl) (hb : isSl b) (y : (Int32 × Sg)) (hy : f_X7_addHedgehog b a1 a2 σ = some y) : EvD M_X7_addHedgehog [.ref b, .int a1, .int a2] (mk σ τ) (some (.int y.1)) (mk y.2 τ) := EvM.of (by decide +kernel) (Nat.le_of_ble_eq_true rfl) (i_X7_addHedgehog b a1 a2 σ τ hb _ y hy ⟨rfl, rfl⟩)
def M_X7_addSuit : Ms := (yX7_addSuit, cX7_addSuit, 3, some .int, 0, 0, 0, 0)
theorem mv_X7_addSuit : MV M_X7_addSuit 2 := ⟨⟨q493, q2, by decide, by decide, by decide +kernel⟩, q491, q492⟩
def f_X7_addSuit (b : Nat) (a1 : Int32) (a2 : Int32) (σ : Sg) : Option (Int32 × Sg) :=
  if (σ b 10) < (6 : Int32) then
    if inR (σ b 10) 6 then
    app (up2 σ (b + 6) (σ b 10).toNatClampNeg a1) fun (σ3 : Sg) =>
    if inR (σ3 b 10) 6 then
    app (up2 σ3 (b + 7) (σ3 b 10).toNatClampNeg a2) fun (σ5 : Sg) =>
    app (up2 σ5 b 10 ((σ5 b 10) + (1 : Int32))) fun (σ6 : Sg) =>
    some ((σ6 b 10), σ6)
    else none
    else none
  else
    some ((-3 : Int32), σ)
set_option maxHeartbeats 4000000 in
set_option maxRecDepth 20000 in
theorem i_X7_addSuit (b : Nat) (a1 : Int32) (a2 : Int32) (σ : Sg) (τ : Sl) (hb : isSl b) (Q : Option Value → Hp → Prop) : Imp (f_X7_addSuit b a1 a2 σ) (fun (y : (Int32 × Sg)) => Q (some (.int y.1)) (mk y.2 τ)) (Go M_X7_addSuit Q 0 0 0 [some (.ref b), some (.int a1), some (.int a2)] [] (mk σ τ)) := by
  unfold f_X7_addSuit
  refine im_st (r_aload_n (i := 0) dX7_addSuit_0 rfl rfl rfl) ?_
  refine im_st (s_getI (tag := 7) (j := 10) dX7_addSuit_1 rfl fl_X7_43 (sl_sh hb) (sl_lt hb) rfl) ?_
  refine im_st (r_bipush (v := 6) dX7_addSuit_4 rfl kB_6) ?_
  refine im_br (r_icmp_lt (tgt := 12) dX7_addSuit_6 rfl (by decide)) (fun c1 => ?_) (fun c1 => ?_)
  · refine im_st (r_aload_n (i := 0) dX7_addSuit_12 rfl rfl rfl) ?_
    refine im_st (s_getR (b := (b + 6)) (tag := 7) (j := 8) dX7_addSuit_13 rfl fl_X7_37 (sl_sh hb) (sl_lt hb) rfl (sl_rf8 hb)) ?_
    refine im_st (r_aload_n (i := 0) dX7_addSuit_16 rfl rfl rfl) ?_
    refine im_st (s_getI (tag := 7) (j := 10) dX7_addSuit_17 rfl fl_X7_43 (sl_sh hb) (sl_lt hb) rfl) ?_
    refine im_st (r_iload_n (i := 1) dX7_addSuit_20 rfl rfl rfl) ?_
    refine im_grd (fun g2 => ?_)
    refine im_st (s_iastore dX7_addSuit_21 rfl (sl_sh6 hb) (sl_lt6 hb) (inR_in g2)) ?_
    refine im_st (r_aload_n (i := 0) dX7_addSuit_22 rfl rfl rfl) ?_
    refine im_st (s_getR (b := (b + 7)) (tag := 7) (j := 9) dX7_addSuit_23 rfl fl_X7_40 (sl_sh hb) (sl_lt hb) rfl (sl_rf9 hb)) ?_
    refine im_st (r_aload_n (i := 0) dX7_addSuit_26 rfl rfl rfl) ?_
    refine im_app (Gm := fun (σ3 : Sg) => Go M_X7_addSuit Q 0 0 27 [some (.ref b), some (.int a1), some (.int a2)] [.ref b, .ref (b + 7)] (mk σ3 τ)) (fun σ3 => ?_)
    refine im_st (s_getI (tag := 7) (j := 10) dX7_addSuit_27 rfl fl_X7_43 (sl_sh hb) (sl_lt hb) rfl) ?_
    refine im_st (r_iload_n (i := 2) dX7_addSuit_30 rfl rfl rfl) ?_
    refine im_grd (fun g4 => ?_)
    refine im_st (s_iastore dX7_addSuit_31 rfl (sl_sh7 hb) (sl_lt7 hb) (inR_in g4)) ?_
    refine im_st (r_aload_n (i := 0) dX7_addSuit_32 rfl rfl rfl) ?_
    refine im_st (r_dup dX7_addSuit_33 rfl rfl) ?_
    refine im_app (Gm := fun (σ5 : Sg) => Go M_X7_addSuit Q 0 0 34 [some (.ref b), some (.int a1), some (.int a2)] [.ref b, .ref b] (mk σ5 τ)) (fun σ5 => ?_)
    refine im_st (s_getI (tag := 7) (j := 10) dX7_addSuit_34 rfl fl_X7_43 (sl_sh hb) (sl_lt hb) rfl) ?_
    refine im_st (r_iconst (v := 1) dX7_addSuit_37 rfl kI_1) ?_
    refine im_st (r_iadd dX7_addSuit_38 rfl) ?_
    refine im_st (s_putI (tag := 7) (j := 10) dX7_addSuit_39 rfl fl_X7_43 (sl_sh hb) (sl_lt hb) rfl fw_7_10) ?_
    refine im_st (r_aload_n (i := 0) dX7_addSuit_42 rfl rfl rfl) ?_
    refine im_app (Gm := fun (σ6 : Sg) => Go M_X7_addSuit Q 0 0 43 [some (.ref b), some (.int a1), some (.int a2)] [.ref b] (mk σ6 τ)) (fun σ6 => ?_)
    refine im_st (s_getI (tag := 7) (j := 10) dX7_addSuit_43 rfl fl_X7_43 (sl_sh hb) (sl_lt hb) rfl) ?_
    exact im_ret (fun q => g_iret rfl rfl rfl dX7_addSuit_46 q)
  · refine im_st (r_bipush (v := -3) dX7_addSuit_9 rfl kB_m3) ?_
    exact im_ret (fun q => g_iret rfl rfl rfl dX7_addSuit_11 q)
theorem e_X7_addSuit (b : Nat) (a1 : Int32) (a2 : Int32) (σ : Sg) (τ : Sl) (hb : isSl b) (y : (Int32 × Sg)) (hy : f_X7_addSuit b a1 a2 σ = some y) : EvD M_X7_addSuit [.ref b, .int a1, .int a2] (mk σ τ) (some (.int y.1)) (mk y.2 τ) := EvM.of (by decide +kernel) (Nat.le_of_ble_eq_true rfl) (i_X7_addSuit b a1 a2 σ τ hb _ y hy ⟨rfl, rfl⟩)
def M_X7_empty : Ms := (yX7_empty, cX7_empty, 1, none, 1, 23, 0, 0)
theorem mv_X7_empty : MV M_X7_empty 0 := ⟨⟨q359, q2, by decide, by decide, by decide +kernel⟩, q357, q358⟩
def f_X7_empty (b : Nat) (σ : Sg) : Sg :=
  app (up2 σ b 2 (0 : Int32)) fun (σ1 : Sg) =>
  app (up2 σ1 b 4 (0 : Int32)) fun (σ2 : Sg) =>
  app (up2 σ2 b 7 (0 : Int32)) fun (σ3 : Sg) =>
  app (up2 σ3 b 10 (0 : Int32)) fun (σ4 : Sg) =>
  (upR σ4 (b + 8) (fillR (σ4 (b + 8)) 100 (-1 : Int32)))
set_option maxHeartbeats 4000000 in
set_option maxRecDepth 20000 in
theorem i_X7_empty (b : Nat) (σ : Sg) (τ : Sl) (hb : isSl b) (Q : Option Value → Hp → Prop) : Imp (some (f_X7_empty b σ)) (fun (y : Sg) => Q (none) (mk y τ)) (Go M_X7_empty Q 0 0 0 [some (.ref b)] [] (mk σ τ)) := by
  unfold f_X7_empty
  refine im_st (r_aload_n (i := 0) dX7_empty_0 rfl rfl rfl) ?_
  refine im_st (r_iconst (v := 0) dX7_empty_1 rfl kI_0) ?_
  refine im_st (s_putI (tag := 7) (j := 2) dX7_empty_2 rfl fl_X7_18 (sl_sh hb) (sl_lt hb) rfl fw_7_2) ?_
  refine im_st (r_aload_n (i := 0) dX7_empty_5 rfl rfl rfl) ?_
  refine im_st (r_iconst (v := 0) dX7_empty_6 rfl kI_0) ?_
  refine im_appS (Gm := fun (σ1 : Sg) => Go M_X7_empty Q 0 0 7 [some (.ref b)] [.int (0 : Int32), .ref b] (mk σ1 τ)) (fun σ1 => ?_)
  refine im_st (s_putI (tag := 7) (j := 4) dX7_empty_7 rfl fl_X7_25 (sl_sh hb) (sl_lt hb) rfl fw_7_4) ?_
  refine im_st (r_aload_n (i := 0) dX7_empty_10 rfl rfl rfl) ?_
  refine im_st (r_iconst (v := 0) dX7_empty_11 rfl kI_0) ?_
  refine im_appS (Gm := fun (σ2 : Sg) => Go M_X7_empty Q 0 0 12 [some (.ref b)] [.int (0 : Int32), .ref b] (mk σ2 τ)) (fun σ2 => ?_)
  refine im_st (s_putI (tag := 7) (j := 7) dX7_empty_12 rfl fl_X7_34 (sl_sh hb) (sl_lt hb) rfl fw_7_7) ?_
  refine im_st (r_aload_n (i := 0) dX7_empty_15 rfl rfl rfl) ?_
  refine im_st (r_iconst (v := 0) dX7_empty_16 rfl kI_0) ?_
  refine im_appS (Gm := fun (σ3 : Sg) => Go M_X7_empty Q 0 0 17 [some (.ref b)] [.int (0 : Int32), .ref b] (mk σ3 τ)) (fun σ3 => ?_)
  refine im_st (s_putI (tag := 7) (j := 10) dX7_empty_17 rfl fl_X7_43 (sl_sh hb) (sl_lt hb) rfl fw_7_10) ?_
  refine im_st (r_aload_n (i := 0) dX7_empty_20 rfl rfl rfl) ?_
  refine im_st (s_getR (b := (b + 8)) (tag := 7) (j := 11) dX7_empty_21 rfl fl_X7_46 (sl_sh hb) (sl_lt hb) rfl (sl_rf11 hb)) ?_
  refine im_st (r_iconst (v := -1) dX7_empty_24 rfl kI_m1) ?_
  refine im_appS (Gm := fun (σ4 : Sg) => Go M_X7_empty Q 0 0 25 [some (.ref b)] [.int (-1 : Int32), .ref (b + 8)] (mk σ4 τ)) (fun σ4 => ?_)
  refine im_st (r_callS (r := none) (kc1 := 0) (ks1 := 0) (st := []) (st1 := []) (es_J7_fill_53178 (b + 8) 100 (-1 : Int32) σ4 τ (sl_sh8 hb) (sl_lt8 hb) (by decide)) ms_J7_fill_53178 lk_X7_49 ⟨by decide, by decide⟩ ⟨by decide, by decide⟩ (Nat.le_of_ble_eq_true rfl) dX7_empty_25 rfl rfl rfl rfl rfl) ?_
  exact im_ret (fun q => g_vret rfl rfl rfl dX7_empty_28 q)
theorem e_X7_empty (b : Nat) (σ : Sg) (τ : Sl) (hb : isSl b) : EvD M_X7_empty [.ref b] (mk σ τ) (none) (mk (f_X7_empty b σ) τ) := EvM.of (by decide +kernel) (Nat.le_of_ble_eq_true rfl) (i_X7_empty b σ τ hb _ _ rfl ⟨rfl, rfl⟩)
def M_X7_isSlug : Ms := (yX7_isSlug, cX7_isSlug, 2, some .boolean, 0, 0, 0, 0)
theorem mv_X7_isSlug : MV M_X7_isSlug 1 := ⟨⟨q589, q2, by decide, by decide, by decide +kernel⟩, q587, q588⟩
def f_X7_isSlug (b : Nat) (a1 : Int32) (σ : Sg) : Int32 :=
  if a1 < 0 then
    (0 : Int32)
  else
    if (σ b 4) ≤ a1 then
      (0 : Int32)
    else
      (1 : Int32)
theorem z_X7_isSlug (b : Nat) (a1 : Int32) (σ : Sg) : isB (f_X7_isSlug b a1 σ) = true := by
  unfold f_X7_isSlug
  (repeat' split) <;> first | rfl
set_option maxHeartbeats 4000000 in
set_option maxRecDepth 20000 in
theorem i_X7_isSlug (b : Nat) (a1 : Int32) (σ : Sg) (τ : Sl) (hb : isSl b) (Q : Option Value → Hp → Prop) : Imp (some (f_X7_isSlug b a1 σ)) (fun (y : Int32) => Q (some (.int y)) (mk σ τ)) (Go M_X7_isSlug Q 0 0 0 [some (.ref b), some (.int a1)] [] (mk σ τ)) := by
  unfold f_X7_isSlug
  refine im_st (r_iload_n (i := 1) dX7_isSlug_0 rfl rfl rfl) ?_
  refine im_brS (r_if_lt (tgt := 16) dX7_isSlug_1 rfl (by decide)) (fun c1 => ?_) (fun c1 => ?_)
  · refine im_st (r_iconst (v := 0) dX7_isSlug_16 rfl kI_0) ?_
    exact im_ret (fun q => g_zret (ty := .boolean) rfl rfl rfl rfl dX7_isSlug_17 q)
  · refine im_st (r_iload_n (i := 1) dX7_isSlug_4 rfl rfl rfl) ?_
    refine im_st (r_aload_n (i := 0) dX7_isSlug_5 rfl rfl rfl) ?_
    refine im_st (s_getI (tag := 7) (j := 4) dX7_isSlug_6 rfl fl_X7_25 (sl_sh hb) (sl_lt hb) rfl) ?_
    refine im_brS (r_icmp_ge (tgt := 16) dX7_isSlug_9 rfl (by decide)) (fun c2 => ?_) (fun c2 => ?_)
    · refine im_st (r_iconst (v := 0) dX7_isSlug_16 rfl kI_0) ?_
      exact im_ret (fun q => g_zret (ty := .boolean) rfl rfl rfl rfl dX7_isSlug_17 q)
    · refine im_st (r_iconst (v := 1) dX7_isSlug_12 rfl kI_1) ?_
      refine im_st (r_goto (pc1 := 17) dX7_isSlug_13 (by decide)) ?_
      exact im_ret (fun q => g_zret (ty := .boolean) rfl rfl rfl rfl dX7_isSlug_17 q)
theorem e_X7_isSlug (b : Nat) (a1 : Int32) (σ : Sg) (τ : Sl) (hb : isSl b) : EvD M_X7_isSlug [.ref b, .int a1] (mk σ τ) (some (.int (f_X7_isSlug b a1 σ))) (mk σ τ) := EvM.of (by decide +kernel) (Nat.le_of_ble_eq_true rfl) (i_X7_isSlug b a1 σ τ hb _ _ rfl ⟨rfl, rfl⟩)
def M_X7_copyFrom : Ms := (yX7_copyFrom, cX7_copyFrom, 2, none, 1, 18, 0, 0)
theorem mv_X7_copyFrom : MV M_X7_copyFrom 1 := ⟨⟨q513, q2, by decide, by decide, by decide +kernel⟩, q511, q512⟩
def f_X7_copyFrom (b : Nat) (b1 : Nat) (σ : Sg) : Sg :=
  app (upR σ (b + 1) (va_cpy (σ (b1 + 1)) (σ (b + 1)) 0 0 7)) fun (σ1 : Sg) =>
  app (upR σ1 (b + 2) (va_cpy (σ1 (b1 + 2)) (σ1 (b + 2)) 0 0 7)) fun (σ2 : Sg) =>
  app (up2 σ2 b 2 (σ2 b1 2)) fun (σ3 : Sg) =>
  app (upR σ3 (b + 3) (va_cpy (σ3 (b1 + 3)) (σ3 (b + 3)) 0 0 4)) fun (σ4 : Sg) =>
  app (up2 σ4 b 4 (σ4 b1 4)) fun (σ5 : Sg) =>
  app (upR σ5 (b + 4) (va_cpy (σ5 (b1 + 4)) (σ5 (b + 4)) 0 0 4)) fun (σ6 : Sg) =>
  app (upR σ6 (b + 5) (va_cpy (σ6 (b1 + 5)) (σ6 (b + 5)) 0 0 4)) fun (σ7 : Sg) =>
  app (up2 σ7 b 7 (σ7 b1 7)) fun (σ8 : Sg) =>
  app (upR σ8 (b + 6) (va_cpy (σ8 (b1 + 6)) (σ8 (b + 6)) 0 0 6)) fun (σ9 : Sg) =>
  app (upR σ9 (b + 7) (va_cpy (σ9 (b1 + 7)) (σ9 (b + 7)) 0 0 6)) fun (σ10 : Sg) =>
  app (up2 σ10 b 10 (σ10 b1 10)) fun (σ11 : Sg) =>
  (upR σ11 (b + 8) (va_cpy (σ11 (b1 + 8)) (σ11 (b + 8)) 0 0 100))
set_option maxHeartbeats 4000000 in
set_option maxRecDepth 20000 in
theorem i_X7_copyFrom (b : Nat) (b1 : Nat) (σ : Sg) (τ : Sl) (hb : isSl b) (hb1 : isSl b1) (Q : Option Value → Hp → Prop) : Imp (some (f_X7_copyFrom b b1 σ)) (fun (y : Sg) => Q (none) (mk y τ)) (Go M_X7_copyFrom Q 0 0 0 [some (.ref b), some (.ref b1)] [] (mk σ τ)) := by
  unfold f_X7_copyFrom
  refine im_st (r_aload_n (i := 1) dX7_copyFrom_0 rfl rfl rfl) ?_
  refine im_st (s_getR (b := (b1 + 1)) (tag := 7) (j := 0) dX7_copyFrom_1 rfl fl_X7_9 (sl_sh hb1) (sl_lt hb1) rfl (sl_rf0 hb1)) ?_
  refine im_st (r_iconst (v := 0) dX7_copyFrom_4 rfl kI_0) ?_
  refine im_st (r_aload_n (i := 0) dX7_copyFrom_5 rfl rfl rfl) ?_
  refine im_st (s_getR (b := (b + 1)) (tag := 7) (j := 0) dX7_copyFrom_6 rfl fl_X7_9 (sl_sh hb) (sl_lt hb) rfl (sl_rf0 hb)) ?_
  refine im_st (r_iconst (v := 0) dX7_copyFrom_9 rfl kI_0) ?_
  refine im_st (r_bipush (v := 7) dX7_copyFrom_10 rfl kB_7) ?_
  refine im_st (s_copyI (sN := 0) (dN := 0) (kN := 7) lk_X7_59 (sl_sh1 hb1) (sl_lt1 hb1) (sl_sh1 hb) (sl_lt1 hb) (by decide) (by decide) (by decide) rfl rfl rfl (by decide) (by decide) (by decide) (Nat.le_of_ble_eq_true rfl) dX7_copyFrom_12 rfl) ?_
  refine im_st (r_aload_n (i := 1) dX7_copyFrom_15 rfl rfl rfl) ?_
  refine im_st (s_getR (b := (b1 + 2)) (tag := 7) (j := 1) dX7_copyFrom_16 rfl fl_X7_15 (sl_sh hb1) (sl_lt hb1) rfl (sl_rf1 hb1)) ?_
  refine im_st (r_iconst (v := 0) dX7_copyFrom_19 rfl kI_0) ?_
  refine im_st (r_aload_n (i := 0) dX7_copyFrom_20 rfl rfl rfl) ?_
  refine im_st (s_getR (b := (b + 2)) (tag := 7) (j := 1) dX7_copyFrom_21 rfl fl_X7_15 (sl_sh hb) (sl_lt hb) rfl (sl_rf1 hb)) ?_
  refine im_st (r_iconst (v := 0) dX7_copyFrom_24 rfl kI_0) ?_
  refine im_st (r_bipush (v := 7) dX7_copyFrom_25 rfl kB_7) ?_
  refine im_appS (Gm := fun (σ1 : Sg) => Go M_X7_copyFrom Q 0 0 27 [some (.ref b), some (.ref b1)] [.int (7 : Int32), .int (0 : Int32), .ref (b + 2), .int (0 : Int32), .ref (b1 + 2)] (mk σ1 τ)) (fun σ1 => ?_)
  refine im_st (s_copyI (sN := 0) (dN := 0) (kN := 7) lk_X7_59 (sl_sh2 hb1) (sl_lt2 hb1) (sl_sh2 hb) (sl_lt2 hb) (by decide) (by decide) (by decide) rfl rfl rfl (by decide) (by decide) (by decide) (Nat.le_of_ble_eq_true rfl) dX7_copyFrom_27 rfl) ?_
  refine im_st (r_aload_n (i := 0) dX7_copyFrom_30 rfl rfl rfl) ?_
  refine im_st (r_aload_n (i := 1) dX7_copyFrom_31 rfl rfl rfl) ?_
  refine im_appS (Gm := fun (σ2 : Sg) => Go M_X7_copyFrom Q 0 0 32 [some (.ref b), some (.ref b1)] [.ref b1, .ref b] (mk σ2 τ)) (fun σ2 => ?_)
  refine im_st (s_getI (tag := 7) (j := 2) dX7_copyFrom_32 rfl fl_X7_18 (sl_sh hb1) (sl_lt hb1) rfl) ?_
  refine im_st (s_putI (tag := 7) (j := 2) dX7_copyFrom_35 rfl fl_X7_18 (sl_sh hb) (sl_lt hb) rfl fw_7_2) ?_
  refine im_st (r_aload_n (i := 1) dX7_copyFrom_38 rfl rfl rfl) ?_
  refine im_st (s_getR (b := (b1 + 3)) (tag := 7) (j := 3) dX7_copyFrom_39 rfl fl_X7_22 (sl_sh hb1) (sl_lt hb1) rfl (sl_rf3 hb1)) ?_
  refine im_st (r_iconst (v := 0) dX7_copyFrom_42 rfl kI_0) ?_
  refine im_st (r_aload_n (i := 0) dX7_copyFrom_43 rfl rfl rfl) ?_
  refine im_st (s_getR (b := (b + 3)) (tag := 7) (j := 3) dX7_copyFrom_44 rfl fl_X7_22 (sl_sh hb) (sl_lt hb) rfl (sl_rf3 hb)) ?_
  refine im_st (r_iconst (v := 0) dX7_copyFrom_47 rfl kI_0) ?_
  refine im_st (r_iconst (v := 4) dX7_copyFrom_48 rfl kI_4) ?_
  refine im_appS (Gm := fun (σ3 : Sg) => Go M_X7_copyFrom Q 0 0 49 [some (.ref b), some (.ref b1)] [.int (4 : Int32), .int (0 : Int32), .ref (b + 3), .int (0 : Int32), .ref (b1 + 3)] (mk σ3 τ)) (fun σ3 => ?_)
  refine im_st (s_copyI (sN := 0) (dN := 0) (kN := 4) lk_X7_59 (sl_sh3 hb1) (sl_lt3 hb1) (sl_sh3 hb) (sl_lt3 hb) (by decide) (by decide) (by decide) rfl rfl rfl (by decide) (by decide) (by decide) (Nat.le_of_ble_eq_true rfl) dX7_copyFrom_49 rfl) ?_
  refine im_st (r_aload_n (i := 0) dX7_copyFrom_52 rfl rfl rfl) ?_
  refine im_st (r_aload_n (i := 1) dX7_copyFrom_53 rfl rfl rfl) ?_
  refine im_appS (Gm := fun (σ4 : Sg) => Go M_X7_copyFrom Q 0 0 54 [some (.ref b), some (.ref b1)] [.ref b1, .ref b] (mk σ4 τ)) (fun σ4 => ?_)
  refine im_st (s_getI (tag := 7) (j := 4) dX7_copyFrom_54 rfl fl_X7_25 (sl_sh hb1) (sl_lt hb1) rfl) ?_
  refine im_st (s_putI (tag := 7) (j := 4) dX7_copyFrom_57 rfl fl_X7_25 (sl_sh hb) (sl_lt hb) rfl fw_7_4) ?_
  refine im_st (r_aload_n (i := 1) dX7_copyFrom_60 rfl rfl rfl) ?_
  refine im_st (s_getR (b := (b1 + 4)) (tag := 7) (j := 5) dX7_copyFrom_61 rfl fl_X7_28 (sl_sh hb1) (sl_lt hb1) rfl (sl_rf5 hb1)) ?_
  refine im_st (r_iconst (v := 0) dX7_copyFrom_64 rfl kI_0) ?_
  refine im_st (r_aload_n (i := 0) dX7_copyFrom_65 rfl rfl rfl) ?_
  refine im_st (s_getR (b := (b + 4)) (tag := 7) (j := 5) dX7_copyFrom_66 rfl fl_X7_28 (sl_sh hb) (sl_lt hb) rfl (sl_rf5 hb)) ?_
  refine im_st (r_iconst (v := 0) dX7_copyFrom_69 rfl kI_0) ?_
  refine im_st (r_iconst (v := 4) dX7_copyFrom_70 rfl kI_4) ?_
  refine im_appS (Gm := fun (σ5 : Sg) => Go M_X7_copyFrom Q 0 0 71 [some (.ref b), some (.ref b1)] [.int (4 : Int32), .int (0 : Int32), .ref (b + 4), .int (0 : Int32), .ref (b1 + 4)] (mk σ5 τ)) (fun σ5 => ?_)
  refine im_st (s_copyI (sN := 0) (dN := 0) (kN := 4) lk_X7_59 (sl_sh4 hb1) (sl_lt4 hb1) (sl_sh4 hb) (sl_lt4 hb) (by decide) (by decide) (by decide) rfl rfl rfl (by decide) (by decide) (by decide) (Nat.le_of_ble_eq_true rfl) dX7_copyFrom_71 rfl) ?_
  refine im_st (r_aload_n (i := 1) dX7_copyFrom_74 rfl rfl rfl) ?_
  refine im_st (s_getR (b := (b1 + 5)) (tag := 7) (j := 6) dX7_copyFrom_75 rfl fl_X7_31 (sl_sh hb1) (sl_lt hb1) rfl (sl_rf6 hb1)) ?_
  refine im_st (r_iconst (v := 0) dX7_copyFrom_78 rfl kI_0) ?_
  refine im_st (r_aload_n (i := 0) dX7_copyFrom_79 rfl rfl rfl) ?_
  refine im_st (s_getR (b := (b + 5)) (tag := 7) (j := 6) dX7_copyFrom_80 rfl fl_X7_31 (sl_sh hb) (sl_lt hb) rfl (sl_rf6 hb)) ?_
  refine im_st (r_iconst (v := 0) dX7_copyFrom_83 rfl kI_0) ?_
  refine im_st (r_iconst (v := 4) dX7_copyFrom_84 rfl kI_4) ?_
  refine im_appS (Gm := fun (σ6 : Sg) => Go M_X7_copyFrom Q 0 0 85 [some (.ref b), some (.ref b1)] [.int (4 : Int32), .int (0 : Int32), .ref (b + 5), .int (0 : Int32), .ref (b1 + 5)] (mk σ6 τ)) (fun σ6 => ?_)
  refine im_st (s_copyI (sN := 0) (dN := 0) (kN := 4) lk_X7_59 (sl_sh5 hb1) (sl_lt5 hb1) (sl_sh5 hb) (sl_lt5 hb) (by decide) (by decide) (by decide) rfl rfl rfl (by decide) (by decide) (by decide) (Nat.le_of_ble_eq_true rfl) dX7_copyFrom_85 rfl) ?_
  refine im_st (r_aload_n (i := 0) dX7_copyFrom_88 rfl rfl rfl) ?_
  refine im_st (r_aload_n (i := 1) dX7_copyFrom_89 rfl rfl rfl) ?_
  refine im_appS (Gm := fun (σ7 : Sg) => Go M_X7_copyFrom Q 0 0 90 [some (.ref b), some (.ref b1)] [.ref b1, .ref b] (mk σ7 τ)) (fun σ7 => ?_)
  refine im_st (s_getI (tag := 7) (j := 7) dX7_copyFrom_90 rfl fl_X7_34 (sl_sh hb1) (sl_lt hb1) rfl) ?_
  refine im_st (s_putI (tag := 7) (j := 7) dX7_copyFrom_93 rfl fl_X7_34 (sl_sh hb) (sl_lt hb) rfl fw_7_7) ?_
  refine im_st (r_aload_n (i := 1) dX7_copyFrom_96 rfl rfl rfl) ?_
  refine im_st (s_getR (b := (b1 + 6)) (tag := 7) (j := 8) dX7_copyFrom_97 rfl fl_X7_37 (sl_sh hb1) (sl_lt hb1) rfl (sl_rf8 hb1)) ?_
  refine im_st (r_iconst (v := 0) dX7_copyFrom_100 rfl kI_0) ?_
  refine im_st (r_aload_n (i := 0) dX7_copyFrom_101 rfl rfl rfl) ?_
  refine im_st (s_getR (b := (b + 6)) (tag := 7) (j := 8) dX7_copyFrom_102 rfl fl_X7_37 (sl_sh hb) (sl_lt hb) rfl (sl_rf8 hb)) ?_
  refine im_st (r_iconst (v := 0) dX7_copyFrom_105 rfl kI_0) ?_
  refine im_st (r_bipush (v := 6) dX7_copyFrom_106 rfl kB_6) ?_
  refine im_appS (Gm := fun (σ8 : Sg) => Go M_X7_copyFrom Q 0 0 108 [some (.ref b), some (.ref b1)] [.int (6 : Int32), .int (0 : Int32), .ref (b + 6), .int (0 : Int32), .ref (b1 + 6)] (mk σ8 τ)) (fun σ8 => ?_)
  refine im_st (s_copyI (sN := 0) (dN := 0) (kN := 6) lk_X7_59 (sl_sh6 hb1) (sl_lt6 hb1) (sl_sh6 hb) (sl_lt6 hb) (by decide) (by decide) (by decide) rfl rfl rfl (by decide) (by decide) (by decide) (Nat.le_of_ble_eq_true rfl) dX7_copyFrom_108 rfl) ?_
  refine im_st (r_aload_n (i := 1) dX7_copyFrom_111 rfl rfl rfl) ?_
  refine im_st (s_getR (b := (b1 + 7)) (tag := 7) (j := 9) dX7_copyFrom_112 rfl fl_X7_40 (sl_sh hb1) (sl_lt hb1) rfl (sl_rf9 hb1)) ?_
  refine im_st (r_iconst (v := 0) dX7_copyFrom_115 rfl kI_0) ?_
  refine im_st (r_aload_n (i := 0) dX7_copyFrom_116 rfl rfl rfl) ?_
  refine im_st (s_getR (b := (b + 7)) (tag := 7) (j := 9) dX7_copyFrom_117 rfl fl_X7_40 (sl_sh hb) (sl_lt hb) rfl (sl_rf9 hb)) ?_
  refine im_st (r_iconst (v := 0) dX7_copyFrom_120 rfl kI_0) ?_
  refine im_st (r_bipush (v := 6) dX7_copyFrom_121 rfl kB_6) ?_
  refine im_appS (Gm := fun (σ9 : Sg) => Go M_X7_copyFrom Q 0 0 123 [some (.ref b), some (.ref b1)] [.int (6 : Int32), .int (0 : Int32), .ref (b + 7), .int (0 : Int32), .ref (b1 + 7)] (mk σ9 τ)) (fun σ9 => ?_)
  refine im_st (s_copyI (sN := 0) (dN := 0) (kN := 6) lk_X7_59 (sl_sh7 hb1) (sl_lt7 hb1) (sl_sh7 hb) (sl_lt7 hb) (by decide) (by decide) (by decide) rfl rfl rfl (by decide) (by decide) (by decide) (Nat.le_of_ble_eq_true rfl) dX7_copyFrom_123 rfl) ?_
  refine im_st (r_aload_n (i := 0) dX7_copyFrom_126 rfl rfl rfl) ?_
  refine im_st (r_aload_n (i := 1) dX7_copyFrom_127 rfl rfl rfl) ?_
  refine im_appS (Gm := fun (σ10 : Sg) => Go M_X7_copyFrom Q 0 0 128 [some (.ref b), some (.ref b1)] [.ref b1, .ref b] (mk σ10 τ)) (fun σ10 => ?_)
  refine im_st (s_getI (tag := 7) (j := 10) dX7_copyFrom_128 rfl fl_X7_43 (sl_sh hb1) (sl_lt hb1) rfl) ?_
  refine im_st (s_putI (tag := 7) (j := 10) dX7_copyFrom_131 rfl fl_X7_43 (sl_sh hb) (sl_lt hb) rfl fw_7_10) ?_
  refine im_st (r_aload_n (i := 1) dX7_copyFrom_134 rfl rfl rfl) ?_
  refine im_st (s_getR (b := (b1 + 8)) (tag := 7) (j := 11) dX7_copyFrom_135 rfl fl_X7_46 (sl_sh hb1) (sl_lt hb1) rfl (sl_rf11 hb1)) ?_
  refine im_st (r_iconst (v := 0) dX7_copyFrom_138 rfl kI_0) ?_
  refine im_st (r_aload_n (i := 0) dX7_copyFrom_139 rfl rfl rfl) ?_
  refine im_st (s_getR (b := (b + 8)) (tag := 7) (j := 11) dX7_copyFrom_140 rfl fl_X7_46 (sl_sh hb) (sl_lt hb) rfl (sl_rf11 hb)) ?_
  refine im_st (r_iconst (v := 0) dX7_copyFrom_143 rfl kI_0) ?_
  refine im_st (r_bipush (v := 100) dX7_copyFrom_144 rfl kB_100) ?_
  refine im_appS (Gm := fun (σ11 : Sg) => Go M_X7_copyFrom Q 0 0 146 [some (.ref b), some (.ref b1)] [.int (100 : Int32), .int (0 : Int32), .ref (b + 8), .int (0 : Int32), .ref (b1 + 8)] (mk σ11 τ)) (fun σ11 => ?_)
  refine im_st (s_copyI (sN := 0) (dN := 0) (kN := 100) lk_X7_59 (sl_sh8 hb1) (sl_lt8 hb1) (sl_sh8 hb) (sl_lt8 hb) (by decide) (by decide) (by decide) rfl rfl rfl (by decide) (by decide) (by decide) (Nat.le_of_ble_eq_true rfl) dX7_copyFrom_146 rfl) ?_
  exact im_ret (fun q => g_vret rfl rfl rfl dX7_copyFrom_149 q)
theorem e_X7_copyFrom (b : Nat) (b1 : Nat) (σ : Sg) (τ : Sl) (hb : isSl b) (hb1 : isSl b1) : EvD M_X7_copyFrom [.ref b, .ref b1] (mk σ τ) (none) (mk (f_X7_copyFrom b b1 σ) τ) := EvM.of (by decide +kernel) (Nat.le_of_ble_eq_true rfl) (i_X7_copyFrom b b1 σ τ hb hb1 _ _ rfl ⟨rfl, rfl⟩)
def M_X7_pegsOfRag : Ms := (yX7_pegsOfRag, cX7_pegsOfRag, 4, some .int, 0, 0, 0, 0)
theorem mv_X7_pegsOfRag : MV M_X7_pegsOfRag 1 := ⟨⟨q976, q2, by decide, by decide, by decide +kernel⟩, q974, q975⟩
def b_X7_pegsOfRag_4 (b : Nat) (a1 : Int32) (σ : Sg) : (Int32 × Int32) → Option ((Int32 × Int32) ⊕ (Int32 × Int32)) := fun (s1 : (Int32 × Int32)) =>
  if (σ b 2) ≤ s1.2 then
    some (.inr (s1.1, s1.2))
  else
    if inR s1.2 7 then
    app (if (σ (b + 2) s1.2.toNatClampNeg) = a1 then
      (s1.1 + 1)
    else
      s1.1) fun (j4 : Int32) =>
    some (.inl (j4, (s1.2 + 1)))
    else none
def f_X7_pegsOfRag (b : Nat) (a1 : Int32) (σ : Sg) : Option Int32 :=
  (wh (b_X7_pegsOfRag_4 b a1 σ) 4096 ((0 : Int32), (0 : Int32))).bind fun (e6 : (Int32 × Int32)) =>
  some e6.1
set_option maxHeartbeats 4000000 in
set_option maxRecDepth 20000 in
theorem i_X7_pegsOfRag (b : Nat) (a1 : Int32) (σ : Sg) (τ : Sl) (hb : isSl b) (Q : Option Value → Hp → Prop) : Imp (f_X7_pegsOfRag b a1 σ) (fun (y : Int32) => Q (some (.int y)) (mk σ τ)) (Go M_X7_pegsOfRag Q 0 0 0 [some (.ref b), some (.int a1), none, none] [] (mk σ τ)) := by
  unfold f_X7_pegsOfRag
  refine im_st (r_iconst (v := 0) dX7_pegsOfRag_0 rfl kI_0) ?_
  refine im_st (r_istore_n (i := 2) (L1 := [some (.ref b), some (.int a1), some (.int (0 : Int32)), none]) dX7_pegsOfRag_1 rfl rfl (by decide) rfl) ?_
  refine im_st (r_iconst (v := 0) dX7_pegsOfRag_2 rfl kI_0) ?_
  refine im_st (r_istore_n (i := 3) (L1 := [some (.ref b), some (.int a1), some (.int (0 : Int32)), some (.int (0 : Int32))]) dX7_pegsOfRag_3 rfl rfl (by decide) rfl) ?_
  refine im_seq (Gm := fun (e6 : (Int32 × Int32)) => Go M_X7_pegsOfRag Q 0 0 31 [none, none, some (.int e6.1), none] [] (mk σ τ)) ?_ (fun e6 => ?_)
  · refine im_wh (G := fun (s1 : (Int32 × Int32)) => Go M_X7_pegsOfRag Q 0 0 4 [some (.ref b), some (.int a1), some (.int s1.1), some (.int s1.2)] [] (mk σ τ)) (fun s1 => ?_) _ _
    unfold b_X7_pegsOfRag_4
    refine im_st (r_iload_n (i := 3) dX7_pegsOfRag_4 rfl rfl rfl) ?_
    refine im_st (r_aload_n (i := 0) dX7_pegsOfRag_5 rfl rfl rfl) ?_
    refine im_st (s_getI (tag := 7) (j := 2) dX7_pegsOfRag_6 rfl fl_X7_18 (sl_sh hb) (sl_lt hb) rfl) ?_
    refine im_br (r_icmp_ge (tgt := 31) dX7_pegsOfRag_9 rfl (by decide)) (fun c2 => ?_) (fun c2 => ?_)
    · refine im_st (r_fgt (L1 := [none, none, some (.int s1.1), none]) [0, 1, 3] rfl) ?_
      exact im_ret id
    · refine im_st (r_aload_n (i := 0) dX7_pegsOfRag_12 rfl rfl rfl) ?_
      refine im_st (s_getR (b := (b + 2)) (tag := 7) (j := 1) dX7_pegsOfRag_13 rfl fl_X7_15 (sl_sh hb) (sl_lt hb) rfl (sl_rf1 hb)) ?_
      refine im_st (r_iload_n (i := 3) dX7_pegsOfRag_16 rfl rfl rfl) ?_
      refine im_grd (fun g3 => ?_)
      refine im_st (s_iaload dX7_pegsOfRag_17 rfl (sl_sh2 hb) (sl_lt2 hb) (inR_in g3)) ?_
      refine im_st (r_iload_n (i := 1) dX7_pegsOfRag_18 rfl rfl rfl) ?_
      refine im_seqT (Gm := fun (j4 : Int32) => Go M_X7_pegsOfRag Q 0 0 25 [some (.ref b), some (.int a1), some (.int j4), some (.int s1.2)] [] (mk σ τ)) ?_ (fun j4 => ?_)
      · refine im_brS (r_icmp_ne (tgt := 25) dX7_pegsOfRag_19 rfl (by decide)) (fun c5 => ?_) (fun c5 => ?_)
        · refine im_st (r_iinc (i := 2) (x := s1.1) (v := (s1.1 + 1)) (L1 := [some (.ref b), some (.int a1), some (.int (s1.1 + 1)), some (.int s1.2)]) dX7_pegsOfRag_22 rfl rfl rfl (by decide) rfl) ?_
          exact im_ret id
        · exact im_ret id
      refine im_st (r_iinc (i := 3) (x := s1.2) (v := (s1.2 + 1)) (L1 := [some (.ref b), some (.int a1), some (.int j4), some (.int (s1.2 + 1))]) dX7_pegsOfRag_25 rfl rfl rfl (by decide) rfl) ?_
      refine im_st (r_goto (pc1 := 4) dX7_pegsOfRag_28 (by decide)) ?_
      exact im_ret id
  refine im_st (r_iload_n (i := 2) dX7_pegsOfRag_31 rfl rfl rfl) ?_
  exact im_ret (fun q => g_iret rfl rfl rfl dX7_pegsOfRag_32 q)
theorem e_X7_pegsOfRag (b : Nat) (a1 : Int32) (σ : Sg) (τ : Sl) (hb : isSl b) (y : Int32) (hy : f_X7_pegsOfRag b a1 σ = some y) : EvD M_X7_pegsOfRag [.ref b, .int a1] (mk σ τ) (some (.int y)) (mk σ τ) := EvM.of (by decide +kernel) (Nat.le_of_ble_eq_true rfl) (i_X7_pegsOfRag b a1 σ τ hb _ y hy ⟨rfl, rfl⟩)
def M_X7_speedOfAll : Ms := (yX7_speedOfAll, cX7_speedOfAll, 3, some .int, 0, 0, 0, 0)
theorem mv_X7_speedOfAll : MV M_X7_speedOfAll 0 := ⟨⟨q980, q2, by decide, by decide, by decide +kernel⟩, q978, q979⟩
def b_X7_speedOfAll_4 (b : Nat) (σ : Sg) : (Int32 × Int32) → Option ((Int32 × Int32) ⊕ (Int32 × Int32)) := fun (s1 : (Int32 × Int32)) =>
  if (σ b 7) ≤ s1.2 then
    some (.inr (s1.1, s1.2))
  else
    if inR s1.2 4 then
    app (s1.1 + (σ (b + 5) s1.2.toNatClampNeg)) fun (v4 : Int32) =>
    some (.inl (v4, (s1.2 + 1)))
    else none
def f_X7_speedOfAll (b : Nat) (σ : Sg) : Option Int32 :=
  (wh (b_X7_speedOfAll_4 b σ) 4096 ((0 : Int32), (0 : Int32))).bind fun (e5 : (Int32 × Int32)) =>
  some e5.1
set_option maxHeartbeats 4000000 in
set_option maxRecDepth 20000 in
theorem i_X7_speedOfAll (b : Nat) (σ : Sg) (τ : Sl) (hb : isSl b) (Q : Option Value → Hp → Prop) : Imp (f_X7_speedOfAll b σ) (fun (y : Int32) => Q (some (.int y)) (mk σ τ)) (Go M_X7_speedOfAll Q 0 0 0 [some (.ref b), none, none] [] (mk σ τ)) := by
  unfold f_X7_speedOfAll
  refine im_st (r_iconst (v := 0) dX7_speedOfAll_0 rfl kI_0) ?_
  refine im_st (r_istore_n (i := 1) (L1 := [some (.ref b), some (.int (0 : Int32)), none]) dX7_speedOfAll_1 rfl rfl (by decide) rfl) ?_
  refine im_st (r_iconst (v := 0) dX7_speedOfAll_2 rfl kI_0) ?_
  refine im_st (r_istore_n (i := 2) (L1 := [some (.ref b), some (.int (0 : Int32)), some (.int (0 : Int32))]) dX7_speedOfAll_3 rfl rfl (by decide) rfl) ?_
  refine im_seq (Gm := fun (e5 : (Int32 × Int32)) => Go M_X7_speedOfAll Q 0 0 27 [none, some (.int e5.1), none] [] (mk σ τ)) ?_ (fun e5 => ?_)
  · refine im_wh (G := fun (s1 : (Int32 × Int32)) => Go M_X7_speedOfAll Q 0 0 4 [some (.ref b), some (.int s1.1), some (.int s1.2)] [] (mk σ τ)) (fun s1 => ?_) _ _
    unfold b_X7_speedOfAll_4
    refine im_st (r_iload_n (i := 2) dX7_speedOfAll_4 rfl rfl rfl) ?_
    refine im_st (r_aload_n (i := 0) dX7_speedOfAll_5 rfl rfl rfl) ?_
    refine im_st (s_getI (tag := 7) (j := 7) dX7_speedOfAll_6 rfl fl_X7_34 (sl_sh hb) (sl_lt hb) rfl) ?_
    refine im_br (r_icmp_ge (tgt := 27) dX7_speedOfAll_9 rfl (by decide)) (fun c2 => ?_) (fun c2 => ?_)
    · refine im_st (r_fgt (L1 := [none, some (.int s1.1), none]) [0, 2] rfl) ?_
      exact im_ret id
    · refine im_st (r_iload_n (i := 1) dX7_speedOfAll_12 rfl rfl rfl) ?_
      refine im_st (r_aload_n (i := 0) dX7_speedOfAll_13 rfl rfl rfl) ?_
      refine im_st (s_getR (b := (b + 5)) (tag := 7) (j := 6) dX7_speedOfAll_14 rfl fl_X7_31 (sl_sh hb) (sl_lt hb) rfl (sl_rf6 hb)) ?_
      refine im_st (r_iload_n (i := 2) dX7_speedOfAll_17 rfl rfl rfl) ?_
      refine im_grd (fun g3 => ?_)
      refine im_st (s_iaload dX7_speedOfAll_18 rfl (sl_sh5 hb) (sl_lt5 hb) (inR_in g3)) ?_
      refine im_st (r_iadd dX7_speedOfAll_19 rfl) ?_
      refine im_app (Gm := fun (v4 : Int32) => Go M_X7_speedOfAll Q 0 0 20 [some (.ref b), some (.int s1.1), some (.int s1.2)] [.int v4] (mk σ τ)) (fun v4 => ?_)
      refine im_st (r_istore_n (i := 1) (L1 := [some (.ref b), some (.int v4), some (.int s1.2)]) dX7_speedOfAll_20 rfl rfl (by decide) rfl) ?_
      refine im_st (r_iinc (i := 2) (x := s1.2) (v := (s1.2 + 1)) (L1 := [some (.ref b), some (.int v4), some (.int (s1.2 + 1))]) dX7_speedOfAll_21 rfl rfl rfl (by decide) rfl) ?_
      refine im_st (r_goto (pc1 := 4) dX7_speedOfAll_24 (by decide)) ?_
      exact im_ret id
  refine im_st (r_iload_n (i := 1) dX7_speedOfAll_27 rfl rfl rfl) ?_
  exact im_ret (fun q => g_iret rfl rfl rfl dX7_speedOfAll_28 q)
theorem e_X7_speedOfAll (b : Nat) (σ : Sg) (τ : Sl) (hb : isSl b) (y : Int32) (hy : f_X7_speedOfAll b σ = some y) : EvD M_X7_speedOfAll [.ref b] (mk σ τ) (some (.int y)) (mk σ τ) := EvM.of (by decide +kernel) (Nat.le_of_ble_eq_true rfl) (i_X7_speedOfAll b σ τ hb _ y hy ⟨rfl, rfl⟩)
def M_J6_numberOfTrailingZeros_0f7a4 : Ms := (yJ6_numberOfTrailingZeros_0f7a4, cJ6_numberOfTrailingZeros_0f7a4, 2, some .int, 0, 0, 0, 0)
theorem ms_J6_numberOfTrailingZeros_0f7a4 : MS M_J6_numberOfTrailingZeros_0f7a4 1 := ⟨⟨q703, q19, by decide, by decide, by decide +kernel⟩, q702⟩
def f_J6_numberOfTrailingZeros_0f7a4 (a0 : Int32) : Int32 :=
  app ((a0 ^^^ (-1 : Int32)) &&& (a0 - (1 : Int32))) fun (v1 : Int32) =>
  if 0 < v1 then
    app (if v1 ≤ (65536 : Int32) then
      (v1, (1 : Int32))
    else
      ((ushr v1 (16 : Int32)), ((1 : Int32) + 16))) fun (j3 : (Int32 × Int32)) =>
    app (if j3.1 ≤ (256 : Int32) then
      (j3.1, j3.2)
    else
      ((ushr j3.1 (8 : Int32)), (j3.2 + 8))) fun (j5 : (Int32 × Int32)) =>
    app (if j5.1 ≤ (16 : Int32) then
      (j5.1, j5.2)
    else
      ((ushr j5.1 (4 : Int32)), (j5.2 + 4))) fun (j7 : (Int32 × Int32)) =>
    app (if j7.1 ≤ (4 : Int32) then
      (j7.1, j7.2)
    else
      ((ushr j7.1 (2 : Int32)), (j7.2 + 2))) fun (j9 : (Int32 × Int32)) =>
    (j9.2 + (ushr j9.1 (1 : Int32)))
  else
    (v1 &&& (32 : Int32))
set_option maxHeartbeats 4000000 in
set_option maxRecDepth 20000 in
theorem i_J6_numberOfTrailingZeros_0f7a4 (a0 : Int32) (σ : Sg) (τ : Sl) (Q : Option Value → Hp → Prop) : Imp (some (f_J6_numberOfTrailingZeros_0f7a4 a0)) (fun (y : Int32) => Q (some (.int y)) (mk σ τ)) (Go M_J6_numberOfTrailingZeros_0f7a4 Q 0 0 0 [some (.int a0), none] [] (mk σ τ)) := by
  unfold f_J6_numberOfTrailingZeros_0f7a4
  refine im_st (r_iload_n (i := 0) dJ6_numberOfTrailingZeros_0f7a4_0 rfl rfl rfl) ?_
  refine im_st (r_iconst (v := -1) dJ6_numberOfTrailingZeros_0f7a4_1 rfl kI_m1) ?_
  refine im_st (r_ixor dJ6_numberOfTrailingZeros_0f7a4_2 rfl) ?_
  refine im_st (r_iload_n (i := 0) dJ6_numberOfTrailingZeros_0f7a4_3 rfl rfl rfl) ?_
  refine im_st (r_iconst (v := 1) dJ6_numberOfTrailingZeros_0f7a4_4 rfl kI_1) ?_
  refine im_st (r_isub dJ6_numberOfTrailingZeros_0f7a4_5 rfl) ?_
  refine im_st (r_iand dJ6_numberOfTrailingZeros_0f7a4_6 rfl) ?_
  refine im_appS (Gm := fun (v1 : Int32) => Go M_J6_numberOfTrailingZeros_0f7a4 Q 0 0 7 [some (.int a0), none] [.int v1] (mk σ τ)) (fun v1 => ?_)
  refine im_st (r_istore_n (i := 0) (L1 := [some (.int v1), none]) dJ6_numberOfTrailingZeros_0f7a4_7 rfl rfl (by decide) rfl) ?_
  refine im_st (r_iload_n (i := 0) dJ6_numberOfTrailingZeros_0f7a4_8 rfl rfl rfl) ?_
  refine im_brS (r_if_gt (tgt := 17) dJ6_numberOfTrailingZeros_0f7a4_9 rfl (by decide)) (fun c2 => ?_) (fun c2 => ?_)
  · refine im_st (r_iconst (v := 1) dJ6_numberOfTrailingZeros_0f7a4_17 rfl kI_1) ?_
    refine im_st (r_istore_n (i := 1) (L1 := [some (.int v1), some (.int (1 : Int32))]) dJ6_numberOfTrailingZeros_0f7a4_18 rfl rfl (by decide) rfl) ?_
    refine im_st (r_iload_n (i := 0) dJ6_numberOfTrailingZeros_0f7a4_19 rfl rfl rfl) ?_
    refine im_st (r_ldcw (v := 65536) dJ6_numberOfTrailingZeros_0f7a4_20 rfl q704) ?_
    refine im_seqS (Gm := fun (j3 : (Int32 × Int32)) => Go M_J6_numberOfTrailingZeros_0f7a4 Q 0 0 34 [some (.int j3.1), some (.int j3.2)] [] (mk σ τ)) ?_ (fun j3 => ?_)
    · refine im_brS (r_icmp_le (tgt := 34) dJ6_numberOfTrailingZeros_0f7a4_23 rfl (by decide)) (fun c4 => ?_) (fun c4 => ?_)
      · exact im_ret id
      · refine im_st (r_iinc (i := 1) (x := (1 : Int32)) (v := ((1 : Int32) + 16)) (L1 := [some (.int v1), some (.int ((1 : Int32) + 16))]) dJ6_numberOfTrailingZeros_0f7a4_26 rfl rfl rfl (by decide) rfl) ?_
        refine im_st (r_iload_n (i := 0) dJ6_numberOfTrailingZeros_0f7a4_29 rfl rfl rfl) ?_
        refine im_st (r_bipush (v := 16) dJ6_numberOfTrailingZeros_0f7a4_30 rfl kB_16) ?_
        refine im_st (r_iushr (v := (ushr v1 (16 : Int32))) dJ6_numberOfTrailingZeros_0f7a4_32 rfl rfl) ?_
        refine im_st (r_istore_n (i := 0) (L1 := [some (.int (ushr v1 (16 : Int32))), some (.int ((1 : Int32) + 16))]) dJ6_numberOfTrailingZeros_0f7a4_33 rfl rfl (by decide) rfl) ?_
        exact im_ret id
    refine im_st (r_iload_n (i := 0) dJ6_numberOfTrailingZeros_0f7a4_34 rfl rfl rfl) ?_
    refine im_st (r_sipush (v := 256) dJ6_numberOfTrailingZeros_0f7a4_35 rfl kS_256) ?_
    refine im_seqS (Gm := fun (j5 : (Int32 × Int32)) => Go M_J6_numberOfTrailingZeros_0f7a4 Q 0 0 49 [some (.int j5.1), some (.int j5.2)] [] (mk σ τ)) ?_ (fun j5 => ?_)
    · refine im_brS (r_icmp_le (tgt := 49) dJ6_numberOfTrailingZeros_0f7a4_38 rfl (by decide)) (fun c6 => ?_) (fun c6 => ?_)
      · exact im_ret id
      · refine im_st (r_iinc (i := 1) (x := j3.2) (v := (j3.2 + 8)) (L1 := [some (.int j3.1), some (.int (j3.2 + 8))]) dJ6_numberOfTrailingZeros_0f7a4_41 rfl rfl rfl (by decide) rfl) ?_
        refine im_st (r_iload_n (i := 0) dJ6_numberOfTrailingZeros_0f7a4_44 rfl rfl rfl) ?_
        refine im_st (r_bipush (v := 8) dJ6_numberOfTrailingZeros_0f7a4_45 rfl kB_8) ?_
        refine im_st (r_iushr (v := (ushr j3.1 (8 : Int32))) dJ6_numberOfTrailingZeros_0f7a4_47 rfl rfl) ?_
        refine im_st (r_istore_n (i := 0) (L1 := [some (.int (ushr j3.1 (8 : Int32))), some (.int (j3.2 + 8))]) dJ6_numberOfTrailingZeros_0f7a4_48 rfl rfl (by decide) rfl) ?_
        exact im_ret id
    refine im_st (r_iload_n (i := 0) dJ6_numberOfTrailingZeros_0f7a4_49 rfl rfl rfl) ?_
    refine im_st (r_bipush (v := 16) dJ6_numberOfTrailingZeros_0f7a4_50 rfl kB_16) ?_
    refine im_seqS (Gm := fun (j7 : (Int32 × Int32)) => Go M_J6_numberOfTrailingZeros_0f7a4 Q 0 0 62 [some (.int j7.1), some (.int j7.2)] [] (mk σ τ)) ?_ (fun j7 => ?_)
    · refine im_brS (r_icmp_le (tgt := 62) dJ6_numberOfTrailingZeros_0f7a4_52 rfl (by decide)) (fun c8 => ?_) (fun c8 => ?_)
      · exact im_ret id
      · refine im_st (r_iinc (i := 1) (x := j5.2) (v := (j5.2 + 4)) (L1 := [some (.int j5.1), some (.int (j5.2 + 4))]) dJ6_numberOfTrailingZeros_0f7a4_55 rfl rfl rfl (by decide) rfl) ?_
        refine im_st (r_iload_n (i := 0) dJ6_numberOfTrailingZeros_0f7a4_58 rfl rfl rfl) ?_
        refine im_st (r_iconst (v := 4) dJ6_numberOfTrailingZeros_0f7a4_59 rfl kI_4) ?_
        refine im_st (r_iushr (v := (ushr j5.1 (4 : Int32))) dJ6_numberOfTrailingZeros_0f7a4_60 rfl rfl) ?_
        refine im_st (r_istore_n (i := 0) (L1 := [some (.int (ushr j5.1 (4 : Int32))), some (.int (j5.2 + 4))]) dJ6_numberOfTrailingZeros_0f7a4_61 rfl rfl (by decide) rfl) ?_
        exact im_ret id
    refine im_st (r_iload_n (i := 0) dJ6_numberOfTrailingZeros_0f7a4_62 rfl rfl rfl) ?_
    refine im_st (r_iconst (v := 4) dJ6_numberOfTrailingZeros_0f7a4_63 rfl kI_4) ?_
    refine im_seqS (Gm := fun (j9 : (Int32 × Int32)) => Go M_J6_numberOfTrailingZeros_0f7a4 Q 0 0 74 [some (.int j9.1), some (.int j9.2)] [] (mk σ τ)) ?_ (fun j9 => ?_)
    · refine im_brS (r_icmp_le (tgt := 74) dJ6_numberOfTrailingZeros_0f7a4_64 rfl (by decide)) (fun c10 => ?_) (fun c10 => ?_)
      · exact im_ret id
      · refine im_st (r_iinc (i := 1) (x := j7.2) (v := (j7.2 + 2)) (L1 := [some (.int j7.1), some (.int (j7.2 + 2))]) dJ6_numberOfTrailingZeros_0f7a4_67 rfl rfl rfl (by decide) rfl) ?_
        refine im_st (r_iload_n (i := 0) dJ6_numberOfTrailingZeros_0f7a4_70 rfl rfl rfl) ?_
        refine im_st (r_iconst (v := 2) dJ6_numberOfTrailingZeros_0f7a4_71 rfl kI_2) ?_
        refine im_st (r_iushr (v := (ushr j7.1 (2 : Int32))) dJ6_numberOfTrailingZeros_0f7a4_72 rfl rfl) ?_
        refine im_st (r_istore_n (i := 0) (L1 := [some (.int (ushr j7.1 (2 : Int32))), some (.int (j7.2 + 2))]) dJ6_numberOfTrailingZeros_0f7a4_73 rfl rfl (by decide) rfl) ?_
        exact im_ret id
    refine im_st (r_iload_n (i := 1) dJ6_numberOfTrailingZeros_0f7a4_74 rfl rfl rfl) ?_
    refine im_st (r_iload_n (i := 0) dJ6_numberOfTrailingZeros_0f7a4_75 rfl rfl rfl) ?_
    refine im_st (r_iconst (v := 1) dJ6_numberOfTrailingZeros_0f7a4_76 rfl kI_1) ?_
    refine im_st (r_iushr (v := (ushr j9.1 (1 : Int32))) dJ6_numberOfTrailingZeros_0f7a4_77 rfl rfl) ?_
    refine im_st (r_iadd dJ6_numberOfTrailingZeros_0f7a4_78 rfl) ?_
    exact im_ret (fun q => g_iret rfl rfl rfl dJ6_numberOfTrailingZeros_0f7a4_79 q)
  · refine im_st (r_iload_n (i := 0) dJ6_numberOfTrailingZeros_0f7a4_12 rfl rfl rfl) ?_
    refine im_st (r_bipush (v := 32) dJ6_numberOfTrailingZeros_0f7a4_13 rfl kB_32) ?_
    refine im_st (r_iand dJ6_numberOfTrailingZeros_0f7a4_15 rfl) ?_
    exact im_ret (fun q => g_iret rfl rfl rfl dJ6_numberOfTrailingZeros_0f7a4_16 q)
theorem e_J6_numberOfTrailingZeros_0f7a4 (a0 : Int32) (σ : Sg) (τ : Sl) : EvD M_J6_numberOfTrailingZeros_0f7a4 [.int a0] (mk σ τ) (some (.int (f_J6_numberOfTrailingZeros_0f7a4 a0))) (mk σ τ) := EvM.of (by decide +kernel) (Nat.le_of_ble_eq_true rfl) (i_J6_numberOfTrailingZeros_0f7a4 a0 σ τ _ _ rfl ⟨rfl, rfl⟩)
