theorem im_sum {X A B : Type} {k1 : A → Option X} {k2 : B → Option X} {K : X → Prop} {G1 : A → Prop} {G2 : B → Prop} (h1 : ∀ a, Imp (k1 a) K (G1 a)) (h2 : ∀ b, Imp (k2 b) K (G2 b)) (r : A ⊕ B) : Imp (Sum.elim k1 k2 r) K (Sum.elim G1 G2 r) := by
  cases r with
  | inl a => exact h1 a
  | inr b => exact h2 b
def iMax (x y : Int32) : Int32 := if x < y then y else x
def iMin (x y : Int32) : Int32 := if y < x then y else x
def ushr (x y : Int32) : Int32 := (x.toUInt32 >>> (y.toUInt32 &&& Int32.toUInt32 31)).toInt32
def fillR {α : Type} (f : Nat → α) (n : Nat) (v : α) : Nat → α := fun j => if j < n then v else f j
theorem s_iMax {M : Ms} {pc pc1 ix : Nat} {L : List (Option Value)} {st : List Value} {h : Hp} {x y : Int32} (hlk : Cond.methodLink (mY M).cls ix Lib.Math.max.name ∈ TB) (hf : 1 ≤ mF M) (hw : (st.map fun v => v.category).sum + 13 ≤ mO M) (hd : decode (mC M) pc = .ok (.invokestatic ix, 3)) (hp : pc + 3 = pc1) : St M 0 0 pc1 L (.int (iMax x y) :: st) h 0 0 pc L (.int y :: .int x :: st) h := r_max hlk q369 q13 q370 hf hw ⟨Nat.zero_le _, Nat.zero_le _⟩ hd hp
theorem s_iMin {M : Ms} {pc pc1 ix : Nat} {L : List (Option Value)} {st : List Value} {h : Hp} {x y : Int32} (hlk : Cond.methodLink (mY M).cls ix Lib.Math.min.name ∈ TB) (hf : 1 ≤ mF M) (hw : (st.map fun v => v.category).sum + 13 ≤ mO M) (hd : decode (mC M) pc = .ok (.invokestatic ix, 3)) (hp : pc + 3 = pc1) : St M 0 0 pc1 L (.int (iMin x y) :: st) h 0 0 pc L (.int y :: .int x :: st) h := r_min hlk q566 q13 q567 hf hw ⟨Nat.zero_le _, Nat.zero_le _⟩ hd hp
theorem s_copyI {M : Ms} {pc pc1 ix a b na nb sN dN kN : Nat} {L : List (Option Value)} {st : List Value} {σ : Sg} {τ : Sl} {sp dp n : Int32} (hlk : Cond.methodLink (mY M).cls ix arraycopyName ∈ TB) (hta : sh0 a = (11, na)) (hna : a < 88) (htb : sh0 b = (11, nb)) (hnb : b < 88) (h1 : ¬ sp < 0) (h2 : ¬ dp < 0) (h3 : ¬ n < 0) (e1 : sp.toNatClampNeg = sN) (e2 : dp.toNatClampNeg = dN) (e3 : n.toNatClampNeg = kN) (h4 : sN + kN ≤ na) (h5 : dN + kN ≤ nb)
    (hf : 1 ≤ mF M) (hw : (st.map fun v => v.category).sum + 18 ≤ mO M) (hd : decode (mC M) pc = .ok (.invokestatic ix, 3)) (hp : pc + 3 = pc1) : St M 0 0 pc1 L st (mk (upR σ b (va_cpy (σ a) (σ b) sN dN kN)) τ) 0 0 pc L (.int n :: .int dp :: .ref b :: .int sp :: .ref a :: st) (mk σ τ) := by
  subst e1; subst e2; subst e3
  exact r_copyI (h := mk σ τ) hlk q516 q515 q18 hta hna htb hnb h1 h2 h3 h4 h5 hf hw hd hp
theorem s_copyJ {M : Ms} {pc pc1 ix a b na nb sN dN kN : Nat} {L : List (Option Value)} {st : List Value} {σ : Sg} {τ : Sl} {sp dp n : Int32} (hlk : Cond.methodLink (mY M).cls ix arraycopyName ∈ TB) (hta : sh0 a = (13, na)) (hna : a < 88) (htb : sh0 b = (13, nb)) (hnb : b < 88) (h1 : ¬ sp < 0) (h2 : ¬ dp < 0) (h3 : ¬ n < 0) (e1 : sp.toNatClampNeg = sN) (e2 : dp.toNatClampNeg = dN) (e3 : n.toNatClampNeg = kN) (h4 : sN + kN ≤ na) (h5 : dN + kN ≤ nb)
    (hf : 1 ≤ mF M) (hw : (st.map fun v => v.category).sum + 18 ≤ mO M) (hd : decode (mC M) pc = .ok (.invokestatic ix, 3)) (hp : pc + 3 = pc1) : St M 0 0 pc1 L st (mk σ (upR τ b (va_cpy (τ a) (τ b) sN dN kN))) 0 0 pc L (.int n :: .int dp :: .ref b :: .int sp :: .ref a :: st) (mk σ τ) := by
  subst e1; subst e2; subst e3
  exact r_copyJ (h := mk σ τ) hlk q516 q515 q18 hta hna htb hnb h1 h2 h3 h4 h5 hf hw hd hp
theorem lwc_28 : isLw 28 := Or.inl rfl
theorem lwc_29 : isLw 29 := Or.inr rfl
-- texts
theorem str_sv {D : va_G} {ca : Nat → ClassId} {sv : Nat → Value} {B0 : Nat} {s : State} {H : Heap} (oX : CX D ca sv B0 s H) {w : Nat} (hw : w < 7) : ∃ adK adV : Nat → Nat, sv w = .ref (adK w) ∧ sv (100 + w) = .ref (adV w) ∧ vk_R RX4 (sIx w) (sTx w) (adK w) s ∧ vk_S 7 lenS bytS adK adV (fun q => B0 ≤ q) s H := by
  obtain ⟨-, -, -, -, -, ⟨adK, adV, h6, h7, h8⟩, -⟩ := oX
  exact ⟨adK, adV, (h6 w hw).1, (h6 w hw).2, h7 w hw, h8⟩
section Texts
variable {M : Ms} {kc ks pc pc1 : Nat} {L : List (Option Value)} {st : List Value} {h : Hp}
theorem r_ldcS {i ix : Nat} (hd : decode (mC M) pc = .ok (.ldc ix, 2)) (hp : pc + 2 = pc1) (hi : i < 7) (hx : sIx i = ix) (hc : (mY M).cls = RX4) : St M kc ks pc1 L (.retAddr i :: st) h kc ks pc L st h := by
  subst hp; subst hx
  intro p l e R s m args below meth c D ca sv B0 Z ok k H locs ls hP hS hl hz
  obtain ⟨adK, adV, e1, -, e3, -⟩ := str_sv ok.2.2.2.2.2.1 hi
  refine va_ldcS ok.1 ok.2.1 ok.2.2.2.1 (by rw [hc]; exact e3) hd ?_
  have := k H locs ls hP hS hl hz
  rw [show (Value.retAddr i :: st).map (ph B0 sv) = Value.ref (adK i) :: st.map (ph B0 sv) by simp [ph, e1]] at this
  exact this
theorem r_aloadS_n {q : Fin 4} {i w : Nat} (hd : decode (mC M) pc = .ok (.aload_n q, 1)) (hp : pc + 1 = pc1) (hi : (q : Nat) = i) (hw : w < 7) (hL : L[i]? = some (some (.retAddr w))) : St M kc ks pc1 L (.retAddr w :: st) h kc ks pc L st h := by
  subst hp
  intro p l e R s m args below meth c D ca sv B0 Z ok k H locs ls hP hS hl hz
  obtain ⟨adK, adV, e1, -, e3, -⟩ := str_sv ok.2.2.2.2.2.1 hw
  have hh := hl.2.2 i _ hL
  rw [show ph B0 sv (.retAddr w) = .ref (adK w) from e1] at hh
  refine lv_aload_n ok.1 ok.2.1 hd hi hh ?_
  have := k H locs ls hP hS hl hz
  rw [show (Value.retAddr w :: st).map (ph B0 sv) = Value.ref (adK w) :: st.map (ph B0 sv) by simp [ph, e1]] at this
  exact this
theorem r_aloadB_n {q : Fin 4} {i w : Nat} (hd : decode (mC M) pc = .ok (.aload_n q, 1)) (hp : pc + 1 = pc1) (hi : (q : Nat) = i) (hw : w < 7) (hL : L[i]? = some (some (.retAddr (100 + w)))) : St M kc ks pc1 L (.retAddr (100 + w) :: st) h kc ks pc L st h := by
  subst hp
  intro p l e R s m args below meth c D ca sv B0 Z ok k H locs ls hP hS hl hz
  obtain ⟨adK, adV, -, e1, e3, -⟩ := str_sv ok.2.2.2.2.2.1 hw
  have hh := hl.2.2 i _ hL
  rw [show ph B0 sv (.retAddr (100 + w)) = .ref (adV w) from e1] at hh
  refine lv_aload_n ok.1 ok.2.1 hd hi hh ?_
  have := k H locs ls hP hS hl hz
  rw [show (Value.retAddr (100 + w) :: st).map (ph B0 sv) = Value.ref (adV w) :: st.map (ph B0 sv) by simp [ph, e1]] at this
  exact this
theorem r_getsZ {ix : Nat} (hd : decode (mC M) pc = .ok (.getstatic ix, 3)) (hp : pc + 3 = pc1) (hk : Cond.fieldLink (mY M).cls ix "java/lang/String" "COMPACT_STRINGS" "Z" ∈ TB) : St M kc ks pc1 L (.int 1 :: st) h kc ks pc L st h := by
  subst hp
  intro p l e R s m args below meth c D ca sv B0 Z ok k H locs ls hP hS hl hz
  exact va_gets (ref := "java/lang/String") ok.1 ok.2.1 ok.2.2.2.2.2.1.2.2.2.2.2.2.1 hS ok.2.2.2.1 (ok.2.2.2.2.1 _ hk) (fun x hx => hx) hd (k H locs ls hP hS hl hz)
theorem r_getsF {ix : Nat} (hd : decode (mC M) pc = .ok (.getstatic ix, 3)) (hp : pc + 3 = pc1) (hk : Cond.fieldLink (mY M).cls ix "jdk/internal/util/Preconditions" "SIOOBE_FORMATTER" "Ljava/util/function/BiFunction;" ∈ TB) : St M kc ks pc1 L (.retAddr 999 :: st) h kc ks pc L st h := by
  subst hp
  intro p l e R s m args below meth c D ca sv B0 Z ok k H locs ls hP hS hl hz
  exact va_gets (ref := "jdk/internal/util/Preconditions") ok.1 ok.2.1 ok.2.2.2.2.2.1.2.2.2.2.2.2.2 hS ok.2.2.2.1 (ok.2.2.2.2.1 _ hk) (fun x hx => hx) hd (k H locs ls hP hS hl hz)
theorem r_getStrB {ix w : Nat} (hd : decode (mC M) pc = .ok (.getfield ix, 3)) (hp : pc + 3 = pc1) (hw : w < 7) (hk : Cond.fieldLink (mY M).cls ix "java/lang/String" "value" "[B" ∈ TB) : St M kc ks pc1 L (.retAddr (100 + w) :: st) h kc ks pc L (.retAddr w :: st) h := by
  subst hp
  intro p l e R s m args below meth c D ca sv B0 Z ok k H locs ls hP hS hl hz
  obtain ⟨adK, adV, e1, e2, -, e4⟩ := str_sv ok.2.2.2.2.2.1 hw
  rw [show (Value.retAddr w :: st).map (ph B0 sv) = Value.ref (adK w) :: st.map (ph B0 sv) by simp [ph, e1]]
  refine vk_getf (ref := "java/lang/String") ok.1 ok.2.1 (e4.1 w hw).2.2.1 hS ok.2.2.2.1 (ok.2.2.2.2.1 _ hk) (fun x hx => hx) hd ?_
  have := k H locs ls hP hS hl hz
  rw [show (Value.retAddr (100 + w) :: st).map (ph B0 sv) = Value.ref (adV w) :: st.map (ph B0 sv) by simp [ph, e2]] at this
  exact this
theorem r_getStrC {ix w : Nat} (hd : decode (mC M) pc = .ok (.getfield ix, 3)) (hp : pc + 3 = pc1) (hw : w < 7) (hk : Cond.fieldLink (mY M).cls ix "java/lang/String" "coder" "B" ∈ TB) : St M kc ks pc1 L (.int 0 :: st) h kc ks pc L (.retAddr w :: st) h := by
  subst hp
  intro p l e R s m args below meth c D ca sv B0 Z ok k H locs ls hP hS hl hz
  obtain ⟨adK, adV, e1, e2, -, e4⟩ := str_sv ok.2.2.2.2.2.1 hw
  rw [show (Value.retAddr w :: st).map (ph B0 sv) = Value.ref (adK w) :: st.map (ph B0 sv) by simp [ph, e1]]
  exact vk_getf (ref := "java/lang/String") ok.1 ok.2.1 (e4.1 w hw).2.1 hS ok.2.2.2.1 (ok.2.2.2.2.1 _ hk) (fun x hx => hx) hd (k H locs ls hP hS hl hz)
theorem r_alenS {w : Nat} (hd : decode (mC M) pc = .ok (.arraylength, 1)) (hp : pc + 1 = pc1) (hw : w < 7) : St M kc ks pc1 L (.int (nI (lenS.getD w 0)) :: st) h kc ks pc L (.retAddr (100 + w) :: st) h := by
  subst hp
  intro p l e R s m args below meth c D ca sv B0 Z ok k H locs ls hP hS hl hz
  obtain ⟨adK, adV, e1, e2, -, e4⟩ := str_sv ok.2.2.2.2.2.1 hw
  rw [show (Value.retAddr (100 + w) :: st).map (ph B0 sv) = Value.ref (adV w) :: st.map (ph B0 sv) by simp [ph, e2]]
  exact va_tlen ok.1 ok.2.1 (e4.1 w hw).2.2.2 hS rfl hd (k H locs ls hP hS hl hz)
theorem r_baldS {w : Nat} {i : Int32} (hd : decode (mC M) pc = .ok (.baload, 1)) (hp : pc + 1 = pc1) (hw : w < 7) (hi : vp_in i (lenS.getD w 0)) : St M kc ks pc1 L (.int ((bytS.getD w []).getD i.toNatClampNeg 0) :: st) h kc ks pc L (.int i :: .retAddr (100 + w) :: st) h := by
  subst hp
  intro p l e R s m args below meth c D ca sv B0 Z ok k H locs ls hP hS hl hz
  obtain ⟨adK, adV, e1, e2, -, e4⟩ := str_sv ok.2.2.2.2.2.1 hw
  rw [show (Value.int i :: Value.retAddr (100 + w) :: st).map (ph B0 sv) = Value.int i :: Value.ref (adV w) :: st.map (ph B0 sv) by simp [ph, e2]]
  exact va_tb ok.1 ok.2.1 (e4.1 w hw).2.2.2 hS hi rfl hd (k H locs ls hP hS hl hz)
theorem r_callStr {M' : Ms} {kc1 ks1 ix w : Nat} {as st0 st1 : List Value} {h' : Hp} {r : Option Value} (ev : EvD M' (.retAddr w :: as) h r h') (mv : MV M' as.length) (hlk : Cond.methodLink (mY M).cls ix (mY M') ∈ TB) (hrm : Rm M M')
    (hf : kc + mK M' ≤ mK M ∧ ks + mS M' ≤ mS M) (hw : (st.map fun v => v.category).sum ≤ 8) (hw7 : w < 7) (hd : decode (mC M) pc = .ok (.invokevirtual ix, 3)) (hp : pc + 3 = pc1) (hs0 : as.reverse ++ .retAddr w :: st = st0) (hs1 : r.toList ++ st = st1) (hkc : kc + mK M' = kc1) (hks : ks + mS M' = ks1) (hcl : (mY M').cls = "java/lang/String" := by rfl) : St M kc1 ks1 pc1 L st1 h' kc ks pc L st0 h := by
  intro p l e R s m args below meth c D ca sv B0 Z ok k H locs ls hP hS hl hz T hT X
  obtain ⟨ox, ob, oml, oown, ohts, oX, oB, oret, olk, onm, rfl⟩ := ok
  have hsz := hsize X hT hP hS oB hz
  obtain ⟨⟨m1, m2, m3, m4, m5⟩, m6, m7⟩ := mv
  have hs := oX.2.2.2.2.1
  obtain ⟨adK, adV, e1, -, -, e4⟩ := str_sv oX hw7
  subst hs0
  refine called (M := M) k hp hs1 hkc hks hl hS hT X hz hsz (va_runV (As := as.map (ph B0 sv)) (b := adK w) (C := (mY M').cls) (Ts := TB) ⟨ox, ob, oml, oown, ohts⟩ (ev l D ca sv B0) (cwV as.length ohts (tb_in (fun w hw => ?_)) rfl rfl rfl ⟨rfl, m3, m4, m5⟩ hrm) ⟨pC_blind, by rw [hcl]; exact vk_recv e4 hw7 hS, fun U hU hW => ⟨by simp [ph, e1], by rw [hU]; exact hsz, by rw [hU]; exact hP, oX.warm hW (by rw [hU]; exact hS.2.1)⟩⟩ rfl (by simp) hl.1 (by simp [ph, e1]) (lv_room (by rw [st_cat hs]; exact hw)) hd hf)
  simp only [wsV, List.mem_append, List.mem_cons, List.not_mem_nil, or_false] at hw
  rcases hw with (rfl | rfl | rfl | rfl) | rfl | hw
  · exact hlk
  · exact m6
  · exact m7
  · exact m2
  · exact m1
  · exact hw
end Texts
-- the JDK's own
def f_J0_length_8abf5 (w : Nat) : Int32 := nI (lenS.getD w 0)
def f_J0_charAt_5068e (w : Nat) (i : Int32) : Int32 := (bytS.getD w []).getD i.toNatClampNeg 0
def M_J0_coder_7d493 : Ms := (yJ0_coder_7d493, cJ0_coder_7d493, 1, some .byte, 0, 0, 0, 0)
theorem mv_J0_coder_7d493 : MV M_J0_coder_7d493 0 := ⟨⟨q399, q14, by decide, by decide, by decide +kernel⟩, q397, q398⟩
theorem e_J0_coder_7d493 (w : Nat) (h : Hp) (hw : w < 7) : EvD M_J0_coder_7d493 [.retAddr w] h (some (.int 0)) h := by
  refine EvM.of (by decide +kernel) (Nat.le_of_ble_eq_true rfl) ?_
  show Go _ _ 0 0 0 [some (.retAddr w)] [] h
  refine Go.st (r_getsZ dJ0_coder_7d493_0 rfl q400) ?_
  refine Go.br (r_if_eq (tgt := 13) dJ0_coder_7d493_3 rfl (by decide)) (fun hc => absurd hc (by decide)) (fun _ => ?_)
  refine Go.st (r_aloadS_n (i := 0) dJ0_coder_7d493_6 rfl rfl hw rfl) ?_
  refine Go.st (r_getStrC dJ0_coder_7d493_7 rfl hw q1401) ?_
  refine Go.st (r_goto (pc1 := 14) dJ0_coder_7d493_10 (by decide)) ?_
  exact g_zret (ty := .byte) rfl rfl rfl rfl dJ0_coder_7d493_14 ⟨rfl, rfl⟩
def M_J0_length_8abf5 : Ms := (yJ0_length_8abf5, cJ0_length_8abf5, 1, some .int, 1, 20, 0, 0)
theorem mv_J0_length_8abf5 : MV M_J0_length_8abf5 0 := ⟨⟨q395, q14, by decide, by decide, by decide +kernel⟩, q393, q394⟩
theorem str_shr : ∀ w, w < 7 → nI (lenS.getD w 0) >>> ((0 : Int32) &&& 31) = nI (lenS.getD w 0) := by decide +kernel
theorem e_J0_length_8abf5 (w : Nat) (h : Hp) (hw : w < 7) : EvD M_J0_length_8abf5 [.retAddr w] h (some (.int (f_J0_length_8abf5 w))) h := by
  refine EvM.of (by decide +kernel) (Nat.le_of_ble_eq_true rfl) ?_
  show Go _ _ 0 0 0 [some (.retAddr w)] [] h
  refine Go.st (r_aloadS_n (i := 0) dJ0_length_8abf5_0 rfl rfl hw rfl) ?_
  refine Go.st (r_getStrB dJ0_length_8abf5_1 rfl hw q1400) ?_
  refine Go.st (r_alenS dJ0_length_8abf5_4 rfl hw) ?_
  refine Go.st (r_aloadS_n (i := 0) dJ0_length_8abf5_5 rfl rfl hw rfl) ?_
  refine Go.st (r_callStr (w := w) (as := []) (r := some (.int 0)) (st := [.int (nI (lenS.getD w 0))]) (st1 := [.int 0, .int (nI (lenS.getD w 0))]) (kc1 := 0) (ks1 := 0) (e_J0_coder_7d493 w h hw) mv_J0_coder_7d493 q396 ⟨by decide, by decide⟩ ⟨by decide, by decide⟩ (Nat.le_of_ble_eq_true rfl) hw dJ0_length_8abf5_6 rfl rfl rfl rfl rfl) ?_
  refine Go.st (r_ishr dJ0_length_8abf5_9 rfl) ?_
  exact g_iret rfl rfl rfl dJ0_length_8abf5_10 ⟨by rw [str_shr w hw]; rfl, rfl⟩
def M_J0_isLatin1_aae02 : Ms := (yJ0_isLatin1_aae02, cJ0_isLatin1_aae02, 1, some .boolean, 0, 0, 0, 0)
theorem mv_J0_isLatin1_aae02 : MV M_J0_isLatin1_aae02 0 := ⟨⟨q409, q14, by decide, by decide, by decide +kernel⟩, q407, q408⟩
theorem e_J0_isLatin1_aae02 (w : Nat) (h : Hp) (hw : w < 7) : EvD M_J0_isLatin1_aae02 [.retAddr w] h (some (.int 1)) h := by
  refine EvM.of (by decide +kernel) (Nat.le_of_ble_eq_true rfl) ?_
  show Go _ _ 0 0 0 [some (.retAddr w)] [] h
  refine Go.st (r_getsZ dJ0_isLatin1_aae02_0 rfl q400) ?_
  refine Go.br (r_if_eq (tgt := 17) dJ0_isLatin1_aae02_3 rfl (by decide)) (fun hc => absurd hc (by decide)) (fun _ => ?_)
  refine Go.st (r_aloadS_n (i := 0) dJ0_isLatin1_aae02_6 rfl rfl hw rfl) ?_
  refine Go.st (r_getStrC dJ0_isLatin1_aae02_7 rfl hw q1401) ?_
  refine Go.br (r_if_ne (tgt := 17) dJ0_isLatin1_aae02_10 rfl (by decide)) (fun _ => ?_) (fun hc => absurd rfl hc)
  refine Go.st (r_iconst (v := 1) dJ0_isLatin1_aae02_13 rfl (by decide)) ?_
  refine Go.st (r_goto (pc1 := 18) dJ0_isLatin1_aae02_14 (by decide)) ?_
  exact g_zret (ty := .boolean) rfl rfl rfl rfl dJ0_isLatin1_aae02_18 ⟨rfl, rfl⟩
def M_J3_checkIndex_8e157 : Ms := (yJ3_checkIndex_8e157, cJ3_checkIndex_8e157, 3, some .int, 0, 0, 0, 0)
theorem ms_J3_checkIndex_8e157 : MS M_J3_checkIndex_8e157 3 := ⟨⟨q420, q16, by decide, by decide, by decide +kernel⟩, q419⟩
theorem e_J3_checkIndex_8e157 (i n : Int32) (h : Hp) (h0 : ¬ i < 0) (h1 : i < n) : EvD M_J3_checkIndex_8e157 [.int i, .int n, .retAddr 999] h (some (.int i)) h := by
  refine EvM.of (by decide +kernel) (Nat.le_of_ble_eq_true rfl) ?_
  show Go _ _ 0 0 0 [some (.int i), some (.int n), some (.retAddr 999)] [] h
  refine Go.st (r_iload_n (i := 0) dJ3_checkIndex_8e157_0 rfl rfl rfl) ?_
  refine Go.br (r_if_lt (tgt := 9) dJ3_checkIndex_8e157_1 rfl (by decide)) (fun hc => absurd hc h0) (fun _ => ?_)
  refine Go.st (r_iload_n (i := 0) dJ3_checkIndex_8e157_4 rfl rfl rfl) ?_
  refine Go.st (r_iload_n (i := 1) dJ3_checkIndex_8e157_5 rfl rfl rfl) ?_
  refine Go.br (r_icmp_lt (tgt := 16) dJ3_checkIndex_8e157_6 rfl (by decide)) (fun _ => ?_) (fun hc => absurd h1 hc)
  refine Go.st (r_iload_n (i := 0) dJ3_checkIndex_8e157_16 rfl rfl rfl) ?_
  exact g_iret rfl rfl rfl dJ3_checkIndex_8e157_17 ⟨rfl, rfl⟩
def M_J0_checkIndex_df160 : Ms := (yJ0_checkIndex_df160, cJ0_checkIndex_df160, 2, none, 1, 22, 0, 0)
theorem ms_J0_checkIndex_df160 : MS M_J0_checkIndex_df160 2 := ⟨⟨q415, q14, by decide, by decide, by decide +kernel⟩, q414⟩
theorem e_J0_checkIndex_df160 (i n : Int32) (h : Hp) (h0 : ¬ i < 0) (h1 : i < n) : EvD M_J0_checkIndex_df160 [.int i, .int n] h none h := by
  refine EvM.of (by decide +kernel) (Nat.le_of_ble_eq_true rfl) ?_
  show Go _ _ 0 0 0 [some (.int i), some (.int n)] [] h
  refine Go.st (r_iload_n (i := 0) dJ0_checkIndex_df160_0 rfl rfl rfl) ?_
  refine Go.st (r_iload_n (i := 1) dJ0_checkIndex_df160_1 rfl rfl rfl) ?_
  refine Go.st (r_getsF dJ0_checkIndex_df160_2 rfl q416) ?_
  refine Go.st (r_callS (as := [.int i, .int n, .retAddr 999]) (r := some (.int i)) (st := []) (st1 := [.int i]) (kc1 := 0) (ks1 := 0) (e_J3_checkIndex_8e157 i n h h0 h1) ms_J3_checkIndex_8e157 q418 ⟨by decide, by decide⟩ ⟨by decide, by decide⟩ (Nat.le_of_ble_eq_true rfl) dJ0_checkIndex_df160_5 rfl rfl rfl rfl rfl) ?_
  refine Go.st (r_pop dJ0_checkIndex_df160_8 rfl rfl) ?_
  exact g_vret rfl rfl rfl dJ0_checkIndex_df160_9 ⟨rfl, rfl⟩
def M_J1_charAt_3b067 : Ms := (yJ1_charAt_3b067, cJ1_charAt_3b067, 2, some .char, 2, 43, 0, 0)
theorem ms_J1_charAt_3b067 : MS M_J1_charAt_3b067 2 := ⟨⟨q412, q15, by decide, by decide, by decide +kernel⟩, q411⟩
theorem str_ch : ∀ w, w < 7 → ∀ j, j < lenS.getD w 0 → (((bytS.getD w []).getD j 0 &&& 255).toUInt32 % 65536).toInt32 = (bytS.getD w []).getD j 0 ∧ narrow .char (.int ((((bytS.getD w []).getD j 0 &&& 255).toUInt32 % 65536).toInt32)) = .int ((((bytS.getD w []).getD j 0 &&& 255).toUInt32 % 65536).toInt32) := by decide +kernel
theorem str_lt {i : Int32} {n : Nat} (hn : n < 2 ^ 31) (h : vp_in i n) : ¬ i < 0 ∧ i < nI n := by
  obtain ⟨j, hj, rfl⟩ := vp_in_of h hn
  exact ⟨nI_pos (by omega), nI_lt hj hn⟩
theorem lenS_lt : ∀ w, w < 7 → lenS.getD w 0 < 2 ^ 31 := by decide +kernel
theorem e_J1_charAt_3b067 (w : Nat) (i : Int32) (h : Hp) (hw : w < 7) (hi : vp_in i (lenS.getD w 0)) : EvD M_J1_charAt_3b067 [.retAddr (100 + w), .int i] h (some (.int (f_J0_charAt_5068e w i))) h := by
  have hj : i.toNatClampNeg < lenS.getD w 0 := Nat.not_le.mp (fun q => hi (Or.inr q))
  obtain ⟨z1, z2⟩ := str_ch w hw _ hj
  obtain ⟨y1, y2⟩ := str_lt (lenS_lt w hw) hi
  refine EvM.of (by decide +kernel) (by simp [Value.category, mL, M_J1_charAt_3b067]) ?_
  show Go _ _ 0 0 0 [some (.retAddr (100 + w)), some (.int i)] [] h
  refine Go.st (r_iload_n (i := 1) dJ1_charAt_3b067_0 rfl rfl rfl) ?_
  refine Go.st (r_aloadB_n (i := 0) dJ1_charAt_3b067_1 rfl rfl hw rfl) ?_
  refine Go.st (r_alenS dJ1_charAt_3b067_2 rfl hw) ?_
  refine Go.st (r_callS (as := [.int i, .int (nI (lenS.getD w 0))]) (r := none) (st := []) (st1 := []) (kc1 := 0) (ks1 := 0) (e_J0_checkIndex_df160 i _ h y1 y2) ms_J0_checkIndex_df160 q413 ⟨by decide, by decide⟩ ⟨by decide, by decide⟩ (Nat.le_of_ble_eq_true rfl) dJ1_charAt_3b067_3 rfl rfl rfl rfl rfl) ?_
  refine Go.st (r_aloadB_n (i := 0) dJ1_charAt_3b067_6 rfl rfl hw rfl) ?_
  refine Go.st (r_iload_n (i := 1) dJ1_charAt_3b067_7 rfl rfl rfl) ?_
  refine Go.st (r_baldS dJ1_charAt_3b067_8 rfl hw hi) ?_
  refine Go.st (r_sipush (v := 255) dJ1_charAt_3b067_9 rfl (by decide)) ?_
  refine Go.st (r_iand dJ1_charAt_3b067_12 rfl) ?_
  refine Go.st (r_i2c dJ1_charAt_3b067_13 rfl rfl) ?_
  exact g_zret (ty := .char) rfl z2 rfl rfl dJ1_charAt_3b067_14 ⟨by rw [z1]; rfl, rfl⟩
def M_J0_charAt_5068e : Ms := (yJ0_charAt_5068e, cJ0_charAt_5068e, 2, some .char, 3, 64, 0, 0)
theorem mv_J0_charAt_5068e : MV M_J0_charAt_5068e 1 := ⟨⟨q405, q14, by decide, by decide, by decide +kernel⟩, q403, q404⟩
theorem str_nar : ∀ w, w < 7 → ∀ j, j < lenS.getD w 0 → narrow .char (.int ((bytS.getD w []).getD j 0)) = .int ((bytS.getD w []).getD j 0) := by decide +kernel
theorem e_J0_charAt_5068e (w : Nat) (i : Int32) (h : Hp) (hw : w < 7) (hg : inR i (lenS.getD w 0) = true) : EvD M_J0_charAt_5068e [.retAddr w, .int i] h (some (.int (f_J0_charAt_5068e w i))) h := by
  have hi := inR_in hg
  have hj : i.toNatClampNeg < lenS.getD w 0 := Nat.not_le.mp (fun q => hi (Or.inr q))
  refine EvM.of (by decide +kernel) (by simp [Value.category, mL, M_J0_charAt_5068e]) ?_
  show Go _ _ 0 0 0 [some (.retAddr w), some (.int i)] [] h
  refine Go.st (r_aloadS_n (i := 0) dJ0_charAt_5068e_0 rfl rfl hw rfl) ?_
  refine Go.st (r_callStr (w := w) (as := []) (r := some (.int 1)) (st := []) (st1 := [.int 1]) (kc1 := 0) (ks1 := 0) (e_J0_isLatin1_aae02 w h hw) mv_J0_isLatin1_aae02 q406 ⟨by decide, by decide⟩ ⟨by decide, by decide⟩ (Nat.le_of_ble_eq_true rfl) hw dJ0_charAt_5068e_1 rfl rfl rfl rfl rfl) ?_
  refine Go.br (r_if_eq (tgt := 16) dJ0_charAt_5068e_4 rfl (by decide)) (fun hc => absurd hc (by decide)) (fun _ => ?_)
  refine Go.st (r_aloadS_n (i := 0) dJ0_charAt_5068e_7 rfl rfl hw rfl) ?_
  refine Go.st (r_getStrB dJ0_charAt_5068e_8 rfl hw q1400) ?_
  refine Go.st (r_iload_n (i := 1) dJ0_charAt_5068e_11 rfl rfl rfl) ?_
  refine Go.st (r_callS (as := [.retAddr (100 + w), .int i]) (r := some (.int (f_J0_charAt_5068e w i))) (st := []) (st1 := [.int (f_J0_charAt_5068e w i)]) (kc1 := 0) (ks1 := 0) (e_J1_charAt_3b067 w i h hw hi) ms_J1_charAt_3b067 q410 ⟨by decide, by decide⟩ ⟨by decide, by decide⟩ (Nat.le_of_ble_eq_true rfl) dJ0_charAt_5068e_12 rfl rfl rfl rfl rfl) ?_
  exact g_zret (ty := .char) rfl (str_nar w hw _ hj) rfl rfl dJ0_charAt_5068e_15 ⟨rfl, rfl⟩
-- Arrays.fill
theorem fillR_0 {α : Type} (f : Nat → α) (v : α) : fillR f 0 v = f := by funext j; simp [fillR]
theorem rowI_up {h : Hp} {a k : Nat} {v : Int32} (f : Nat → Int32) (hk : (rowI h a (fillR f k v)).2.2.2.1 a = fillR f k v := by simp [rowI, upR_same]) : setI (rowI h a (fillR f k v)) a k v = rowI h a (fillR f (k + 1) v) := by
  unfold setI rowI
  congr 4
  funext b j
  by_cases hb : b = a
  · subst hb
    simp only [up2, upR, if_pos, fillR]
    by_cases hj : j = k
    · simp [hj]
    · simp only [hj, if_false]
      by_cases h1 : j < k
      · rw [if_pos h1, if_pos (by omega)]
      · rw [if_neg h1, if_neg (by omega)]
  · simp [up2, upR, hb]
theorem rowJ_up {h : Hp} {a k : Nat} {v : Int64} (f : Nat → Int64) : setJ (rowJ h a (fillR f k v)) a k v = rowJ h a (fillR f (k + 1) v) := by
  unfold setJ rowJ
  congr 4
  funext b j
  by_cases hb : b = a
  · subst hb
    simp only [up2, upR, if_pos, fillR]
    by_cases hj : j = k
    · simp [hj]
    · simp only [hj, if_false]
      by_cases h1 : j < k
      · rw [if_pos h1, if_pos (by omega)]
      · rw [if_neg h1, if_neg (by omega)]
  · simp [up2, upR, hb]
theorem rowI_0 {h : Hp} {a : Nat} {v : Int32} : rowI h a (fillR (h.2.2.2.1 a) 0 v) = h := by
  unfold rowI
  rw [fillR_0]
  have : upR h.2.2.2.1 a (h.2.2.2.1 a) = h.2.2.2.1 := by
    funext b
    by_cases hb : b = a
    · rw [hb, upR_same]
    · rw [upR_ne _ _ hb]
  rw [this]
theorem rowJ_0 {h : Hp} {a : Nat} {v : Int64} : rowJ h a (fillR (h.2.2.2.2 a) 0 v) = h := by
  unfold rowJ
  rw [fillR_0]
  have : upR h.2.2.2.2 a (h.2.2.2.2 a) = h.2.2.2.2 := by
    funext b
    by_cases hb : b = a
    · rw [hb, upR_same]
    · rw [upR_ne _ _ hb]
  rw [this]
def M_J7_fill_53178 : Ms := (yJ7_fill_53178, cJ7_fill_53178, 4, none, 0, 0, 0, 0)
theorem ms_J7_fill_53178 : MS M_J7_fill_53178 2 := ⟨⟨q36, q3, by decide, by decide, by decide +kernel⟩, q35⟩
theorem fillI_loop {Q : Option Value → Hp → Prop} {a n : Nat} {v : Int32} {h : Hp} (hs : h.2.1 a = (11, n)) (hl : a < h.1) (hn : n < 2 ^ 31) (hq : Q none (rowI h a (fillR (h.2.2.2.1 a) n v))) : ∀ d k, k ≤ n → n - k = d → Go M_J7_fill_53178 Q 0 0 5 [some (.ref a), some (.int v), some (.int (nI k)), some (.int (nI n))] [] (rowI h a (fillR (h.2.2.2.1 a) k v)) := by
  intro d
  induction d with
  | zero =>
    intro k h1 h2
    obtain rfl : k = n := by omega
    refine Go.st (r_iload_n (i := 2) dJ7_fill_53178_5 rfl rfl rfl) ?_
    refine Go.st (r_iload_n (i := 3) dJ7_fill_53178_6 rfl rfl rfl) ?_
    refine Go.br (r_icmp_ge (tgt := 20) dJ7_fill_53178_7 rfl (by decide)) (fun _ => ?_) (fun hc => absurd (nI_le (Nat.le_refl k) hn) hc)
    exact g_vret rfl rfl rfl dJ7_fill_53178_20 hq
  | succ d ih =>
    intro k h1 h2
    have hk : k < n := by omega
    refine Go.st (r_iload_n (i := 2) dJ7_fill_53178_5 rfl rfl rfl) ?_
    refine Go.st (r_iload_n (i := 3) dJ7_fill_53178_6 rfl rfl rfl) ?_
    refine Go.br (r_icmp_ge (tgt := 20) dJ7_fill_53178_7 rfl (by decide)) (fun hc => absurd hc (nI_ge hk hn)) (fun _ => ?_)
    refine Go.st (r_aload_n (i := 0) dJ7_fill_53178_10 rfl rfl rfl) ?_
    refine Go.st (r_iload_n (i := 2) dJ7_fill_53178_11 rfl rfl rfl) ?_
    refine Go.st (r_iload_n (i := 1) dJ7_fill_53178_12 rfl rfl rfl) ?_
    refine Go.st (r_iastore (h := rowI h a (fillR (h.2.2.2.1 a) k v)) dJ7_fill_53178_13 rfl hs hl (vp_in_nI hk hn)) ?_
    rw [nI_clamp (by omega), rowI_up]
    refine Go.st (r_iinc (i := 2) (x := nI k) (v := nI (k + 1)) (L1 := [some (.ref a), some (.int v), some (.int (nI (k + 1))), some (.int (nI n))]) dJ7_fill_53178_14 rfl rfl (nI_1 k) (by decide) rfl) ?_
    refine Go.st (r_goto (pc1 := 5) dJ7_fill_53178_17 (by decide)) ?_
    exact ih (k + 1) hk (by omega)
theorem e_J7_fill_53178 {a n : Nat} {v : Int32} {h : Hp} (hs : h.2.1 a = (11, n)) (hl : a < h.1) (hn : n < 2 ^ 31) : EvD M_J7_fill_53178 [.ref a, .int v] h none (rowI h a (fillR (h.2.2.2.1 a) n v)) := by
  refine EvM.of (by decide +kernel) (Nat.le_of_ble_eq_true rfl) ?_
  show Go _ _ 0 0 0 [some (.ref a), some (.int v), none, none] [] h
  refine Go.st (r_iconst (v := 0) dJ7_fill_53178_0 rfl (by decide)) ?_
  refine Go.st (r_istore_n (i := 2) (L1 := [some (.ref a), some (.int v), some (.int 0), none]) dJ7_fill_53178_1 rfl rfl (by decide) rfl) ?_
  refine Go.st (r_aload_n (i := 0) dJ7_fill_53178_2 rfl rfl rfl) ?_
  refine Go.st (r_alen11 (v := nI n) dJ7_fill_53178_3 rfl hs hl rfl) ?_
  refine Go.st (r_istore_n (i := 3) (L1 := [some (.ref a), some (.int v), some (.int 0), some (.int (nI n))]) dJ7_fill_53178_4 rfl rfl (by decide) rfl) ?_
  have := fillI_loop (Q := fun r1 h1 => r1 = none ∧ h1 = rowI h a (fillR (h.2.2.2.1 a) n v)) (v := v) hs hl hn ⟨rfl, rfl⟩ n 0 (Nat.zero_le _) rfl
  rw [rowI_0, nI_0] at this
  exact this
theorem es_J7_fill_53178 (a n : Nat) (v : Int32) (σ : Sg) (τ : Sl) (hs : sh0 a = (11, n)) (hl : a < 88) (hn : n < 2 ^ 31) : EvD M_J7_fill_53178 [.ref a, .int v] (mk σ τ) none (mk (upR σ a (fillR (σ a) n v)) τ) := e_J7_fill_53178 (h := mk σ τ) hs hl hn
def M_J7_fill_d0a16 : Ms := (yJ7_fill_d0a16, cJ7_fill_d0a16, 5, none, 0, 0, 0, 0)
theorem ms_J7_fill_d0a16 : MS M_J7_fill_d0a16 2 := ⟨⟨q819, q3, by decide, by decide, by decide +kernel⟩, q818⟩
theorem fillJ_loop {Q : Option Value → Hp → Prop} {a n : Nat} {v : Int64} {h : Hp} (hs : h.2.1 a = (13, n)) (hl : a < h.1) (hn : n < 2 ^ 31) (hq : Q none (rowJ h a (fillR (h.2.2.2.2 a) n v))) : ∀ d k, k ≤ n → n - k = d → Go M_J7_fill_d0a16 Q 0 0 6 [some (.ref a), some (.long v), none, some (.int (nI k)), some (.int (nI n))] [] (rowJ h a (fillR (h.2.2.2.2 a) k v)) := by
  intro d
  induction d with
  | zero =>
    intro k h1 h2
    obtain rfl : k = n := by omega
    refine Go.st (r_iload_n (i := 3) dJ7_fill_d0a16_6 rfl rfl rfl) ?_
    refine Go.st (r_iload (i := 4) dJ7_fill_d0a16_7 rfl rfl) ?_
    refine Go.br (r_icmp_ge (tgt := 22) dJ7_fill_d0a16_9 rfl (by decide)) (fun _ => ?_) (fun hc => absurd (nI_le (Nat.le_refl k) hn) hc)
    exact g_vret rfl rfl rfl dJ7_fill_d0a16_22 hq
  | succ d ih =>
    intro k h1 h2
    have hk : k < n := by omega
    refine Go.st (r_iload_n (i := 3) dJ7_fill_d0a16_6 rfl rfl rfl) ?_
    refine Go.st (r_iload (i := 4) dJ7_fill_d0a16_7 rfl rfl) ?_
    refine Go.br (r_icmp_ge (tgt := 22) dJ7_fill_d0a16_9 rfl (by decide)) (fun hc => absurd hc (nI_ge hk hn)) (fun _ => ?_)
    refine Go.st (r_aload_n (i := 0) dJ7_fill_d0a16_12 rfl rfl rfl) ?_
    refine Go.st (r_iload_n (i := 3) dJ7_fill_d0a16_13 rfl rfl rfl) ?_
    refine Go.st (r_lload_n (i := 1) dJ7_fill_d0a16_14 rfl rfl rfl) ?_
    refine Go.st (r_lastore (h := rowJ h a (fillR (h.2.2.2.2 a) k v)) dJ7_fill_d0a16_15 rfl hs hl (vp_in_nI hk hn)) ?_
    rw [nI_clamp (by omega), rowJ_up]
    refine Go.st (r_iinc (i := 3) (x := nI k) (v := nI (k + 1)) (L1 := [some (.ref a), some (.long v), none, some (.int (nI (k + 1))), some (.int (nI n))]) dJ7_fill_d0a16_16 rfl rfl (nI_1 k) (by decide) rfl) ?_
    refine Go.st (r_goto (pc1 := 6) dJ7_fill_d0a16_19 (by decide)) ?_
    exact ih (k + 1) hk (by omega)
theorem e_J7_fill_d0a16 {a n : Nat} {v : Int64} {h : Hp} (hs : h.2.1 a = (13, n)) (hl : a < h.1) (hn : n < 2 ^ 31) : EvD M_J7_fill_d0a16 [.ref a, .long v] h none (rowJ h a (fillR (h.2.2.2.2 a) n v)) := by
  refine EvM.of (by decide +kernel) (Nat.le_of_ble_eq_true rfl) ?_
  show Go _ _ 0 0 0 [some (.ref a), some (.long v), none, none, none] [] h
  refine Go.st (r_iconst (v := 0) dJ7_fill_d0a16_0 rfl (by decide)) ?_
  refine Go.st (r_istore_n (i := 3) (L1 := [some (.ref a), some (.long v), none, some (.int 0), none]) dJ7_fill_d0a16_1 rfl rfl (by decide) rfl) ?_
  refine Go.st (r_aload_n (i := 0) dJ7_fill_d0a16_2 rfl rfl rfl) ?_
  refine Go.st (r_alen13 (v := nI n) dJ7_fill_d0a16_3 rfl hs hl rfl) ?_
  refine Go.st (r_istore (i := 4) (L1 := [some (.ref a), some (.long v), none, some (.int 0), some (.int (nI n))]) dJ7_fill_d0a16_4 rfl (by decide) rfl) ?_
  have := fillJ_loop (Q := fun r1 h1 => r1 = none ∧ h1 = rowJ h a (fillR (h.2.2.2.2 a) n v)) (v := v) hs hl hn ⟨rfl, rfl⟩ n 0 (Nat.zero_le _) rfl
  rw [rowJ_0, nI_0] at this
  exact this
theorem es_J7_fill_d0a16 (a n : Nat) (v : Int64) (σ : Sg) (τ : Sl) (hs : sh0 a = (13, n)) (hl : a < 88) (hn : n < 2 ^ 31) : EvD M_J7_fill_d0a16 [.ref a, .long v] (mk σ τ) none (mk σ (upR τ a (fillR (τ a) n v))) := e_J7_fill_d0a16 (h := mk σ τ) hs hl hn
