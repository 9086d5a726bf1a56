/-! the constructors, walked on the heap as it is; laid by gen/mkgen.py -/
def Fz (h : Hp) : Prop := (∀ k, h.1 ≤ k → h.2.1 k = (0, 0)) ∧ ∀ k j, (h.1 ≤ k ∨ 64 ≤ j) → h.2.2.1 k j = none
theorem Fz.new {h : Hp} {t n : Nat} (z : Fz h) : Fz (newC h t n) := by
  refine ⟨fun k hk => ?_, fun k j hk => ?_⟩
  · have hk' : h.1 + 1 ≤ k := hk
    show upR h.2.1 h.1 (t, n) k = _
    rw [upR_ne _ _ (by omega)]
    exact z.1 k (by omega)
  · show upR h.2.2.1 h.1 (fun _ => none) k j = _
    by_cases e : k = h.1
    · subst e; rw [upR_same]
    · rw [upR_ne _ _ e]
      refine z.2 k j ?_
      rcases hk with hk | hk
      · have hk' : h.1 + 1 ≤ k := hk
        exact Or.inl (by omega)
      · exact Or.inr hk
theorem Fz.setI {h : Hp} {a i : Nat} {x : Int32} (z : Fz h) : Fz (setI h a i x) := ⟨z.1, z.2⟩
theorem Fz.setJ {h : Hp} {a i : Nat} {x : Int64} (z : Fz h) : Fz (setJ h a i x) := ⟨z.1, z.2⟩
theorem Fz.rowI {h : Hp} {a : Nat} {r : Nat → Int32} (z : Fz h) : Fz (rowI h a r) := ⟨z.1, z.2⟩
theorem Fz.setR {h : Hp} {a i x : Nat} (z : Fz h) (ha : a < h.1) (hi : i < 64) : Fz (setR h a i x) := by
  refine ⟨z.1, fun k j hk => ?_⟩
  have hk' : h.1 ≤ k ∨ 64 ≤ j := hk
  show up2 h.2.2.1 a i (some x) k j = none
  by_cases e : k = a
  · subst e
    rw [up2_slot _ _ (by omega)]
    exact z.2 _ _ hk'
  · rw [up2_cell _ _ _ e]
    exact z.2 _ _ hk'
theorem k_put {M : Ms} {kc ks pc pc1 : Nat} {L L1 : List (Option Value)} {st st1 : List Value} {h h' h1 : Hp} (x : St M kc ks pc1 L1 st1 h' kc ks pc L st h) (e : h' = h1) : St M kc ks pc1 L1 st1 h1 kc ks pc L st h := e ▸ x
theorem k_new {M : Ms} {kc ks kc1 ks1 pc pc1 ix tag N q : Nat} {L : List (Option Value)} {st : List Value} {h h1 : Hp} {ty : Nat → FieldType} (hd : decode (mC M) pc = .ok (.new ix, 3)) (hp : pc + 3 = pc1) (htl : tag < 11) {r : vw_C} (hr : vwCl[tag]? = some r) (hN : r.2.2 = N) (hty : ∀ k, k < N → parseFieldDescriptor (r.2.1 k).2.2.1 = some (ty k)) (hdf : ∀ j, j < N → ∃ kd, (hKd tag)[j]? = some kd ∧ defaultValue (ty j) = kdV kd)
    (hcl : Cond.classLink (mY M).cls ix r.1 ∈ TB) (hin : Cond.instantiable r.1 N ∈ TB) (hini : Cond.initialized r.1 ∈ TB) (hf : kc + 1 ≤ mK M ∧ ks + N ≤ mS M) (hkc : kc + 1 = kc1) (hks : ks + N = ks1) (hq : h.1 = q) (e : newC h tag 0 = h1) : St M kc1 ks1 pc1 L (.ref q :: st) h1 kc ks pc L st h := by
  subst hq e
  exact r_new hd hp htl hr hN hty hdf hcl hin hini hf hkc hks
theorem k_newI {M : Ms} {kc ks kc1 ks1 pc pc1 N q : Nat} {L : List (Option Value)} {st : List Value} {h h1 : Hp} {n : Int32} (hd : decode (mC M) pc = .ok (.newarray .int, 2)) (hp : pc + 2 = pc1) (harr : Cond.arrayClass .int ∈ TB) (hn : ¬ n < 0) (hN : n.toNatClampNeg = N) (hb : N * 4 ≤ 536870912) (hf : kc + 1 ≤ mK M ∧ ks + N ≤ mS M) (hkc : kc + 1 = kc1) (hks : ks + N = ks1) (hq : h.1 = q) (e : newC h 11 N = h1) : St M kc1 ks1 pc1 L (.ref q :: st) h1 kc ks pc L (.int n :: st) h := by
  subst hq e
  exact r_newI hd hp harr hn hN hb hf hkc hks
theorem k_newZ {M : Ms} {kc ks kc1 ks1 pc pc1 N q : Nat} {L : List (Option Value)} {st : List Value} {h h1 : Hp} {n : Int32} (hd : decode (mC M) pc = .ok (.newarray .boolean, 2)) (hp : pc + 2 = pc1) (harr : Cond.arrayClass .boolean ∈ TB) (hn : ¬ n < 0) (hN : n.toNatClampNeg = N) (hb : N ≤ 536870912) (hf : kc + 1 ≤ mK M ∧ ks + N ≤ mS M) (hkc : kc + 1 = kc1) (hks : ks + N = ks1) (hq : h.1 = q) (e : newC h 12 N = h1) : St M kc1 ks1 pc1 L (.ref q :: st) h1 kc ks pc L (.int n :: st) h := by
  subst hq e
  exact r_newZ hd hp harr hn hN hb hf hkc hks
theorem k_newJ {M : Ms} {kc ks kc1 ks1 pc pc1 N q : Nat} {L : List (Option Value)} {st : List Value} {h h1 : Hp} {n : Int32} (hd : decode (mC M) pc = .ok (.newarray .long, 2)) (hp : pc + 2 = pc1) (harr : Cond.arrayClass .long ∈ TB) (hn : ¬ n < 0) (hN : n.toNatClampNeg = N) (hb : N * 8 ≤ 536870912) (hf : kc + 1 ≤ mK M ∧ ks + N ≤ mS M) (hkc : kc + 1 = kc1) (hks : ks + N = ks1) (hq : h.1 = q) (e : newC h 13 N = h1) : St M kc1 ks1 pc1 L (.ref q :: st) h1 kc ks pc L (.int n :: st) h := by
  subst hq e
  exact r_newJ hd hp harr hn hN hb hf hkc hks
theorem k_newR {M : Ms} {kc ks kc1 ks1 pc pc1 ix N tag t0 q : Nat} {C : String} {L : List (Option Value)} {st : List Value} {h h1 : Hp} {n : Int32} (hd : decode (mC M) pc = .ok (.anewarray ix, 3)) (hp : pc + 3 = pc1) (htag : 14 ≤ tag) (hty : ∀ ca : Nat → ClassId, (tysOf ca)[t0]? = some (ca tag, .object C)) (hao : C = RX7 ∨ C = RX6) (hcl : Cond.classLink (mY M).cls ix C ∈ TB) (hn : ¬ n < 0) (hN : n.toNatClampNeg = N) (hb : N * 4 ≤ 536870912) (hf : kc + 1 ≤ mK M ∧ ks + N ≤ mS M) (hkc : kc + 1 = kc1) (hks : ks + N = ks1) (hq : h.1 = q) (e : newC h tag N = h1) : St M kc1 ks1 pc1 L (.ref q :: st) h1 kc ks pc L (.int n :: st) h := by
  subst hq e
  exact r_newR hd hp htag hty hao hcl hn hN hb hf hkc hks
theorem df0 : ∀ j, j < 5 → ∃ kd, (hKd 0)[j]? = some kd ∧ defaultValue (tyX0 j) = kdV kd := by
  intro j hj
  match j, hj with
  | 0, _ => exact ⟨_, rfl, rfl⟩
  | 1, _ => exact ⟨_, rfl, rfl⟩
  | 2, _ => exact ⟨_, rfl, rfl⟩
  | 3, _ => exact ⟨_, rfl, rfl⟩
  | 4, _ => exact ⟨_, rfl, rfl⟩
  | n + 5, h => omega
theorem df1 : ∀ j, j < 6 → ∃ kd, (hKd 1)[j]? = some kd ∧ defaultValue (tyX1 j) = kdV kd := by
  intro j hj
  match j, hj with
  | 0, _ => exact ⟨_, rfl, rfl⟩
  | 1, _ => exact ⟨_, rfl, rfl⟩
  | 2, _ => exact ⟨_, rfl, rfl⟩
  | 3, _ => exact ⟨_, rfl, rfl⟩
  | 4, _ => exact ⟨_, rfl, rfl⟩
  | 5, _ => exact ⟨_, rfl, rfl⟩
  | n + 6, h => omega
theorem df2 : ∀ j, j < 2 → ∃ kd, (hKd 2)[j]? = some kd ∧ defaultValue (tyX2 j) = kdV kd := by
  intro j hj
  match j, hj with
  | 0, _ => exact ⟨_, rfl, rfl⟩
  | 1, _ => exact ⟨_, rfl, rfl⟩
  | n + 2, h => omega
theorem df3 : ∀ j, j < 4 → ∃ kd, (hKd 3)[j]? = some kd ∧ defaultValue (tyX3 j) = kdV kd := by
  intro j hj
  match j, hj with
  | 0, _ => exact ⟨_, rfl, rfl⟩
  | 1, _ => exact ⟨_, rfl, rfl⟩
  | 2, _ => exact ⟨_, rfl, rfl⟩
  | 3, _ => exact ⟨_, rfl, rfl⟩
  | n + 4, h => omega
theorem df4 : ∀ j, j < 8 → ∃ kd, (hKd 4)[j]? = some kd ∧ defaultValue (tyX4 j) = kdV kd := by
  intro j hj
  match j, hj with
  | 0, _ => exact ⟨_, rfl, rfl⟩
  | 1, _ => exact ⟨_, rfl, rfl⟩
  | 2, _ => exact ⟨_, rfl, rfl⟩
  | 3, _ => exact ⟨_, rfl, rfl⟩
  | 4, _ => exact ⟨_, rfl, rfl⟩
  | 5, _ => exact ⟨_, rfl, rfl⟩
  | 6, _ => exact ⟨_, rfl, rfl⟩
  | 7, _ => exact ⟨_, rfl, rfl⟩
  | n + 8, h => omega
theorem df5 : ∀ j, j < 4 → ∃ kd, (hKd 5)[j]? = some kd ∧ defaultValue (tyX5 j) = kdV kd := by
  intro j hj
  match j, hj with
  | 0, _ => exact ⟨_, rfl, rfl⟩
  | 1, _ => exact ⟨_, rfl, rfl⟩
  | 2, _ => exact ⟨_, rfl, rfl⟩
  | 3, _ => exact ⟨_, rfl, rfl⟩
  | n + 4, h => omega
theorem df6 : ∀ j, j < 3 → ∃ kd, (hKd 6)[j]? = some kd ∧ defaultValue (tyX6 j) = kdV kd := by
  intro j hj
  match j, hj with
  | 0, _ => exact ⟨_, rfl, rfl⟩
  | 1, _ => exact ⟨_, rfl, rfl⟩
  | 2, _ => exact ⟨_, rfl, rfl⟩
  | n + 3, h => omega
theorem df7 : ∀ j, j < 12 → ∃ kd, (hKd 7)[j]? = some kd ∧ defaultValue (tyX7 j) = kdV kd := by
  intro j hj
  match j, hj with
  | 0, _ => exact ⟨_, rfl, rfl⟩
  | 1, _ => exact ⟨_, rfl, rfl⟩
  | 2, _ => exact ⟨_, rfl, rfl⟩
  | 3, _ => exact ⟨_, rfl, rfl⟩
  | 4, _ => exact ⟨_, rfl, rfl⟩
  | 5, _ => exact ⟨_, rfl, rfl⟩
  | 6, _ => exact ⟨_, rfl, rfl⟩
  | 7, _ => exact ⟨_, rfl, rfl⟩
  | 8, _ => exact ⟨_, rfl, rfl⟩
  | 9, _ => exact ⟨_, rfl, rfl⟩
  | 10, _ => exact ⟨_, rfl, rfl⟩
  | 11, _ => exact ⟨_, rfl, rfl⟩
  | n + 12, h => omega
theorem df8 : ∀ j, j < 2 → ∃ kd, (hKd 8)[j]? = some kd ∧ defaultValue (tyX8 j) = kdV kd := by
  intro j hj
  match j, hj with
  | 0, _ => exact ⟨_, rfl, rfl⟩
  | 1, _ => exact ⟨_, rfl, rfl⟩
  | n + 2, h => omega
theorem df9 : ∀ j, j < 14 → ∃ kd, (hKd 9)[j]? = some kd ∧ defaultValue (tyX9 j) = kdV kd := by
  intro j hj
  match j, hj with
  | 0, _ => exact ⟨_, rfl, rfl⟩
  | 1, _ => exact ⟨_, rfl, rfl⟩
  | 2, _ => exact ⟨_, rfl, rfl⟩
  | 3, _ => exact ⟨_, rfl, rfl⟩
  | 4, _ => exact ⟨_, rfl, rfl⟩
  | 5, _ => exact ⟨_, rfl, rfl⟩
  | 6, _ => exact ⟨_, rfl, rfl⟩
  | 7, _ => exact ⟨_, rfl, rfl⟩
  | 8, _ => exact ⟨_, rfl, rfl⟩
  | 9, _ => exact ⟨_, rfl, rfl⟩
  | 10, _ => exact ⟨_, rfl, rfl⟩
  | 11, _ => exact ⟨_, rfl, rfl⟩
  | 12, _ => exact ⟨_, rfl, rfl⟩
  | 13, _ => exact ⟨_, rfl, rfl⟩
  | n + 14, h => omega
theorem df10 : ∀ j, j < 29 → ∃ kd, (hKd 10)[j]? = some kd ∧ defaultValue (tyX10 j) = kdV kd := by
  intro j hj
  match j, hj with
  | 0, _ => exact ⟨_, rfl, rfl⟩
  | 1, _ => exact ⟨_, rfl, rfl⟩
  | 2, _ => exact ⟨_, rfl, rfl⟩
  | 3, _ => exact ⟨_, rfl, rfl⟩
  | 4, _ => exact ⟨_, rfl, rfl⟩
  | 5, _ => exact ⟨_, rfl, rfl⟩
  | 6, _ => exact ⟨_, rfl, rfl⟩
  | 7, _ => exact ⟨_, rfl, rfl⟩
  | 8, _ => exact ⟨_, rfl, rfl⟩
  | 9, _ => exact ⟨_, rfl, rfl⟩
  | 10, _ => exact ⟨_, rfl, rfl⟩
  | 11, _ => exact ⟨_, rfl, rfl⟩
  | 12, _ => exact ⟨_, rfl, rfl⟩
  | 13, _ => exact ⟨_, rfl, rfl⟩
  | 14, _ => exact ⟨_, rfl, rfl⟩
  | 15, _ => exact ⟨_, rfl, rfl⟩
  | 16, _ => exact ⟨_, rfl, rfl⟩
  | 17, _ => exact ⟨_, rfl, rfl⟩
  | 18, _ => exact ⟨_, rfl, rfl⟩
  | 19, _ => exact ⟨_, rfl, rfl⟩
  | 20, _ => exact ⟨_, rfl, rfl⟩
  | 21, _ => exact ⟨_, rfl, rfl⟩
  | 22, _ => exact ⟨_, rfl, rfl⟩
  | 23, _ => exact ⟨_, rfl, rfl⟩
  | 24, _ => exact ⟨_, rfl, rfl⟩
  | 25, _ => exact ⟨_, rfl, rfl⟩
  | 26, _ => exact ⟨_, rfl, rfl⟩
  | 27, _ => exact ⟨_, rfl, rfl⟩
  | 28, _ => exact ⟨_, rfl, rfl⟩
  | n + 29, h => omega
theorem fwF_7_0 : FW 7 0 true (.array .int) := ⟨_, rfl, by decide +kernel, by decide +kernel⟩
theorem fwF_7_1 : FW 7 1 true (.array .int) := ⟨_, rfl, by decide +kernel, by decide +kernel⟩
theorem fwF_7_3 : FW 7 3 true (.array .int) := ⟨_, rfl, by decide +kernel, by decide +kernel⟩
theorem fwF_7_5 : FW 7 5 true (.array .int) := ⟨_, rfl, by decide +kernel, by decide +kernel⟩
theorem fwF_7_6 : FW 7 6 true (.array .int) := ⟨_, rfl, by decide +kernel, by decide +kernel⟩
theorem fwF_7_8 : FW 7 8 true (.array .int) := ⟨_, rfl, by decide +kernel, by decide +kernel⟩
theorem fwF_7_9 : FW 7 9 true (.array .int) := ⟨_, rfl, by decide +kernel, by decide +kernel⟩
theorem fwF_7_11 : FW 7 11 true (.array .int) := ⟨_, rfl, by decide +kernel, by decide +kernel⟩
theorem fwF_9_0 : FW 9 0 true (.object "HedgehogLots$Slope") := ⟨_, rfl, by decide +kernel, by decide +kernel⟩
theorem fwF_1_5 : FW 1 5 true (.array .int) := ⟨_, rfl, by decide +kernel, by decide +kernel⟩
theorem fwF_2_1 : FW 2 1 true (.object "HedgehogLots$Course") := ⟨_, rfl, by decide +kernel, by decide +kernel⟩
theorem fwF_2_0 : FW 2 0 true (.object "HedgehogLots$Slope") := ⟨_, rfl, by decide +kernel, by decide +kernel⟩
theorem fwF_9_1 : FW 9 1 true (.object "HedgehogLots$Court") := ⟨_, rfl, by decide +kernel, by decide +kernel⟩
theorem fwF_9_2 : FW 9 2 true (.object "HedgehogLots$Slope") := ⟨_, rfl, by decide +kernel, by decide +kernel⟩
theorem fwF_9_3 : FW 9 3 true (.object "HedgehogLots$Court") := ⟨_, rfl, by decide +kernel, by decide +kernel⟩
theorem fwF_0_4 : FW 0 4 true (.array .int) := ⟨_, rfl, by decide +kernel, by decide +kernel⟩
theorem fwF_0_0 : FW 0 0 true (.object "HedgehogLots$Court") := ⟨_, rfl, by decide +kernel, by decide +kernel⟩
theorem fwF_0_1 : FW 0 1 true (.object "HedgehogLots$Slope") := ⟨_, rfl, by decide +kernel, by decide +kernel⟩
theorem fwF_9_4 : FW 9 4 true (.object "HedgehogLots$Advice") := ⟨_, rfl, by decide +kernel, by decide +kernel⟩
theorem fwF_3_2 : FW 3 2 true (.array .long) := ⟨_, rfl, by decide +kernel, by decide +kernel⟩
theorem fwF_3_3 : FW 3 3 true (.array .long) := ⟨_, rfl, by decide +kernel, by decide +kernel⟩
theorem fwF_9_5 : FW 9 5 true (.object "HedgehogLots$Odds") := ⟨_, rfl, by decide +kernel, by decide +kernel⟩
theorem fwF_5_0 : FW 5 0 true (.array .int) := ⟨_, rfl, by decide +kernel, by decide +kernel⟩
theorem fwF_5_1 : FW 5 1 true (.array .int) := ⟨_, rfl, by decide +kernel, by decide +kernel⟩
theorem fwF_5_2 : FW 5 2 true (.array .int) := ⟨_, rfl, by decide +kernel, by decide +kernel⟩
theorem fwF_9_6 : FW 9 6 true (.object "HedgehogLots$Seen") := ⟨_, rfl, by decide +kernel, by decide +kernel⟩
theorem fwF_9_7 : FW 9 7 true (.array (.object "HedgehogLots$Slope")) := ⟨_, rfl, by decide +kernel, by decide +kernel⟩
theorem fwF_9_8 : FW 9 8 true (.array .boolean) := ⟨_, rfl, by decide +kernel, by decide +kernel⟩
theorem fwF_8_0 : FW 8 0 true (.array .int) := ⟨_, rfl, by decide +kernel, by decide +kernel⟩
theorem fwF_9_9 : FW 9 9 true (.object "HedgehogLots$Tape") := ⟨_, rfl, by decide +kernel, by decide +kernel⟩
theorem fwF_4_0 : FW 4 0 true (.object "HedgehogLots$Slope") := ⟨_, rfl, by decide +kernel, by decide +kernel⟩
theorem fwF_4_2 : FW 4 2 true (.object "HedgehogLots$Tape") := ⟨_, rfl, by decide +kernel, by decide +kernel⟩
theorem fwF_9_10 : FW 9 10 true (.object "HedgehogLots$Reader") := ⟨_, rfl, by decide +kernel, by decide +kernel⟩
theorem fwF_9_12 : FW 9 12 true (.array (.object "HedgehogLots$Sheet")) := ⟨_, rfl, by decide +kernel, by decide +kernel⟩
theorem fwF_6_2 : FW 6 2 true (.array .int) := ⟨_, rfl, by decide +kernel, by decide +kernel⟩
theorem kS_205 : (Int16.ofInt (205)).toInt32 = 205 := by decide
theorem fwF_10_0 : FW 10 0 true (.array .int) := ⟨_, rfl, by decide +kernel, by decide +kernel⟩
theorem fwF_10_2 : FW 10 2 true (.array .int) := ⟨_, rfl, by decide +kernel, by decide +kernel⟩
theorem fwF_10_5 : FW 10 5 true (.array .int) := ⟨_, rfl, by decide +kernel, by decide +kernel⟩
theorem kB_13 : (Int8.ofInt (13)).toInt32 = 13 := by decide
theorem kB_17 : (Int8.ofInt (17)).toInt32 = 17 := by decide
theorem kB_28 : (Int8.ofInt (28)).toInt32 = 28 := by decide
theorem fwF_10_14 : FW 10 14 true (.array .int) := ⟨_, rfl, by decide +kernel, by decide +kernel⟩
theorem kB_112 : (Int8.ofInt (112)).toInt32 = 112 := by decide
theorem kB_108 : (Int8.ofInt (108)).toInt32 = 108 := by decide
theorem kB_105 : (Int8.ofInt (105)).toInt32 = 105 := by decide
theorem kB_110 : (Int8.ofInt (110)).toInt32 = 110 := by decide
theorem kB_102 : (Int8.ofInt (102)).toInt32 = 102 := by decide
theorem kB_116 : (Int8.ofInt (116)).toInt32 = 116 := by decide
theorem kB_121 : (Int8.ofInt (121)).toInt32 = 121 := by decide
theorem kB_111 : (Int8.ofInt (111)).toInt32 = 111 := by decide
theorem kB_117 : (Int8.ofInt (117)).toInt32 = 117 := by decide
theorem kB_11 : (Int8.ofInt (11)).toInt32 = 11 := by decide
theorem kB_12 : (Int8.ofInt (12)).toInt32 = 12 := by decide
theorem kB_103 : (Int8.ofInt (103)).toInt32 = 103 := by decide
theorem kB_15 : (Int8.ofInt (15)).toInt32 = 15 := by decide
theorem kB_114 : (Int8.ofInt (114)).toInt32 = 114 := by decide
theorem kB_101 : (Int8.ofInt (101)).toInt32 = 101 := by decide
theorem kB_19 : (Int8.ofInt (19)).toInt32 = 19 := by decide
theorem kB_115 : (Int8.ofInt (115)).toInt32 = 115 := by decide
theorem kB_21 : (Int8.ofInt (21)).toInt32 = 21 := by decide
theorem kB_23 : (Int8.ofInt (23)).toInt32 = 23 := by decide
theorem kB_25 : (Int8.ofInt (25)).toInt32 = 25 := by decide
theorem kB_27 : (Int8.ofInt (27)).toInt32 = 27 := by decide
theorem fwF_10_15 : FW 10 15 true (.array .int) := ⟨_, rfl, by decide +kernel, by decide +kernel⟩
theorem fwF_10_20 : FW 10 20 true (.array .int) := ⟨_, rfl, by decide +kernel, by decide +kernel⟩
theorem fwF_10_21 : FW 10 21 true (.array .int) := ⟨_, rfl, by decide +kernel, by decide +kernel⟩
theorem fwF_10_23 : FW 10 23 true (.array .int) := ⟨_, rfl, by decide +kernel, by decide +kernel⟩
theorem fwF_10_24 : FW 10 24 true (.array .boolean) := ⟨_, rfl, by decide +kernel, by decide +kernel⟩
theorem fwF_10_25 : FW 10 25 true (.array .int) := ⟨_, rfl, by decide +kernel, by decide +kernel⟩
theorem fwF_10_26 : FW 10 26 true (.array .int) := ⟨_, rfl, by decide +kernel, by decide +kernel⟩
theorem fwF_10_27 : FW 10 27 true (.array .int) := ⟨_, rfl, by decide +kernel, by decide +kernel⟩
def zz0 : Hp := (0, fun _ => (0, 0), fun _ _ => none, fun _ _ => 0, fun _ _ => 0)
theorem zf0 : Fz zz0 := ⟨fun _ _ => rfl, fun _ _ _ => rfl⟩
def zz1 : Hp := newC zz0 9 0
theorem zf1 : Fz zz1 := Fz.new zf0
def zz2 : Hp := newC zz1 7 0
theorem zf2 : Fz zz2 := Fz.new zf1
def zz3 : Hp := newC zz2 11 7
theorem zf3 : Fz zz3 := Fz.new zf2
def zz4 : Hp := setR zz3 1 0 2
theorem zf4 : Fz zz4 := Fz.setR zf3 (by decide +kernel) (by decide)
def zz5 : Hp := newC zz4 11 7
theorem zf5 : Fz zz5 := Fz.new zf4
def zz6 : Hp := setR zz5 1 1 3
theorem zf6 : Fz zz6 := Fz.setR zf5 (by decide +kernel) (by decide)
def zz7 : Hp := setI zz6 1 2 (0)
theorem zf7 : Fz zz7 := Fz.setI zf6
def zz8 : Hp := newC zz7 11 4
theorem zf8 : Fz zz8 := Fz.new zf7
def zz9 : Hp := setR zz8 1 3 4
theorem zf9 : Fz zz9 := Fz.setR zf8 (by decide +kernel) (by decide)
def zz10 : Hp := setI zz9 1 4 (0)
theorem zf10 : Fz zz10 := Fz.setI zf9
def zz11 : Hp := newC zz10 11 4
theorem zf11 : Fz zz11 := Fz.new zf10
def zz12 : Hp := setR zz11 1 5 5
theorem zf12 : Fz zz12 := Fz.setR zf11 (by decide +kernel) (by decide)
def zz13 : Hp := newC zz12 11 4
theorem zf13 : Fz zz13 := Fz.new zf12
def zz14 : Hp := setR zz13 1 6 6
theorem zf14 : Fz zz14 := Fz.setR zf13 (by decide +kernel) (by decide)
def zz15 : Hp := setI zz14 1 7 (0)
theorem zf15 : Fz zz15 := Fz.setI zf14
def zz16 : Hp := newC zz15 11 6
theorem zf16 : Fz zz16 := Fz.new zf15
def zz17 : Hp := setR zz16 1 8 7
theorem zf17 : Fz zz17 := Fz.setR zf16 (by decide +kernel) (by decide)
def zz18 : Hp := newC zz17 11 6
theorem zf18 : Fz zz18 := Fz.new zf17
def zz19 : Hp := setR zz18 1 9 8
theorem zf19 : Fz zz19 := Fz.setR zf18 (by decide +kernel) (by decide)
def zz20 : Hp := setI zz19 1 10 (0)
theorem zf20 : Fz zz20 := Fz.setI zf19
def zz21 : Hp := newC zz20 11 100
theorem zf21 : Fz zz21 := Fz.new zf20
def zz22 : Hp := setR zz21 1 11 9
theorem zf22 : Fz zz22 := Fz.setR zf21 (by decide +kernel) (by decide)
def zz23 : Hp := rowI zz22 9 (fillR (zz22.2.2.2.1 9) 100 (-1))
theorem zf23 : Fz zz23 := Fz.rowI zf22
def zz24 : Hp := setR zz23 0 0 1
theorem zf24 : Fz zz24 := Fz.setR zf23 (by decide +kernel) (by decide)
def zz25 : Hp := newC zz24 2 0
theorem zf25 : Fz zz25 := Fz.new zf24
def zz26 : Hp := newC zz25 1 0
theorem zf26 : Fz zz26 := Fz.new zf25
def zz27 : Hp := setI zz26 11 0 (-4)
theorem zf27 : Fz zz27 := Fz.setI zf26
def zz28 : Hp := setI zz27 11 1 (-4)
theorem zf28 : Fz zz28 := Fz.setI zf27
def zz29 : Hp := setI zz28 11 2 (0)
theorem zf29 : Fz zz29 := Fz.setI zf28
def zz30 : Hp := setI zz29 11 3 (0)
theorem zf30 : Fz zz30 := Fz.setI zf29
def zz31 : Hp := setI zz30 11 4 (0)
theorem zf31 : Fz zz31 := Fz.setI zf30
def zz32 : Hp := newC zz31 11 10
theorem zf32 : Fz zz32 := Fz.new zf31
def zz33 : Hp := setR zz32 11 5 12
theorem zf33 : Fz zz33 := Fz.setR zf32 (by decide +kernel) (by decide)
def zz34 : Hp := setR zz33 10 1 11
theorem zf34 : Fz zz34 := Fz.setR zf33 (by decide +kernel) (by decide)
def zz35 : Hp := setR zz34 10 0 1
theorem zf35 : Fz zz35 := Fz.setR zf34 (by decide +kernel) (by decide)
def zz36 : Hp := setR zz35 0 1 10
theorem zf36 : Fz zz36 := Fz.setR zf35 (by decide +kernel) (by decide)
def zz37 : Hp := newC zz36 7 0
theorem zf37 : Fz zz37 := Fz.new zf36
def zz38 : Hp := newC zz37 11 7
theorem zf38 : Fz zz38 := Fz.new zf37
def zz39 : Hp := setR zz38 13 0 14
theorem zf39 : Fz zz39 := Fz.setR zf38 (by decide +kernel) (by decide)
def zz40 : Hp := newC zz39 11 7
theorem zf40 : Fz zz40 := Fz.new zf39
def zz41 : Hp := setR zz40 13 1 15
theorem zf41 : Fz zz41 := Fz.setR zf40 (by decide +kernel) (by decide)
def zz42 : Hp := setI zz41 13 2 (0)
theorem zf42 : Fz zz42 := Fz.setI zf41
def zz43 : Hp := newC zz42 11 4
theorem zf43 : Fz zz43 := Fz.new zf42
def zz44 : Hp := setR zz43 13 3 16
theorem zf44 : Fz zz44 := Fz.setR zf43 (by decide +kernel) (by decide)
def zz45 : Hp := setI zz44 13 4 (0)
theorem zf45 : Fz zz45 := Fz.setI zf44
def zz46 : Hp := newC zz45 11 4
theorem zf46 : Fz zz46 := Fz.new zf45
def zz47 : Hp := setR zz46 13 5 17
theorem zf47 : Fz zz47 := Fz.setR zf46 (by decide +kernel) (by decide)
def zz48 : Hp := newC zz47 11 4
theorem zf48 : Fz zz48 := Fz.new zf47
def zz49 : Hp := setR zz48 13 6 18
theorem zf49 : Fz zz49 := Fz.setR zf48 (by decide +kernel) (by decide)
def zz50 : Hp := setI zz49 13 7 (0)
theorem zf50 : Fz zz50 := Fz.setI zf49
def zz51 : Hp := newC zz50 11 6
theorem zf51 : Fz zz51 := Fz.new zf50
def zz52 : Hp := setR zz51 13 8 19
theorem zf52 : Fz zz52 := Fz.setR zf51 (by decide +kernel) (by decide)
def zz53 : Hp := newC zz52 11 6
theorem zf53 : Fz zz53 := Fz.new zf52
def zz54 : Hp := setR zz53 13 9 20
theorem zf54 : Fz zz54 := Fz.setR zf53 (by decide +kernel) (by decide)
def zz55 : Hp := setI zz54 13 10 (0)
theorem zf55 : Fz zz55 := Fz.setI zf54
def zz56 : Hp := newC zz55 11 100
theorem zf56 : Fz zz56 := Fz.new zf55
def zz57 : Hp := setR zz56 13 11 21
theorem zf57 : Fz zz57 := Fz.setR zf56 (by decide +kernel) (by decide)
def zz58 : Hp := rowI zz57 21 (fillR (zz57.2.2.2.1 21) 100 (-1))
theorem zf58 : Fz zz58 := Fz.rowI zf57
def zz59 : Hp := setR zz58 0 2 13
theorem zf59 : Fz zz59 := Fz.setR zf58 (by decide +kernel) (by decide)
def zz60 : Hp := newC zz59 2 0
theorem zf60 : Fz zz60 := Fz.new zf59
def zz61 : Hp := newC zz60 1 0
theorem zf61 : Fz zz61 := Fz.new zf60
def zz62 : Hp := setI zz61 23 0 (-4)
theorem zf62 : Fz zz62 := Fz.setI zf61
def zz63 : Hp := setI zz62 23 1 (-4)
theorem zf63 : Fz zz63 := Fz.setI zf62
def zz64 : Hp := setI zz63 23 2 (0)
theorem zf64 : Fz zz64 := Fz.setI zf63
def zz65 : Hp := setI zz64 23 3 (0)
theorem zf65 : Fz zz65 := Fz.setI zf64
def zz66 : Hp := setI zz65 23 4 (0)
theorem zf66 : Fz zz66 := Fz.setI zf65
def zz67 : Hp := newC zz66 11 10
theorem zf67 : Fz zz67 := Fz.new zf66
def zz68 : Hp := setR zz67 23 5 24
theorem zf68 : Fz zz68 := Fz.setR zf67 (by decide +kernel) (by decide)
def zz69 : Hp := setR zz68 22 1 23
theorem zf69 : Fz zz69 := Fz.setR zf68 (by decide +kernel) (by decide)
def zz70 : Hp := setR zz69 22 0 13
theorem zf70 : Fz zz70 := Fz.setR zf69 (by decide +kernel) (by decide)
def zz71 : Hp := setR zz70 0 3 22
theorem zf71 : Fz zz71 := Fz.setR zf70 (by decide +kernel) (by decide)
def zz72 : Hp := newC zz71 0 0
theorem zf72 : Fz zz72 := Fz.new zf71
def zz73 : Hp := setI zz72 25 2 (-4)
theorem zf73 : Fz zz73 := Fz.setI zf72
def zz74 : Hp := setI zz73 25 3 (0)
theorem zf74 : Fz zz74 := Fz.setI zf73
def zz75 : Hp := newC zz74 11 8
theorem zf75 : Fz zz75 := Fz.new zf74
def zz76 : Hp := setR zz75 25 4 26
theorem zf76 : Fz zz76 := Fz.setR zf75 (by decide +kernel) (by decide)
def zz77 : Hp := setR zz76 25 0 22
theorem zf77 : Fz zz77 := Fz.setR zf76 (by decide +kernel) (by decide)
def zz78 : Hp := setR zz77 25 1 13
theorem zf78 : Fz zz78 := Fz.setR zf77 (by decide +kernel) (by decide)
def zz79 : Hp := setR zz78 0 4 25
theorem zf79 : Fz zz79 := Fz.setR zf78 (by decide +kernel) (by decide)
def zz80 : Hp := newC zz79 3 0
theorem zf80 : Fz zz80 := Fz.new zf79
def zz81 : Hp := setJ zz80 27 0 0
theorem zf81 : Fz zz81 := Fz.setJ zf80
def zz82 : Hp := setJ zz81 27 1 0
theorem zf82 : Fz zz82 := Fz.setJ zf81
def zz83 : Hp := newC zz82 13 80
theorem zf83 : Fz zz83 := Fz.new zf82
def zz84 : Hp := setR zz83 27 2 28
theorem zf84 : Fz zz84 := Fz.setR zf83 (by decide +kernel) (by decide)
def zz85 : Hp := newC zz84 13 80
theorem zf85 : Fz zz85 := Fz.new zf84
def zz86 : Hp := setR zz85 27 3 29
theorem zf86 : Fz zz86 := Fz.setR zf85 (by decide +kernel) (by decide)
def zz87 : Hp := setR zz86 0 5 27
theorem zf87 : Fz zz87 := Fz.setR zf86 (by decide +kernel) (by decide)
def zz88 : Hp := newC zz87 5 0
theorem zf88 : Fz zz88 := Fz.new zf87
def zz89 : Hp := newC zz88 11 6
theorem zf89 : Fz zz89 := Fz.new zf88
def zz90 : Hp := setR zz89 30 0 31
theorem zf90 : Fz zz90 := Fz.setR zf89 (by decide +kernel) (by decide)
def zz91 : Hp := newC zz90 11 6
theorem zf91 : Fz zz91 := Fz.new zf90
def zz92 : Hp := setR zz91 30 1 32
theorem zf92 : Fz zz92 := Fz.setR zf91 (by decide +kernel) (by decide)
def zz93 : Hp := newC zz92 11 6
theorem zf93 : Fz zz93 := Fz.new zf92
def zz94 : Hp := setR zz93 30 2 33
theorem zf94 : Fz zz94 := Fz.setR zf93 (by decide +kernel) (by decide)
def zz95 : Hp := setI zz94 30 3 (0)
theorem zf95 : Fz zz95 := Fz.setI zf94
def zz96 : Hp := setR zz95 0 6 30
theorem zf96 : Fz zz96 := Fz.setR zf95 (by decide +kernel) (by decide)
def zz97 : Hp := newC zz96 14 2
theorem zf97 : Fz zz97 := Fz.new zf96
def zz98 : Hp := setR zz97 0 7 34
theorem zf98 : Fz zz98 := Fz.setR zf97 (by decide +kernel) (by decide)
def zz99 : Hp := newC zz98 12 2
theorem zf99 : Fz zz99 := Fz.new zf98
def zz100 : Hp := setR zz99 0 8 35
theorem zf100 : Fz zz100 := Fz.setR zf99 (by decide +kernel) (by decide)
def zz101 : Hp := newC zz100 7 0
theorem zf101 : Fz zz101 := Fz.new zf100
def zz102 : Hp := newC zz101 11 7
theorem zf102 : Fz zz102 := Fz.new zf101
def zz103 : Hp := setR zz102 36 0 37
theorem zf103 : Fz zz103 := Fz.setR zf102 (by decide +kernel) (by decide)
def zz104 : Hp := newC zz103 11 7
theorem zf104 : Fz zz104 := Fz.new zf103
def zz105 : Hp := setR zz104 36 1 38
theorem zf105 : Fz zz105 := Fz.setR zf104 (by decide +kernel) (by decide)
def zz106 : Hp := setI zz105 36 2 (0)
theorem zf106 : Fz zz106 := Fz.setI zf105
def zz107 : Hp := newC zz106 11 4
theorem zf107 : Fz zz107 := Fz.new zf106
def zz108 : Hp := setR zz107 36 3 39
theorem zf108 : Fz zz108 := Fz.setR zf107 (by decide +kernel) (by decide)
def zz109 : Hp := setI zz108 36 4 (0)
theorem zf109 : Fz zz109 := Fz.setI zf108
def zz110 : Hp := newC zz109 11 4
theorem zf110 : Fz zz110 := Fz.new zf109
def zz111 : Hp := setR zz110 36 5 40
theorem zf111 : Fz zz111 := Fz.setR zf110 (by decide +kernel) (by decide)
def zz112 : Hp := newC zz111 11 4
theorem zf112 : Fz zz112 := Fz.new zf111
def zz113 : Hp := setR zz112 36 6 41
theorem zf113 : Fz zz113 := Fz.setR zf112 (by decide +kernel) (by decide)
def zz114 : Hp := setI zz113 36 7 (0)
theorem zf114 : Fz zz114 := Fz.setI zf113
def zz115 : Hp := newC zz114 11 6
theorem zf115 : Fz zz115 := Fz.new zf114
def zz116 : Hp := setR zz115 36 8 42
theorem zf116 : Fz zz116 := Fz.setR zf115 (by decide +kernel) (by decide)
def zz117 : Hp := newC zz116 11 6
theorem zf117 : Fz zz117 := Fz.new zf116
def zz118 : Hp := setR zz117 36 9 43
theorem zf118 : Fz zz118 := Fz.setR zf117 (by decide +kernel) (by decide)
def zz119 : Hp := setI zz118 36 10 (0)
theorem zf119 : Fz zz119 := Fz.setI zf118
def zz120 : Hp := newC zz119 11 100
theorem zf120 : Fz zz120 := Fz.new zf119
def zz121 : Hp := setR zz120 36 11 44
theorem zf121 : Fz zz121 := Fz.setR zf120 (by decide +kernel) (by decide)
def zz122 : Hp := rowI zz121 44 (fillR (zz121.2.2.2.1 44) 100 (-1))
theorem zf122 : Fz zz122 := Fz.rowI zf121
def zz123 : Hp := setR zz122 34 0 36
theorem zf123 : Fz zz123 := Fz.setR zf122 (by decide +kernel) (by decide)
def zz124 : Hp := newC zz123 7 0
theorem zf124 : Fz zz124 := Fz.new zf123
def zz125 : Hp := newC zz124 11 7
theorem zf125 : Fz zz125 := Fz.new zf124
def zz126 : Hp := setR zz125 45 0 46
theorem zf126 : Fz zz126 := Fz.setR zf125 (by decide +kernel) (by decide)
def zz127 : Hp := newC zz126 11 7
theorem zf127 : Fz zz127 := Fz.new zf126
def zz128 : Hp := setR zz127 45 1 47
theorem zf128 : Fz zz128 := Fz.setR zf127 (by decide +kernel) (by decide)
def zz129 : Hp := setI zz128 45 2 (0)
theorem zf129 : Fz zz129 := Fz.setI zf128
def zz130 : Hp := newC zz129 11 4
theorem zf130 : Fz zz130 := Fz.new zf129
def zz131 : Hp := setR zz130 45 3 48
theorem zf131 : Fz zz131 := Fz.setR zf130 (by decide +kernel) (by decide)
def zz132 : Hp := setI zz131 45 4 (0)
theorem zf132 : Fz zz132 := Fz.setI zf131
def zz133 : Hp := newC zz132 11 4
theorem zf133 : Fz zz133 := Fz.new zf132
def zz134 : Hp := setR zz133 45 5 49
theorem zf134 : Fz zz134 := Fz.setR zf133 (by decide +kernel) (by decide)
def zz135 : Hp := newC zz134 11 4
theorem zf135 : Fz zz135 := Fz.new zf134
def zz136 : Hp := setR zz135 45 6 50
theorem zf136 : Fz zz136 := Fz.setR zf135 (by decide +kernel) (by decide)
def zz137 : Hp := setI zz136 45 7 (0)
theorem zf137 : Fz zz137 := Fz.setI zf136
def zz138 : Hp := newC zz137 11 6
theorem zf138 : Fz zz138 := Fz.new zf137
def zz139 : Hp := setR zz138 45 8 51
theorem zf139 : Fz zz139 := Fz.setR zf138 (by decide +kernel) (by decide)
def zz140 : Hp := newC zz139 11 6
theorem zf140 : Fz zz140 := Fz.new zf139
def zz141 : Hp := setR zz140 45 9 52
theorem zf141 : Fz zz141 := Fz.setR zf140 (by decide +kernel) (by decide)
def zz142 : Hp := setI zz141 45 10 (0)
theorem zf142 : Fz zz142 := Fz.setI zf141
def zz143 : Hp := newC zz142 11 100
theorem zf143 : Fz zz143 := Fz.new zf142
def zz144 : Hp := setR zz143 45 11 53
theorem zf144 : Fz zz144 := Fz.setR zf143 (by decide +kernel) (by decide)
def zz145 : Hp := rowI zz144 53 (fillR (zz144.2.2.2.1 53) 100 (-1))
theorem zf145 : Fz zz145 := Fz.rowI zf144
def zz146 : Hp := setR zz145 34 1 45
theorem zf146 : Fz zz146 := Fz.setR zf145 (by decide +kernel) (by decide)
def zz147 : Hp := newC zz146 8 0
theorem zf147 : Fz zz147 := Fz.new zf146
def zz148 : Hp := newC zz147 11 160
theorem zf148 : Fz zz148 := Fz.new zf147
def zz149 : Hp := setR zz148 54 0 55
theorem zf149 : Fz zz149 := Fz.setR zf148 (by decide +kernel) (by decide)
def zz150 : Hp := setI zz149 54 1 (0)
theorem zf150 : Fz zz150 := Fz.setI zf149
def zz151 : Hp := setR zz150 0 9 54
theorem zf151 : Fz zz151 := Fz.setR zf150 (by decide +kernel) (by decide)
def zz152 : Hp := newC zz151 4 0
theorem zf152 : Fz zz152 := Fz.new zf151
def zz153 : Hp := newC zz152 7 0
theorem zf153 : Fz zz153 := Fz.new zf152
def zz154 : Hp := newC zz153 11 7
theorem zf154 : Fz zz154 := Fz.new zf153
def zz155 : Hp := setR zz154 57 0 58
theorem zf155 : Fz zz155 := Fz.setR zf154 (by decide +kernel) (by decide)
def zz156 : Hp := newC zz155 11 7
theorem zf156 : Fz zz156 := Fz.new zf155
def zz157 : Hp := setR zz156 57 1 59
theorem zf157 : Fz zz157 := Fz.setR zf156 (by decide +kernel) (by decide)
def zz158 : Hp := setI zz157 57 2 (0)
theorem zf158 : Fz zz158 := Fz.setI zf157
def zz159 : Hp := newC zz158 11 4
theorem zf159 : Fz zz159 := Fz.new zf158
def zz160 : Hp := setR zz159 57 3 60
theorem zf160 : Fz zz160 := Fz.setR zf159 (by decide +kernel) (by decide)
def zz161 : Hp := setI zz160 57 4 (0)
theorem zf161 : Fz zz161 := Fz.setI zf160
def zz162 : Hp := newC zz161 11 4
theorem zf162 : Fz zz162 := Fz.new zf161
def zz163 : Hp := setR zz162 57 5 61
theorem zf163 : Fz zz163 := Fz.setR zf162 (by decide +kernel) (by decide)
def zz164 : Hp := newC zz163 11 4
theorem zf164 : Fz zz164 := Fz.new zf163
def zz165 : Hp := setR zz164 57 6 62
theorem zf165 : Fz zz165 := Fz.setR zf164 (by decide +kernel) (by decide)
def zz166 : Hp := setI zz165 57 7 (0)
theorem zf166 : Fz zz166 := Fz.setI zf165
def zz167 : Hp := newC zz166 11 6
theorem zf167 : Fz zz167 := Fz.new zf166
def zz168 : Hp := setR zz167 57 8 63
theorem zf168 : Fz zz168 := Fz.setR zf167 (by decide +kernel) (by decide)
def zz169 : Hp := newC zz168 11 6
theorem zf169 : Fz zz169 := Fz.new zf168
def zz170 : Hp := setR zz169 57 9 64
theorem zf170 : Fz zz170 := Fz.setR zf169 (by decide +kernel) (by decide)
def zz171 : Hp := setI zz170 57 10 (0)
theorem zf171 : Fz zz171 := Fz.setI zf170
def zz172 : Hp := newC zz171 11 100
theorem zf172 : Fz zz172 := Fz.new zf171
def zz173 : Hp := setR zz172 57 11 65
theorem zf173 : Fz zz173 := Fz.setR zf172 (by decide +kernel) (by decide)
def zz174 : Hp := rowI zz173 65 (fillR (zz173.2.2.2.1 65) 100 (-1))
theorem zf174 : Fz zz174 := Fz.rowI zf173
def zz175 : Hp := setR zz174 56 0 57
theorem zf175 : Fz zz175 := Fz.setR zf174 (by decide +kernel) (by decide)
def zz176 : Hp := setI zz175 56 1 (0)
theorem zf176 : Fz zz176 := Fz.setI zf175
def zz177 : Hp := setI zz176 56 3 (0)
theorem zf177 : Fz zz177 := Fz.setI zf176
def zz178 : Hp := setI zz177 56 4 (4)
theorem zf178 : Fz zz178 := Fz.setI zf177
def zz179 : Hp := setI zz178 56 5 (0)
theorem zf179 : Fz zz179 := Fz.setI zf178
def zz180 : Hp := setI zz179 56 6 (0)
theorem zf180 : Fz zz180 := Fz.setI zf179
def zz181 : Hp := setI zz180 56 7 (0)
theorem zf181 : Fz zz181 := Fz.setI zf180
def zz182 : Hp := setR zz181 56 2 54
theorem zf182 : Fz zz182 := Fz.setR zf181 (by decide +kernel) (by decide)
def zz183 : Hp := setR zz182 0 10 56
theorem zf183 : Fz zz183 := Fz.setR zf182 (by decide +kernel) (by decide)
def zz184 : Hp := setI zz183 0 11 (0)
theorem zf184 : Fz zz184 := Fz.setI zf183
def zz185 : Hp := newC zz184 15 4
theorem zf185 : Fz zz185 := Fz.new zf184
def zz186 : Hp := setR zz185 0 12 66
theorem zf186 : Fz zz186 := Fz.setR zf185 (by decide +kernel) (by decide)
def zz187 : Hp := newC zz186 6 0
theorem zf187 : Fz zz187 := Fz.new zf186
def zz188 : Hp := setI zz187 67 0 (-1)
theorem zf188 : Fz zz188 := Fz.setI zf187
def zz189 : Hp := setI zz188 67 1 (0)
theorem zf189 : Fz zz189 := Fz.setI zf188
def zz190 : Hp := newC zz189 11 40
theorem zf190 : Fz zz190 := Fz.new zf189
def zz191 : Hp := setR zz190 67 2 68
theorem zf191 : Fz zz191 := Fz.setR zf190 (by decide +kernel) (by decide)
def zz192 : Hp := setR zz191 66 0 67
theorem zf192 : Fz zz192 := Fz.setR zf191 (by decide +kernel) (by decide)
def zz193 : Hp := newC zz192 6 0
theorem zf193 : Fz zz193 := Fz.new zf192
def zz194 : Hp := setI zz193 69 0 (-1)
theorem zf194 : Fz zz194 := Fz.setI zf193
def zz195 : Hp := setI zz194 69 1 (0)
theorem zf195 : Fz zz195 := Fz.setI zf194
def zz196 : Hp := newC zz195 11 40
theorem zf196 : Fz zz196 := Fz.new zf195
def zz197 : Hp := setR zz196 69 2 70
theorem zf197 : Fz zz197 := Fz.setR zf196 (by decide +kernel) (by decide)
def zz198 : Hp := setR zz197 66 1 69
theorem zf198 : Fz zz198 := Fz.setR zf197 (by decide +kernel) (by decide)
def zz199 : Hp := newC zz198 6 0
theorem zf199 : Fz zz199 := Fz.new zf198
def zz200 : Hp := setI zz199 71 0 (-1)
theorem zf200 : Fz zz200 := Fz.setI zf199
def zz201 : Hp := setI zz200 71 1 (0)
theorem zf201 : Fz zz201 := Fz.setI zf200
def zz202 : Hp := newC zz201 11 40
theorem zf202 : Fz zz202 := Fz.new zf201
def zz203 : Hp := setR zz202 71 2 72
theorem zf203 : Fz zz203 := Fz.setR zf202 (by decide +kernel) (by decide)
def zz204 : Hp := setR zz203 66 2 71
theorem zf204 : Fz zz204 := Fz.setR zf203 (by decide +kernel) (by decide)
def zz205 : Hp := newC zz204 6 0
theorem zf205 : Fz zz205 := Fz.new zf204
def zz206 : Hp := setI zz205 73 0 (-1)
theorem zf206 : Fz zz206 := Fz.setI zf205
def zz207 : Hp := setI zz206 73 1 (0)
theorem zf207 : Fz zz207 := Fz.setI zf206
def zz208 : Hp := newC zz207 11 40
theorem zf208 : Fz zz208 := Fz.new zf207
def zz209 : Hp := setR zz208 73 2 74
theorem zf209 : Fz zz209 := Fz.setR zf208 (by decide +kernel) (by decide)
def zz210 : Hp := setR zz209 66 3 73
theorem zf210 : Fz zz210 := Fz.setR zf209 (by decide +kernel) (by decide)
def zz211 : Hp := setI zz210 0 13 (0)
theorem zf211 : Fz zz211 := Fz.setI zf210
def zz212 : Hp := newC zz211 10 0
theorem zf212 : Fz zz212 := Fz.new zf211
def zz213 : Hp := newC zz212 11 205
theorem zf213 : Fz zz213 := Fz.new zf212
def zz214 : Hp := setR zz213 75 0 76
theorem zf214 : Fz zz214 := Fz.setR zf213 (by decide +kernel) (by decide)
def zz215 : Hp := newC zz214 11 41
theorem zf215 : Fz zz215 := Fz.new zf214
def zz216 : Hp := setR zz215 75 2 77
theorem zf216 : Fz zz216 := Fz.setR zf215 (by decide +kernel) (by decide)
def zz217 : Hp := newC zz216 11 160
theorem zf217 : Fz zz217 := Fz.new zf216
def zz218 : Hp := setR zz217 75 5 78
theorem zf218 : Fz zz218 := Fz.setR zf217 (by decide +kernel) (by decide)
def zz219 : Hp := newC zz218 11 8
theorem zf219 : Fz zz219 := Fz.new zf218
def zz220 : Hp := setI zz219 79 0 (0)
theorem zf220 : Fz zz220 := Fz.setI zf219
def zz221 : Hp := setI zz220 79 1 (5)
theorem zf221 : Fz zz221 := Fz.setI zf220
def zz222 : Hp := setI zz221 79 2 (8)
theorem zf222 : Fz zz222 := Fz.setI zf221
def zz223 : Hp := setI zz222 79 3 (13)
theorem zf223 : Fz zz223 := Fz.setI zf222
def zz224 : Hp := setI zz223 79 4 (17)
theorem zf224 : Fz zz224 := Fz.setI zf223
def zz225 : Hp := setI zz224 79 5 (20)
theorem zf225 : Fz zz225 := Fz.setI zf224
def zz226 : Hp := setI zz225 79 6 (24)
theorem zf226 : Fz zz226 := Fz.setI zf225
def zz227 : Hp := setI zz226 79 7 (28)
theorem zf227 : Fz zz227 := Fz.setI zf226
def zz228 : Hp := setR zz227 75 14 79
theorem zf228 : Fz zz228 := Fz.setR zf227 (by decide +kernel) (by decide)
def zz229 : Hp := newC zz228 11 28
theorem zf229 : Fz zz229 := Fz.new zf228
def zz230 : Hp := setI zz229 80 0 (112)
theorem zf230 : Fz zz230 := Fz.setI zf229
def zz231 : Hp := setI zz230 80 1 (108)
theorem zf231 : Fz zz231 := Fz.setI zf230
def zz232 : Hp := setI zz231 80 2 (97)
theorem zf232 : Fz zz232 := Fz.setI zf231
def zz233 : Hp := setI zz232 80 3 (105)
theorem zf233 : Fz zz233 := Fz.setI zf232
def zz234 : Hp := setI zz233 80 4 (110)
theorem zf234 : Fz zz234 := Fz.setI zf233
def zz235 : Hp := setI zz234 80 5 (102)
theorem zf235 : Fz zz235 := Fz.setI zf234
def zz236 : Hp := setI zz235 80 6 (97)
theorem zf236 : Fz zz236 := Fz.setI zf235
def zz237 : Hp := setI zz236 80 7 (116)
theorem zf237 : Fz zz237 := Fz.setI zf236
def zz238 : Hp := setI zz237 80 8 (121)
theorem zf238 : Fz zz238 := Fz.setI zf237
def zz239 : Hp := setI zz238 80 9 (111)
theorem zf239 : Fz zz239 := Fz.setI zf238
def zz240 : Hp := setI zz239 80 10 (117)
theorem zf240 : Fz zz240 := Fz.setI zf239
def zz241 : Hp := setI zz240 80 11 (110)
theorem zf241 : Fz zz241 := Fz.setI zf240
def zz242 : Hp := setI zz241 80 12 (103)
theorem zf242 : Fz zz242 := Fz.setI zf241
def zz243 : Hp := setI zz242 80 13 (98)
theorem zf243 : Fz zz243 := Fz.setI zf242
def zz244 : Hp := setI zz243 80 14 (111)
theorem zf244 : Fz zz244 := Fz.setI zf243
def zz245 : Hp := setI zz244 80 15 (97)
theorem zf245 : Fz zz245 := Fz.setI zf244
def zz246 : Hp := setI zz245 80 16 (114)
theorem zf246 : Fz zz246 := Fz.setI zf245
def zz247 : Hp := setI zz246 80 17 (112)
theorem zf247 : Fz zz247 := Fz.setI zf246
def zz248 : Hp := setI zz247 80 18 (101)
theorem zf248 : Fz zz248 := Fz.setI zf247
def zz249 : Hp := setI zz248 80 19 (103)
theorem zf249 : Fz zz249 := Fz.setI zf248
def zz250 : Hp := setI zz249 80 20 (115)
theorem zf250 : Fz zz250 := Fz.setI zf249
def zz251 : Hp := setI zz250 80 21 (108)
theorem zf251 : Fz zz251 := Fz.setI zf250
def zz252 : Hp := setI zz251 80 22 (117)
theorem zf252 : Fz zz252 := Fz.setI zf251
def zz253 : Hp := setI zz252 80 23 (103)
theorem zf253 : Fz zz253 := Fz.setI zf252
def zz254 : Hp := setI zz253 80 24 (115)
theorem zf254 : Fz zz254 := Fz.setI zf253
def zz255 : Hp := setI zz254 80 25 (117)
theorem zf255 : Fz zz255 := Fz.setI zf254
def zz256 : Hp := setI zz255 80 26 (105)
theorem zf256 : Fz zz256 := Fz.setI zf255
def zz257 : Hp := setI zz256 80 27 (116)
theorem zf257 : Fz zz257 := Fz.setI zf256
def zz258 : Hp := setR zz257 75 15 80
theorem zf258 : Fz zz258 := Fz.setR zf257 (by decide +kernel) (by decide)
def zz259 : Hp := newC zz258 11 10
theorem zf259 : Fz zz259 := Fz.new zf258
def zz260 : Hp := setR zz259 75 20 81
theorem zf260 : Fz zz260 := Fz.setR zf259 (by decide +kernel) (by decide)
def zz261 : Hp := newC zz260 11 18
theorem zf261 : Fz zz261 := Fz.new zf260
def zz262 : Hp := setR zz261 75 21 82
theorem zf262 : Fz zz262 := Fz.setR zf261 (by decide +kernel) (by decide)
def zz263 : Hp := newC zz262 11 80
theorem zf263 : Fz zz263 := Fz.new zf262
def zz264 : Hp := setR zz263 75 23 83
theorem zf264 : Fz zz264 := Fz.setR zf263 (by decide +kernel) (by decide)
def zz265 : Hp := newC zz264 12 2
theorem zf265 : Fz zz265 := Fz.new zf264
def zz266 : Hp := setR zz265 75 24 84
theorem zf266 : Fz zz266 := Fz.setR zf265 (by decide +kernel) (by decide)
def zz267 : Hp := newC zz266 11 4
theorem zf267 : Fz zz267 := Fz.new zf266
def zz268 : Hp := setI zz267 85 0 (-4)
theorem zf268 : Fz zz268 := Fz.setI zf267
def zz269 : Hp := setI zz268 85 1 (-4)
theorem zf269 : Fz zz269 := Fz.setI zf268
def zz270 : Hp := setI zz269 85 2 (-4)
theorem zf270 : Fz zz270 := Fz.setI zf269
def zz271 : Hp := setI zz270 85 3 (-4)
theorem zf271 : Fz zz271 := Fz.setI zf270
def zz272 : Hp := setR zz271 75 25 85
theorem zf272 : Fz zz272 := Fz.setR zf271 (by decide +kernel) (by decide)
def zz273 : Hp := newC zz272 11 4
theorem zf273 : Fz zz273 := Fz.new zf272
def zz274 : Hp := setR zz273 75 26 86
theorem zf274 : Fz zz274 := Fz.setR zf273 (by decide +kernel) (by decide)
def zz275 : Hp := newC zz274 11 160
theorem zf275 : Fz zz275 := Fz.new zf274
def zz276 : Hp := setR zz275 75 27 87
theorem zf276 : Fz zz276 := Fz.setR zf275 (by decide +kernel) (by decide)
