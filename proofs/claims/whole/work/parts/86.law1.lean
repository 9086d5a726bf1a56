/-! THE CLAIM OUT OF ONE WALK OF THE LAW'S BODY. Your part is whole_start (and what it stands on); all else here is the same for every law, but numbers. -/
def R_law : String := "HedgehogLotsLaw"
def lw_P (b : Addr) (xs : List Int32) (args : Array Value) (s : State) : Prop := args = #[.ref b] ∧ s.IntsAt b xs ∧ xs.length ≤ 3072 ∧ (Jvm.Cond.and given_1 narrow_1).before args s = true
def lw_Q (_ : Array Value) (s : State) (o : Outcome) (t : State) : Prop := o = .returned (some (.int 1)) ∧ Framed s o t [] 600000 7302250
def lw_Z (below : List Frame) (a : Array Value) (s : State) : State → Prop := fun t => ∃ o, t.status = .running ∧ Ended t below o ∧ lw_Q a s o t
/-- the law's own end, with 1 on the stack, nothing written that was there before, its room as the claim has it -/
theorem lw_ret {p : Program} {l : Launch} {e : Env} {s : State} {m : MethodId} {below : List Frame} {meth : Method} {c : Code} {b : Nat} (hx : p.tables.exec = Jvm.exec) (hb : c.code = code) (hr : meth.sig.returnType = ret) (hlocks : meth.locks = false) {pc : Nat} {H : Heap} {ls : Array Slot} (hdg : decode code pc = .ok (.ireturn, 1)) : W p l e room_1 s m #[Value.ref b] below meth c H [] 600000 7302250 (lw_Z below #[Value.ref b] s) (F0 m pc ls [.int 1]) := by
  intro T hT X
  obtain ⟨fs, hret, hrun, hended, hW, hframe⟩ := X.leave (v := some (.int 1)) (hlocks := hlocks) (fun h => by rw [hr] at h; cases h)
  have hmeth' : T.vm.method? m = some meth := X.method'
  refine ⟨T.setFrames fs, ?_, .returned (some (.int 1)), hrun, hended, rfl, ⟨_, rfl⟩, hW, hframe⟩
  jvm_step X.here [X.here.top, hx, hb, hdg, hmeth', hr, ret, narrow_b1]
  (try refine ⟨rfl, ?_⟩); (try refine ⟨rfl, ?_⟩)
  first | (intro acts; rw [hret _ acts rfl rfl rfl]) | rw [hret _ _ rfl rfl rfl]
  exact Steps.refl _
/-- what holds at the law's entry: the machine, the code, the tables' words (any of lw_tbl by 'hts w (by decide +kernel)'), the script of L ints xs at the cell b, what the Statement gives of the start (any of its parts by flat_of_before) -/
def lw_At (p : Program) (s : State) (m : MethodId) (meth : Method) (c : Code) (b L : Nat) (xs : Nat → Int32) : Prop :=
  p.tables.exec = Jvm.exec ∧ c.code = code ∧ meth.sig.returnType = ret ∧ c.maxLocals = 4 ∧ s.vm.findClass R_law = some m.cls ∧ (∀ w ∈ lw_tbl, w.before #[Value.ref b] s = true) ∧ va_X b L xs s s.heap ∧ b < s.heap.size ∧ meth.locks = false ∧ (Jvm.Cond.and given_1 narrow_1).before #[Value.ref b] s = true
/-! the law's own frame: its script lies outside of the cells that are made: local 0 is .retAddr 998 -/
def M_law : Ms := (yL_law, cL_law, 4, some .boolean, 11, 388, 600000, 7302250)
def LX (b N : Nat) (xs : Nat → Int32) (s : State) (sv : Nat → Value) (B0 : Nat) : Prop := va_X b N xs s s.heap ∧ b < s.heap.size ∧ B0 = s.heap.size ∧ sv 998 = .ref b
def GoL (N : Nat) (xs : Nat → Int32) (kc ks pc : Nat) (L : List (Option Value)) (st : List Value) (h : Hp) : Prop :=
  ∀ (p : Program) (l : Launch) (e : Env) (s : State) (m : MethodId) (b : Nat) (below : List Frame) (meth : Method) (c : Code) (D : va_G) (ca : Nat → ClassId) (sv : Nat → Value) (B0 : Nat), OK M_law p (mRoom M_law) s m #[Value.ref b] meth c D ca sv B0 → LX b N xs s sv B0 →
    Go0 p l e (mRoom M_law) s m #[Value.ref b] below meth c D ca sv B0 (mL M_law) (lw_Z below #[Value.ref b] s) kc ks pc L st h
theorem GoL.st {N : Nat} {xs : Nat → Int32} {kc1 ks1 pc1 : Nat} {L1 : List (Option Value)} {st1 : List Value} {h1 : Hp} {kc ks pc : Nat} {L : List (Option Value)} {st : List Value} {h : Hp} (x : St M_law kc1 ks1 pc1 L1 st1 h1 kc ks pc L st h) (k : GoL N xs kc1 ks1 pc1 L1 st1 h1) : GoL N xs kc ks pc L st h :=
  fun p l e s m b below meth c D ca sv B0 ok lx => x p l e _ s m _ below meth c D ca sv B0 _ ok (k p l e s m b below meth c D ca sv B0 ok lx)
theorem GoL.br {N : Nat} {xs : Nat → Int32} {c0 : Prop} {pcT pcF : Nat} {L1 : List (Option Value)} {st1 : List Value} {kc ks pc : Nat} {L : List (Option Value)} {st : List Value} {h : Hp} (x : Br M_law c0 pcT pcF L1 st1 kc ks pc L st h) (k1 : c0 → GoL N xs kc ks pcT L1 st1 h) (k2 : ¬ c0 → GoL N xs kc ks pcF L1 st1 h) : GoL N xs kc ks pc L st h :=
  fun p l e s m b below meth c D ca sv B0 ok lx => x p l e _ s m _ below meth c D ca sv B0 _ ok (fun hc => k1 hc p l e s m b below meth c D ca sv B0 ok lx) (fun hc => k2 hc p l e s m b below meth c D ca sv B0 ok lx)
theorem gl_a0 {N : Nat} {xs : Nat → Int32} {kc ks pc pc1 : Nat} {L : List (Option Value)} {st : List Value} {h : Hp} (hd : decode cL_law pc = .ok (.aload_n 0, 1)) (hp : pc + 1 = pc1) (hL : L[0]? = some (some (.retAddr 998))) (k : GoL N xs kc ks pc1 L (.retAddr 998 :: st) h) : GoL N xs kc ks pc L st h := by
  subst hp
  intro p l e s m b below meth c D ca sv B0 ok lx H locs ls hP hS hl hz
  have hh := hl.2.2 0 _ hL
  rw [show ph B0 sv (.retAddr 998) = .ref b from lx.2.2.2] at hh
  refine lv_aload_n ok.1 ok.2.1 hd rfl hh ?_
  have := k p l e s m b below meth c D ca sv B0 ok lx H locs ls hP hS hl hz
  rw [show (Value.retAddr 998 :: st).map (ph B0 sv) = Value.ref b :: st.map (ph B0 sv) by simp [ph, lx.2.2.2]] at this
  exact this
theorem gl_len {N : Nat} {xs : Nat → Int32} {kc ks pc pc1 : Nat} {L : List (Option Value)} {st : List Value} {h : Hp} (hd : decode cL_law pc = .ok (.arraylength, 1)) (hp : pc + 1 = pc1) (k : GoL N xs kc ks pc1 L (.int (nI N) :: st) h) : GoL N xs kc ks pc L (.retAddr 998 :: st) h := by
  subst hp
  intro p l e s m b below meth c D ca sv B0 ok lx H locs ls hP hS hl hz
  obtain ⟨l1, l2, l3, l4⟩ := id lx
  rw [show (Value.retAddr 998 :: st).map (ph B0 sv) = Value.ref b :: st.map (ph B0 sv) by simp [ph, l4]]
  exact va_slen ok.1 ok.2.1 l1 l2 (by show ¬ B0 ≤ b; omega) hS hd (k p l e s m b below meth c D ca sv B0 ok lx H locs ls hP hS hl hz)
theorem gl_ld {N : Nat} {xs : Nat → Int32} {kc ks pc pc1 : Nat} {L : List (Option Value)} {st : List Value} {h : Hp} {i : Int32} (hd : decode cL_law pc = .ok (.iaload, 1)) (hp : pc + 1 = pc1) (hi : vp_in i N) (k : GoL N xs kc ks pc1 L (.int (xs i.toNatClampNeg) :: st) h) : GoL N xs kc ks pc L (.int i :: .retAddr 998 :: st) h := by
  subst hp
  intro p l e s m b below meth c D ca sv B0 ok lx H locs ls hP hS hl hz
  obtain ⟨l1, l2, l3, l4⟩ := id lx
  rw [show (Value.int i :: Value.retAddr 998 :: st).map (ph B0 sv) = Value.int i :: Value.ref b :: st.map (ph B0 sv) by simp [ph, l4]]
  exact va_sld ok.1 ok.2.1 l1 l2 (by show ¬ B0 ≤ b; omega) hS hi hd (k p l e s m b below meth c D ca sv B0 ok lx H locs ls hP hS hl hz)
theorem gl_end {N : Nat} {xs : Nat → Int32} {kc ks pc : Nat} {L : List (Option Value)} {h : Hp} (hd : decode cL_law pc = .ok (.ireturn, 1)) (hkc : kc ≤ 600000) (hks : ks ≤ 7302250) : GoL N xs kc ks pc L [.int 1] h := by
  intro p l e s m b below meth c D ca sv B0 ok lx H locs ls hP hS hl hz
  obtain ⟨l1, l2, l3, l4⟩ := id lx
  refine va_forget (fun q hq => ?_) (W.widen hkc hks ?_)
  · have := hS.2.2 q hq
    rw [← l3]
    exact this
  · exact lw_ret ok.1 ok.2.1 ok.2.2.2.2.2.2.2.1 ok.2.2.2.2.2.2.2.2.1 hd
/-- script[i + j] -/
theorem gl_arg {N i j : Nat} {xs : Nat → Int32} {kc ks pc pc1 pc2 pc3 pc4 pc5 : Nat} {L : List (Option Value)} {st : List Value} {h : Hp} {n : Int} (d1 : decode cL_law pc = .ok (.aload_n 0, 1)) (d2 : decode cL_law pc1 = .ok (.iload_n 3, 1)) (d3 : decode cL_law pc2 = .ok (.iconst n, 1)) (d4 : decode cL_law pc3 = .ok (.iadd, 1)) (d5 : decode cL_law pc4 = .ok (.iaload, 1)) (hv : Int32.ofInt n = nI j) (h1 : pc + 1 = pc1) (h2 : pc1 + 1 = pc2) (h3 : pc2 + 1 = pc3) (h4 : pc3 + 1 = pc4) (h5 : pc4 + 1 = pc5) (hL0 : L[0]? = some (some (.retAddr 998))) (hL3 : L[3]? = some (some (.int (nI i)))) (hi : i + j < N) (hN : N ≤ 3072)
    (k : GoL N xs kc ks pc5 L (.int (xs (i + j)) :: st) h) : GoL N xs kc ks pc L st h := by
  refine gl_a0 d1 h1 hL0 ?_
  refine GoL.st (r_iload_n (i := 3) d2 h2 rfl hL3) ?_
  refine GoL.st (r_iconst (v := nI j) d3 h3 hv) ?_
  refine GoL.st (r_iadd d4 h4) ?_
  rw [nI_add]
  refine gl_ld d5 h5 (vp_in_nI hi (by omega)) ?_
  rw [nI_clamp (by omega)]
  exact k
def LL (i : Nat) : List (Option Value) := [some (.retAddr 998), some (.ref 0), some (.ref 75), some (.int (nI i))]
theorem lg_refl (r : Int64) : lg_cmp r r = 0 := by
  unfold lg_cmp
  rw [if_neg (show ¬ r > r from Int64.lt_irrefl), if_pos rfl]
theorem lt_end6 : ∀ N, N < 6 → ((nI N - 6).toInt = (N : Int) - 6) := by decide +kernel
theorem lt_end (N : Nat) (h : N < 3073) : (nI N - 6).toInt = (N : Int) - 6 := by
  by_cases h6 : N < 6
  · exact lt_end6 N h6
  · rw [show (6 : Int32) = nI 6 from rfl, nI_sub (by omega), nI_toInt (by omega)]
    omega
theorem and63 (v : Int32) : ∃ n, n < 64 ∧ v &&& (63 : Int32) = nI n := by
  refine ⟨(v.toBitVec &&& 63#32).toNat, ?_, ?_⟩
  · rw [BitVec.toNat_and]
    exact Nat.lt_of_le_of_lt Nat.and_le_right (by decide)
  · apply Int32.toBitVec_inj.mp
    rw [Int32.toBitVec_and]
    show _ = BitVec.ofNat 32 _
    rw [BitVec.ofNat_toNat, BitVec.setWidth_eq]
    rfl
