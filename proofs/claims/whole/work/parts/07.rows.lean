section CoreRows
theorem r_iconst {M : Ms} {kc ks pc pc1 : Nat} {L : List (Option Value)} {st : List Value} {h : Hp} {n : Int} {v : Int32} (hd : decode (mC M) pc = .ok (.iconst n, 1)) (hp : pc + 1 = pc1) (hv : Int32.ofInt n = v) : St M kc ks pc1 L (.int v :: st) h kc ks pc L st h := by
  subst hp
  intro p l e R s m args below meth c D ca sv B0 Z ok k H locs ls hP hS hl hz
  exact lv_iconst ok.1 ok.2.1 hd hv (k H locs ls hP hS hl hz)
theorem r_bipush {M : Ms} {kc ks pc pc1 : Nat} {L : List (Option Value)} {st : List Value} {h : Hp} {n : Int} {v : Int32} (hd : decode (mC M) pc = .ok (.bipush n, 2)) (hp : pc + 2 = pc1) (hv : (Int8.ofInt n).toInt32 = v) : St M kc ks pc1 L (.int v :: st) h kc ks pc L st h := by
  subst hp
  intro p l e R s m args below meth c D ca sv B0 Z ok k H locs ls hP hS hl hz
  exact lv_bipush ok.1 ok.2.1 hd hv (k H locs ls hP hS hl hz)
theorem r_sipush {M : Ms} {kc ks pc pc1 : Nat} {L : List (Option Value)} {st : List Value} {h : Hp} {n : Int} {v : Int32} (hd : decode (mC M) pc = .ok (.sipush n, 3)) (hp : pc + 3 = pc1) (hv : (Int16.ofInt n).toInt32 = v) : St M kc ks pc1 L (.int v :: st) h kc ks pc L st h := by
  subst hp
  intro p l e R s m args below meth c D ca sv B0 Z ok k H locs ls hP hS hl hz
  exact lv_sipush ok.1 ok.2.1 hd hv (k H locs ls hP hS hl hz)
theorem r_lconst {M : Ms} {kc ks pc pc1 : Nat} {L : List (Option Value)} {st : List Value} {h : Hp} {n : Fin 2} {v : Int64} (hd : decode (mC M) pc = .ok (.lconst n, 1)) (hp : pc + 1 = pc1) (hv : Int64.ofNat (n : Nat) = v) : St M kc ks pc1 L (.long v :: st) h kc ks pc L st h := by
  subst hp
  intro p l e R s m args below meth c D ca sv B0 Z ok k H locs ls hP hS hl hz
  exact lv_lconst ok.1 ok.2.1 hd hv (k H locs ls hP hS hl hz)
theorem r_ldc {M : Ms} {kc ks pc pc1 : Nat} {L : List (Option Value)} {st : List Value} {h : Hp} {ix : Nat} {v : Int32} (hd : decode (mC M) pc = .ok (.ldc ix, 2)) (hp : pc + 2 = pc1) (hw : Cond.constant (mY M).cls ix v ∈ TB) : St M kc ks pc1 L (.int v :: st) h kc ks pc L st h := by
  subst hp
  intro p l e R s m args below meth c D ca sv B0 Z ok k H locs ls hP hS hl hz
  exact lv_ldc ok.1 ok.2.1 ok.2.2.2.1 (ok.2.2.2.2.1 _ hw) hd (k H locs ls hP hS hl hz)
theorem r_ldcw {M : Ms} {kc ks pc pc1 : Nat} {L : List (Option Value)} {st : List Value} {h : Hp} {ix : Nat} {v : Int32} (hd : decode (mC M) pc = .ok (.ldc_w ix, 3)) (hp : pc + 3 = pc1) (hw : Cond.constant (mY M).cls ix v ∈ TB) : St M kc ks pc1 L (.int v :: st) h kc ks pc L st h := by
  subst hp
  intro p l e R s m args below meth c D ca sv B0 Z ok k H locs ls hP hS hl hz
  exact lv_ldcw ok.1 ok.2.1 ok.2.2.2.1 (ok.2.2.2.2.1 _ hw) hd (k H locs ls hP hS hl hz)
theorem r_ldc2 {M : Ms} {kc ks pc pc1 : Nat} {L : List (Option Value)} {st : List Value} {h : Hp} {ix : Nat} {v : Int64} (hd : decode (mC M) pc = .ok (.ldc2_w ix, 3)) (hp : pc + 3 = pc1) (hw : Cond.constantLong (mY M).cls ix v ∈ TB) : St M kc ks pc1 L (.long v :: st) h kc ks pc L st h := by
  subst hp
  intro p l e R s m args below meth c D ca sv B0 Z ok k H locs ls hP hS hl hz
  exact lv_ldc2 ok.1 ok.2.1 ok.2.2.2.1 (ok.2.2.2.2.1 _ hw) hd (k H locs ls hP hS hl hz)
theorem r_iload_n {M : Ms} {kc ks pc pc1 : Nat} {L : List (Option Value)} {st : List Value} {h : Hp} {q : Fin 4} {i : Nat} {x : Int32} (hd : decode (mC M) pc = .ok (.iload_n q, 1)) (hp : pc + 1 = pc1) (hi : (q : Nat) = i) (hL : L[i]? = some (some (.int x))) : St M kc ks pc1 L (.int x :: st) h kc ks pc L st h := by
  subst hp
  intro p l e R s m args below meth c D ca sv B0 Z ok k H locs ls hP hS hl hz
  exact lv_iload_n ok.1 ok.2.1 hd hi (hl.2.2 i _ hL) (k H locs ls hP hS hl hz)
theorem r_iload {M : Ms} {kc ks pc pc1 : Nat} {L : List (Option Value)} {st : List Value} {h : Hp} {i : Nat} {x : Int32} (hd : decode (mC M) pc = .ok (.iload i, 2)) (hp : pc + 2 = pc1) (hL : L[i]? = some (some (.int x))) : St M kc ks pc1 L (.int x :: st) h kc ks pc L st h := by
  subst hp
  intro p l e R s m args below meth c D ca sv B0 Z ok k H locs ls hP hS hl hz
  exact lv_iload ok.1 ok.2.1 hd (hl.2.2 i _ hL) (k H locs ls hP hS hl hz)
theorem r_istore_n {M : Ms} {kc ks pc pc1 : Nat} {L : List (Option Value)} {st : List Value} {h : Hp} {q : Fin 4} {i : Nat} {x : Int32} {L1 : List (Option Value)} (hd : decode (mC M) pc = .ok (.istore_n q, 1)) (hp : pc + 1 = pc1) (hi : (q : Nat) = i) (hn : i < mL M) (hL : lset L i (.int x) = L1) : St M kc ks pc1 L1 st h kc ks pc L (.int x :: st) h := by
  subst hp
  intro p l e R s m args below meth c D ca sv B0 Z ok k H locs ls hP hS hl hz
  exact lv_istore_n ok.1 ok.2.1 hd hi hl.has hn rfl (fun ls1 hl1 => k H locs ls1 hP hS (hL ▸ Lc.set1 (v := .int x) ok.2.2.2.2.2.1.2.2.2.2.1 hl1) hz)
theorem r_istore {M : Ms} {kc ks pc pc1 : Nat} {L : List (Option Value)} {st : List Value} {h : Hp} {i : Nat} {x : Int32} {L1 : List (Option Value)} (hd : decode (mC M) pc = .ok (.istore i, 2)) (hp : pc + 2 = pc1) (hn : i < mL M) (hL : lset L i (.int x) = L1) : St M kc ks pc1 L1 st h kc ks pc L (.int x :: st) h := by
  subst hp
  intro p l e R s m args below meth c D ca sv B0 Z ok k H locs ls hP hS hl hz
  exact lv_istore ok.1 ok.2.1 hd hl.has hn rfl (fun ls1 hl1 => k H locs ls1 hP hS (hL ▸ Lc.set1 (v := .int x) ok.2.2.2.2.2.1.2.2.2.2.1 hl1) hz)
theorem r_lload_n {M : Ms} {kc ks pc pc1 : Nat} {L : List (Option Value)} {st : List Value} {h : Hp} {q : Fin 4} {i : Nat} {x : Int64} (hd : decode (mC M) pc = .ok (.lload_n q, 1)) (hp : pc + 1 = pc1) (hi : (q : Nat) = i) (hL : L[i]? = some (some (.long x))) : St M kc ks pc1 L (.long x :: st) h kc ks pc L st h := by
  subst hp
  intro p l e R s m args below meth c D ca sv B0 Z ok k H locs ls hP hS hl hz
  exact lv_lload_n ok.1 ok.2.1 hd hi (hl.2.2 i _ hL) (k H locs ls hP hS hl hz)
theorem r_lload {M : Ms} {kc ks pc pc1 : Nat} {L : List (Option Value)} {st : List Value} {h : Hp} {i : Nat} {x : Int64} (hd : decode (mC M) pc = .ok (.lload i, 2)) (hp : pc + 2 = pc1) (hL : L[i]? = some (some (.long x))) : St M kc ks pc1 L (.long x :: st) h kc ks pc L st h := by
  subst hp
  intro p l e R s m args below meth c D ca sv B0 Z ok k H locs ls hP hS hl hz
  exact lv_lload ok.1 ok.2.1 hd (hl.2.2 i _ hL) (k H locs ls hP hS hl hz)
theorem r_lstore_n {M : Ms} {kc ks pc pc1 : Nat} {L : List (Option Value)} {st : List Value} {h : Hp} {q : Fin 4} {i : Nat} {x : Int64} {L1 : List (Option Value)} (hd : decode (mC M) pc = .ok (.lstore_n q, 1)) (hp : pc + 1 = pc1) (hi : (q : Nat) = i) (hn : i + 1 < mL M) (hL : lset2 L i (.long x) = L1) : St M kc ks pc1 L1 st h kc ks pc L (.long x :: st) h := by
  subst hp
  intro p l e R s m args below meth c D ca sv B0 Z ok k H locs ls hP hS hl hz
  exact lv_lstore_n ok.1 ok.2.1 hd hi hl.has hn rfl (fun ls1 hl1 => k H locs ls1 hP hS (hL ▸ Lc.set2 (v := .long x) ok.2.2.2.2.2.1.2.2.2.2.1 hl1) hz)
theorem r_lstore {M : Ms} {kc ks pc pc1 : Nat} {L : List (Option Value)} {st : List Value} {h : Hp} {i : Nat} {x : Int64} {L1 : List (Option Value)} (hd : decode (mC M) pc = .ok (.lstore i, 2)) (hp : pc + 2 = pc1) (hn : i + 1 < mL M) (hL : lset2 L i (.long x) = L1) : St M kc ks pc1 L1 st h kc ks pc L (.long x :: st) h := by
  subst hp
  intro p l e R s m args below meth c D ca sv B0 Z ok k H locs ls hP hS hl hz
  exact lv_lstore ok.1 ok.2.1 hd hl.has hn rfl (fun ls1 hl1 => k H locs ls1 hP hS (hL ▸ Lc.set2 (v := .long x) ok.2.2.2.2.2.1.2.2.2.2.1 hl1) hz)
theorem r_aload_n {M : Ms} {kc ks pc pc1 : Nat} {L : List (Option Value)} {st : List Value} {h : Hp} {q : Fin 4} {i : Nat} {x : Nat} (hd : decode (mC M) pc = .ok (.aload_n q, 1)) (hp : pc + 1 = pc1) (hi : (q : Nat) = i) (hL : L[i]? = some (some (.ref x))) : St M kc ks pc1 L (.ref x :: st) h kc ks pc L st h := by
  subst hp
  intro p l e R s m args below meth c D ca sv B0 Z ok k H locs ls hP hS hl hz
  exact lv_aload_n ok.1 ok.2.1 hd hi (hl.2.2 i _ hL) (k H locs ls hP hS hl hz)
theorem r_aload {M : Ms} {kc ks pc pc1 : Nat} {L : List (Option Value)} {st : List Value} {h : Hp} {i : Nat} {x : Nat} (hd : decode (mC M) pc = .ok (.aload i, 2)) (hp : pc + 2 = pc1) (hL : L[i]? = some (some (.ref x))) : St M kc ks pc1 L (.ref x :: st) h kc ks pc L st h := by
  subst hp
  intro p l e R s m args below meth c D ca sv B0 Z ok k H locs ls hP hS hl hz
  exact lv_aload ok.1 ok.2.1 hd (hl.2.2 i _ hL) (k H locs ls hP hS hl hz)
theorem r_astore_n {M : Ms} {kc ks pc pc1 : Nat} {L : List (Option Value)} {st : List Value} {h : Hp} {q : Fin 4} {i : Nat} {x : Nat} {L1 : List (Option Value)} (hd : decode (mC M) pc = .ok (.astore_n q, 1)) (hp : pc + 1 = pc1) (hi : (q : Nat) = i) (hn : i < mL M) (hL : lset L i (.ref x) = L1) : St M kc ks pc1 L1 st h kc ks pc L (.ref x :: st) h := by
  subst hp
  intro p l e R s m args below meth c D ca sv B0 Z ok k H locs ls hP hS hl hz
  exact lv_astore_n ok.1 ok.2.1 hd hi hl.has hn rfl (fun ls1 hl1 => k H locs ls1 hP hS (hL ▸ Lc.set1 (v := .ref x) ok.2.2.2.2.2.1.2.2.2.2.1 hl1) hz)
theorem r_astore {M : Ms} {kc ks pc pc1 : Nat} {L : List (Option Value)} {st : List Value} {h : Hp} {i : Nat} {x : Nat} {L1 : List (Option Value)} (hd : decode (mC M) pc = .ok (.astore i, 2)) (hp : pc + 2 = pc1) (hn : i < mL M) (hL : lset L i (.ref x) = L1) : St M kc ks pc1 L1 st h kc ks pc L (.ref x :: st) h := by
  subst hp
  intro p l e R s m args below meth c D ca sv B0 Z ok k H locs ls hP hS hl hz
  exact lv_astore ok.1 ok.2.1 hd hl.has hn rfl (fun ls1 hl1 => k H locs ls1 hP hS (hL ▸ Lc.set1 (v := .ref x) ok.2.2.2.2.2.1.2.2.2.2.1 hl1) hz)
theorem r_iinc {M : Ms} {kc ks pc pc1 : Nat} {L : List (Option Value)} {st : List Value} {h : Hp} {i : Nat} {n : Int} {x v : Int32} {L1 : List (Option Value)} (hd : decode (mC M) pc = .ok (.iinc i n, 3)) (hp : pc + 3 = pc1) (hx : L[i]? = some (some (.int x))) (hv : x + Int32.ofInt n = v) (hn : i < mL M) (hL : lset L i (.int v) = L1) : St M kc ks pc1 L1 st h kc ks pc L st h := by
  subst hp
  intro p l e R s m args below meth c D ca sv B0 Z ok k H locs ls hP hS hl hz
  exact by
    obtain ⟨k0, hk0⟩ := List.getElem?_of_mem (toLv_in (B0 := B0) (sv := sv) hx)
    exact lv_iinc ok.1 ok.2.1 hd hl.has hk0 hv hn rfl (fun ls1 hl1 => k H locs ls1 hP hS (hL ▸ Lc.set1 (v := .int v) ok.2.2.2.2.2.1.2.2.2.2.1 hl1) hz)
theorem r_iadd {M : Ms} {kc ks pc pc1 : Nat} {L : List (Option Value)} {st : List Value} {h : Hp} {x y : Int32} (hd : decode (mC M) pc = .ok (.iadd, 1)) (hp : pc + 1 = pc1) : St M kc ks pc1 L (.int (x + y) :: st) h kc ks pc L (.int y :: .int x :: st) h := by
  subst hp
  intro p l e R s m args below meth c D ca sv B0 Z ok k H locs ls hP hS hl hz
  exact lv_iadd ok.1 ok.2.1 hd (k H locs ls hP hS hl hz)
theorem r_isub {M : Ms} {kc ks pc pc1 : Nat} {L : List (Option Value)} {st : List Value} {h : Hp} {x y : Int32} (hd : decode (mC M) pc = .ok (.isub, 1)) (hp : pc + 1 = pc1) : St M kc ks pc1 L (.int (x - y) :: st) h kc ks pc L (.int y :: .int x :: st) h := by
  subst hp
  intro p l e R s m args below meth c D ca sv B0 Z ok k H locs ls hP hS hl hz
  exact lv_isub ok.1 ok.2.1 hd (k H locs ls hP hS hl hz)
theorem r_imul {M : Ms} {kc ks pc pc1 : Nat} {L : List (Option Value)} {st : List Value} {h : Hp} {x y : Int32} (hd : decode (mC M) pc = .ok (.imul, 1)) (hp : pc + 1 = pc1) : St M kc ks pc1 L (.int (x * y) :: st) h kc ks pc L (.int y :: .int x :: st) h := by
  subst hp
  intro p l e R s m args below meth c D ca sv B0 Z ok k H locs ls hP hS hl hz
  exact lv_imul ok.1 ok.2.1 hd (k H locs ls hP hS hl hz)
theorem r_iand {M : Ms} {kc ks pc pc1 : Nat} {L : List (Option Value)} {st : List Value} {h : Hp} {x y : Int32} (hd : decode (mC M) pc = .ok (.iand, 1)) (hp : pc + 1 = pc1) : St M kc ks pc1 L (.int (x &&& y) :: st) h kc ks pc L (.int y :: .int x :: st) h := by
  subst hp
  intro p l e R s m args below meth c D ca sv B0 Z ok k H locs ls hP hS hl hz
  exact lv_iand ok.1 ok.2.1 hd (k H locs ls hP hS hl hz)
theorem r_ior {M : Ms} {kc ks pc pc1 : Nat} {L : List (Option Value)} {st : List Value} {h : Hp} {x y : Int32} (hd : decode (mC M) pc = .ok (.ior, 1)) (hp : pc + 1 = pc1) : St M kc ks pc1 L (.int (x ||| y) :: st) h kc ks pc L (.int y :: .int x :: st) h := by
  subst hp
  intro p l e R s m args below meth c D ca sv B0 Z ok k H locs ls hP hS hl hz
  exact lv_ior ok.1 ok.2.1 hd (k H locs ls hP hS hl hz)
theorem r_ixor {M : Ms} {kc ks pc pc1 : Nat} {L : List (Option Value)} {st : List Value} {h : Hp} {x y : Int32} (hd : decode (mC M) pc = .ok (.ixor, 1)) (hp : pc + 1 = pc1) : St M kc ks pc1 L (.int (x ^^^ y) :: st) h kc ks pc L (.int y :: .int x :: st) h := by
  subst hp
  intro p l e R s m args below meth c D ca sv B0 Z ok k H locs ls hP hS hl hz
  exact lv_ixor ok.1 ok.2.1 hd (k H locs ls hP hS hl hz)
theorem r_ishl {M : Ms} {kc ks pc pc1 : Nat} {L : List (Option Value)} {st : List Value} {h : Hp} {x y : Int32} (hd : decode (mC M) pc = .ok (.ishl, 1)) (hp : pc + 1 = pc1) : St M kc ks pc1 L (.int (x <<< (y &&& 31)) :: st) h kc ks pc L (.int y :: .int x :: st) h := by
  subst hp
  intro p l e R s m args below meth c D ca sv B0 Z ok k H locs ls hP hS hl hz
  exact lv_ishl ok.1 ok.2.1 hd (k H locs ls hP hS hl hz)
theorem r_ishr {M : Ms} {kc ks pc pc1 : Nat} {L : List (Option Value)} {st : List Value} {h : Hp} {x y : Int32} (hd : decode (mC M) pc = .ok (.ishr, 1)) (hp : pc + 1 = pc1) : St M kc ks pc1 L (.int (x >>> (y &&& 31)) :: st) h kc ks pc L (.int y :: .int x :: st) h := by
  subst hp
  intro p l e R s m args below meth c D ca sv B0 Z ok k H locs ls hP hS hl hz
  exact lv_ishr ok.1 ok.2.1 hd (k H locs ls hP hS hl hz)
theorem r_iushr {M : Ms} {kc ks pc pc1 : Nat} {L : List (Option Value)} {st : List Value} {h : Hp} {x y v : Int32} (hd : decode (mC M) pc = .ok (.iushr, 1)) (hp : pc + 1 = pc1) (hv : (x.toUInt32 >>> (y.toUInt32 &&& Int32.toUInt32 31)).toInt32 = v) : St M kc ks pc1 L (.int v :: st) h kc ks pc L (.int y :: .int x :: st) h := by
  subst hp
  intro p l e R s m args below meth c D ca sv B0 Z ok k H locs ls hP hS hl hz
  exact lv_iushr ok.1 ok.2.1 hd hv (k H locs ls hP hS hl hz)
theorem r_idiv {M : Ms} {kc ks pc pc1 : Nat} {L : List (Option Value)} {st : List Value} {h : Hp} {x y : Int32} (hd : decode (mC M) pc = .ok (.idiv, 1)) (hp : pc + 1 = pc1) (hne : ¬ y = 0) : St M kc ks pc1 L (.int (x / y) :: st) h kc ks pc L (.int y :: .int x :: st) h := by
  subst hp
  intro p l e R s m args below meth c D ca sv B0 Z ok k H locs ls hP hS hl hz
  exact lv_idiv ok.1 ok.2.1 hd hne (k H locs ls hP hS hl hz)
theorem r_irem {M : Ms} {kc ks pc pc1 : Nat} {L : List (Option Value)} {st : List Value} {h : Hp} {x y : Int32} (hd : decode (mC M) pc = .ok (.irem, 1)) (hp : pc + 1 = pc1) (hne : ¬ y = 0) : St M kc ks pc1 L (.int (x - x / y * y) :: st) h kc ks pc L (.int y :: .int x :: st) h := by
  subst hp
  intro p l e R s m args below meth c D ca sv B0 Z ok k H locs ls hP hS hl hz
  exact lv_irem ok.1 ok.2.1 hd hne (k H locs ls hP hS hl hz)
theorem r_ineg {M : Ms} {kc ks pc pc1 : Nat} {L : List (Option Value)} {st : List Value} {h : Hp} {x : Int32} (hd : decode (mC M) pc = .ok (.ineg, 1)) (hp : pc + 1 = pc1) : St M kc ks pc1 L (.int (-x) :: st) h kc ks pc L (.int x :: st) h := by
  subst hp
  intro p l e R s m args below meth c D ca sv B0 Z ok k H locs ls hP hS hl hz
  exact lv_ineg ok.1 ok.2.1 hd (k H locs ls hP hS hl hz)
theorem r_ladd {M : Ms} {kc ks pc pc1 : Nat} {L : List (Option Value)} {st : List Value} {h : Hp} {x y : Int64} (hd : decode (mC M) pc = .ok (.ladd, 1)) (hp : pc + 1 = pc1) : St M kc ks pc1 L (.long (x + y) :: st) h kc ks pc L (.long y :: .long x :: st) h := by
  subst hp
  intro p l e R s m args below meth c D ca sv B0 Z ok k H locs ls hP hS hl hz
  exact lv_ladd ok.1 ok.2.1 hd (k H locs ls hP hS hl hz)
theorem r_lsub {M : Ms} {kc ks pc pc1 : Nat} {L : List (Option Value)} {st : List Value} {h : Hp} {x y : Int64} (hd : decode (mC M) pc = .ok (.lsub, 1)) (hp : pc + 1 = pc1) : St M kc ks pc1 L (.long (x - y) :: st) h kc ks pc L (.long y :: .long x :: st) h := by
  subst hp
  intro p l e R s m args below meth c D ca sv B0 Z ok k H locs ls hP hS hl hz
  exact lv_lsub ok.1 ok.2.1 hd (k H locs ls hP hS hl hz)
theorem r_lmul {M : Ms} {kc ks pc pc1 : Nat} {L : List (Option Value)} {st : List Value} {h : Hp} {x y : Int64} (hd : decode (mC M) pc = .ok (.lmul, 1)) (hp : pc + 1 = pc1) : St M kc ks pc1 L (.long (x * y) :: st) h kc ks pc L (.long y :: .long x :: st) h := by
  subst hp
  intro p l e R s m args below meth c D ca sv B0 Z ok k H locs ls hP hS hl hz
  exact lv_lmul ok.1 ok.2.1 hd (k H locs ls hP hS hl hz)
theorem r_ldiv {M : Ms} {kc ks pc pc1 : Nat} {L : List (Option Value)} {st : List Value} {h : Hp} {x y : Int64} (hd : decode (mC M) pc = .ok (.ldiv, 1)) (hp : pc + 1 = pc1) (hne : ¬ y = 0) : St M kc ks pc1 L (.long (x / y) :: st) h kc ks pc L (.long y :: .long x :: st) h := by
  subst hp
  intro p l e R s m args below meth c D ca sv B0 Z ok k H locs ls hP hS hl hz
  exact lv_ldiv ok.1 ok.2.1 hd hne (k H locs ls hP hS hl hz)
theorem r_lrem {M : Ms} {kc ks pc pc1 : Nat} {L : List (Option Value)} {st : List Value} {h : Hp} {x y : Int64} (hd : decode (mC M) pc = .ok (.lrem, 1)) (hp : pc + 1 = pc1) (hne : ¬ y = 0) : St M kc ks pc1 L (.long (x - x / y * y) :: st) h kc ks pc L (.long y :: .long x :: st) h := by
  subst hp
  intro p l e R s m args below meth c D ca sv B0 Z ok k H locs ls hP hS hl hz
  exact lv_lrem ok.1 ok.2.1 hd hne (k H locs ls hP hS hl hz)
theorem r_lcmp {M : Ms} {kc ks pc pc1 : Nat} {L : List (Option Value)} {st : List Value} {h : Hp} {x y : Int64} (hd : decode (mC M) pc = .ok (.lcmp, 1)) (hp : pc + 1 = pc1) : St M kc ks pc1 L (.int (lg_cmp x y) :: st) h kc ks pc L (.long y :: .long x :: st) h := by
  subst hp
  intro p l e R s m args below meth c D ca sv B0 Z ok k H locs ls hP hS hl hz
  exact W.lcmp ok.1 ok.2.1 hd (k H locs ls hP hS hl hz)
theorem r_i2l {M : Ms} {kc ks pc pc1 : Nat} {L : List (Option Value)} {st : List Value} {h : Hp} {x : Int32} {v : Int64} (hd : decode (mC M) pc = .ok (.i2l, 1)) (hp : pc + 1 = pc1) (hv : x.toInt64 = v) : St M kc ks pc1 L (.long v :: st) h kc ks pc L (.int x :: st) h := by
  subst hp
  intro p l e R s m args below meth c D ca sv B0 Z ok k H locs ls hP hS hl hz
  exact lv_i2l ok.1 ok.2.1 hd hv (k H locs ls hP hS hl hz)
theorem r_l2i {M : Ms} {kc ks pc pc1 : Nat} {L : List (Option Value)} {st : List Value} {h : Hp} {x : Int64} {v : Int32} (hd : decode (mC M) pc = .ok (.l2i, 1)) (hp : pc + 1 = pc1) (hv : x.toInt32 = v) : St M kc ks pc1 L (.int v :: st) h kc ks pc L (.long x :: st) h := by
  subst hp
  intro p l e R s m args below meth c D ca sv B0 Z ok k H locs ls hP hS hl hz
  exact lv_l2i ok.1 ok.2.1 hd hv (k H locs ls hP hS hl hz)
theorem r_i2b {M : Ms} {kc ks pc pc1 : Nat} {L : List (Option Value)} {st : List Value} {h : Hp} {x v : Int32} (hd : decode (mC M) pc = .ok (.i2b, 1)) (hp : pc + 1 = pc1) (hv : x.toInt8.toInt32 = v) : St M kc ks pc1 L (.int v :: st) h kc ks pc L (.int x :: st) h := by
  subst hp
  intro p l e R s m args below meth c D ca sv B0 Z ok k H locs ls hP hS hl hz
  exact lv_i2b ok.1 ok.2.1 hd hv (k H locs ls hP hS hl hz)
theorem r_i2s {M : Ms} {kc ks pc pc1 : Nat} {L : List (Option Value)} {st : List Value} {h : Hp} {x v : Int32} (hd : decode (mC M) pc = .ok (.i2s, 1)) (hp : pc + 1 = pc1) (hv : x.toInt16.toInt32 = v) : St M kc ks pc1 L (.int v :: st) h kc ks pc L (.int x :: st) h := by
  subst hp
  intro p l e R s m args below meth c D ca sv B0 Z ok k H locs ls hP hS hl hz
  exact lv_i2s ok.1 ok.2.1 hd hv (k H locs ls hP hS hl hz)
theorem r_i2c {M : Ms} {kc ks pc pc1 : Nat} {L : List (Option Value)} {st : List Value} {h : Hp} {x v : Int32} (hd : decode (mC M) pc = .ok (.i2c, 1)) (hp : pc + 1 = pc1) (hv : (x.toUInt32 % 65536).toInt32 = v) : St M kc ks pc1 L (.int v :: st) h kc ks pc L (.int x :: st) h := by
  subst hp
  intro p l e R s m args below meth c D ca sv B0 Z ok k H locs ls hP hS hl hz
  exact lv_i2c ok.1 ok.2.1 hd hv (k H locs ls hP hS hl hz)
theorem r_dup {M : Ms} {kc ks pc pc1 : Nat} {L : List (Option Value)} {st : List Value} {h : Hp} {v : Value} (hd : decode (mC M) pc = .ok (.dup, 1)) (hp : pc + 1 = pc1) (hc : v.category = 1) : St M kc ks pc1 L (v :: v :: st) h kc ks pc L (v :: st) h := by
  subst hp
  intro p l e R s m args below meth c D ca sv B0 Z ok k H locs ls hP hS hl hz
  exact lv_dup ok.1 ok.2.1 hd (by rw [ph_cat ok.2.2.2.2.2.1.2.2.2.2.1]; exact hc) (k H locs ls hP hS hl hz)
theorem r_pop {M : Ms} {kc ks pc pc1 : Nat} {L : List (Option Value)} {st : List Value} {h : Hp} {v : Value} (hd : decode (mC M) pc = .ok (.pop, 1)) (hp : pc + 1 = pc1) (hc : v.category = 1) : St M kc ks pc1 L st h kc ks pc L (v :: st) h := by
  subst hp
  intro p l e R s m args below meth c D ca sv B0 Z ok k H locs ls hP hS hl hz
  exact lv_pop ok.1 ok.2.1 hd (by rw [ph_cat ok.2.2.2.2.2.1.2.2.2.2.1]; exact hc) (k H locs ls hP hS hl hz)
theorem r_dup_x1 {M : Ms} {kc ks pc pc1 : Nat} {L : List (Option Value)} {st : List Value} {h : Hp} {v w : Value} (hd : decode (mC M) pc = .ok (.dup_x1, 1)) (hp : pc + 1 = pc1) (hc : v.category = 1) (hc2 : w.category = 1) : St M kc ks pc1 L (v :: w :: v :: st) h kc ks pc L (v :: w :: st) h := by
  subst hp
  intro p l e R s m args below meth c D ca sv B0 Z ok k H locs ls hP hS hl hz
  exact lv_dup_x1 ok.1 ok.2.1 hd (by rw [ph_cat ok.2.2.2.2.2.1.2.2.2.2.1]; exact hc) (by rw [ph_cat ok.2.2.2.2.2.1.2.2.2.2.1]; exact hc2) (k H locs ls hP hS hl hz)
theorem r_dup_x2 {M : Ms} {kc ks pc pc1 : Nat} {L : List (Option Value)} {st : List Value} {h : Hp} {v w u : Value} (hd : decode (mC M) pc = .ok (.dup_x2, 1)) (hp : pc + 1 = pc1) (hc : v.category = 1) (hc2 : w.category = 1) (hc3 : u.category = 1) : St M kc ks pc1 L (v :: w :: u :: v :: st) h kc ks pc L (v :: w :: u :: st) h := by
  subst hp
  intro p l e R s m args below meth c D ca sv B0 Z ok k H locs ls hP hS hl hz
  exact lv_dup_x2 ok.1 ok.2.1 hd (by rw [ph_cat ok.2.2.2.2.2.1.2.2.2.2.1]; exact hc) (by rw [ph_cat ok.2.2.2.2.2.1.2.2.2.2.1]; exact hc2) (by rw [ph_cat ok.2.2.2.2.2.1.2.2.2.2.1]; exact hc3) (k H locs ls hP hS hl hz)
theorem r_dup2 {M : Ms} {kc ks pc pc1 : Nat} {L : List (Option Value)} {st : List Value} {h : Hp} {v w : Value} (hd : decode (mC M) pc = .ok (.dup2, 1)) (hp : pc + 1 = pc1) (hc : v.category = 1) (hc2 : w.category = 1) : St M kc ks pc1 L (v :: w :: v :: w :: st) h kc ks pc L (v :: w :: st) h := by
  subst hp
  intro p l e R s m args below meth c D ca sv B0 Z ok k H locs ls hP hS hl hz
  exact lv_dup2_11 ok.1 ok.2.1 hd (by rw [ph_cat ok.2.2.2.2.2.1.2.2.2.2.1]; exact hc) (by rw [ph_cat ok.2.2.2.2.2.1.2.2.2.2.1]; exact hc2) (k H locs ls hP hS hl hz)
theorem r_dup2L {M : Ms} {kc ks pc pc1 : Nat} {L : List (Option Value)} {st : List Value} {h : Hp} {v : Value} (hd : decode (mC M) pc = .ok (.dup2, 1)) (hp : pc + 1 = pc1) (hc : v.category = 2) : St M kc ks pc1 L (v :: v :: st) h kc ks pc L (v :: st) h := by
  subst hp
  intro p l e R s m args below meth c D ca sv B0 Z ok k H locs ls hP hS hl hz
  exact lv_dup2_2 ok.1 ok.2.1 hd (by rw [ph_cat ok.2.2.2.2.2.1.2.2.2.2.1]; exact hc) (k H locs ls hP hS hl hz)
theorem r_goto {M : Ms} {kc ks pc pc1 : Nat} {L : List (Option Value)} {st : List Value} {h : Hp} {off : Int} (hd : decode (mC M) pc = .ok (.goto off, 3)) (ht : (pc : Int) + off = (pc1 : Int)) : St M kc ks pc1 L st h kc ks pc L st h := by
  intro p l e R s m args below meth c D ca sv B0 Z ok k H locs ls hP hS hl hz
  exact lv_goto ok.1 ok.2.1 hd ht (k H locs ls hP hS hl hz)
theorem r_if_eq {M : Ms} {kc ks pc pc1 : Nat} {L : List (Option Value)} {st : List Value} {h : Hp} {x : Int32} {off : Int} {tgt : Nat} (hd : decode (mC M) pc = .ok (.ifCond .eq off, 3)) (hp : pc + 3 = pc1) (ht : (pc : Int) + off = (tgt : Int)) : Br M (x = 0) tgt pc1 L st kc ks pc L (.int x :: st) h := by
  subst hp
  intro p l e R s m args below meth c D ca sv B0 Z ok kt kf H locs ls hP hS hl hz
  exact lv_if_eq ok.1 ok.2.1 hd ht (fun hc => kt hc H locs ls hP hS hl hz) (fun hc => kf hc H locs ls hP hS hl hz)
theorem r_if_ne {M : Ms} {kc ks pc pc1 : Nat} {L : List (Option Value)} {st : List Value} {h : Hp} {x : Int32} {off : Int} {tgt : Nat} (hd : decode (mC M) pc = .ok (.ifCond .ne off, 3)) (hp : pc + 3 = pc1) (ht : (pc : Int) + off = (tgt : Int)) : Br M (x = 0) pc1 tgt L st kc ks pc L (.int x :: st) h := by
  subst hp
  intro p l e R s m args below meth c D ca sv B0 Z ok kt kf H locs ls hP hS hl hz
  exact lv_if_ne ok.1 ok.2.1 hd ht (fun hc => kf hc H locs ls hP hS hl hz) (fun hc => kt hc H locs ls hP hS hl hz)
theorem r_if_lt {M : Ms} {kc ks pc pc1 : Nat} {L : List (Option Value)} {st : List Value} {h : Hp} {x : Int32} {off : Int} {tgt : Nat} (hd : decode (mC M) pc = .ok (.ifCond .lt off, 3)) (hp : pc + 3 = pc1) (ht : (pc : Int) + off = (tgt : Int)) : Br M (x < 0) tgt pc1 L st kc ks pc L (.int x :: st) h := by
  subst hp
  intro p l e R s m args below meth c D ca sv B0 Z ok kt kf H locs ls hP hS hl hz
  exact lv_if_lt ok.1 ok.2.1 hd ht (fun hc => kt hc H locs ls hP hS hl hz) (fun hc => kf hc H locs ls hP hS hl hz)
theorem r_if_ge {M : Ms} {kc ks pc pc1 : Nat} {L : List (Option Value)} {st : List Value} {h : Hp} {x : Int32} {off : Int} {tgt : Nat} (hd : decode (mC M) pc = .ok (.ifCond .ge off, 3)) (hp : pc + 3 = pc1) (ht : (pc : Int) + off = (tgt : Int)) : Br M (0 ≤ x) tgt pc1 L st kc ks pc L (.int x :: st) h := by
  subst hp
  intro p l e R s m args below meth c D ca sv B0 Z ok kt kf H locs ls hP hS hl hz
  exact lv_if_ge ok.1 ok.2.1 hd ht (fun hc => kt hc H locs ls hP hS hl hz) (fun hc => kf hc H locs ls hP hS hl hz)
theorem r_if_gt {M : Ms} {kc ks pc pc1 : Nat} {L : List (Option Value)} {st : List Value} {h : Hp} {x : Int32} {off : Int} {tgt : Nat} (hd : decode (mC M) pc = .ok (.ifCond .gt off, 3)) (hp : pc + 3 = pc1) (ht : (pc : Int) + off = (tgt : Int)) : Br M (0 < x) tgt pc1 L st kc ks pc L (.int x :: st) h := by
  subst hp
  intro p l e R s m args below meth c D ca sv B0 Z ok kt kf H locs ls hP hS hl hz
  exact lv_if_gt ok.1 ok.2.1 hd ht (fun hc => kt hc H locs ls hP hS hl hz) (fun hc => kf hc H locs ls hP hS hl hz)
theorem r_if_le {M : Ms} {kc ks pc pc1 : Nat} {L : List (Option Value)} {st : List Value} {h : Hp} {x : Int32} {off : Int} {tgt : Nat} (hd : decode (mC M) pc = .ok (.ifCond .le off, 3)) (hp : pc + 3 = pc1) (ht : (pc : Int) + off = (tgt : Int)) : Br M (x ≤ 0) tgt pc1 L st kc ks pc L (.int x :: st) h := by
  subst hp
  intro p l e R s m args below meth c D ca sv B0 Z ok kt kf H locs ls hP hS hl hz
  exact lv_if_le ok.1 ok.2.1 hd ht (fun hc => kt hc H locs ls hP hS hl hz) (fun hc => kf hc H locs ls hP hS hl hz)
theorem r_icmp_eq {M : Ms} {kc ks pc pc1 : Nat} {L : List (Option Value)} {st : List Value} {h : Hp} {x y : Int32} {off : Int} {tgt : Nat} (hd : decode (mC M) pc = .ok (.if_icmp .eq off, 3)) (hp : pc + 3 = pc1) (ht : (pc : Int) + off = (tgt : Int)) : Br M (x = y) tgt pc1 L st kc ks pc L (.int y :: .int x :: st) h := by
  subst hp
  intro p l e R s m args below meth c D ca sv B0 Z ok kt kf H locs ls hP hS hl hz
  exact lv_icmp_eq ok.1 ok.2.1 hd ht (fun hc => kt hc H locs ls hP hS hl hz) (fun hc => kf hc H locs ls hP hS hl hz)
theorem r_icmp_ne {M : Ms} {kc ks pc pc1 : Nat} {L : List (Option Value)} {st : List Value} {h : Hp} {x y : Int32} {off : Int} {tgt : Nat} (hd : decode (mC M) pc = .ok (.if_icmp .ne off, 3)) (hp : pc + 3 = pc1) (ht : (pc : Int) + off = (tgt : Int)) : Br M (x = y) pc1 tgt L st kc ks pc L (.int y :: .int x :: st) h := by
  subst hp
  intro p l e R s m args below meth c D ca sv B0 Z ok kt kf H locs ls hP hS hl hz
  exact lv_icmp_ne ok.1 ok.2.1 hd ht (fun hc => kf hc H locs ls hP hS hl hz) (fun hc => kt hc H locs ls hP hS hl hz)
theorem r_icmp_lt {M : Ms} {kc ks pc pc1 : Nat} {L : List (Option Value)} {st : List Value} {h : Hp} {x y : Int32} {off : Int} {tgt : Nat} (hd : decode (mC M) pc = .ok (.if_icmp .lt off, 3)) (hp : pc + 3 = pc1) (ht : (pc : Int) + off = (tgt : Int)) : Br M (x < y) tgt pc1 L st kc ks pc L (.int y :: .int x :: st) h := by
  subst hp
  intro p l e R s m args below meth c D ca sv B0 Z ok kt kf H locs ls hP hS hl hz
  exact lv_icmp_lt ok.1 ok.2.1 hd ht (fun hc => kt hc H locs ls hP hS hl hz) (fun hc => kf hc H locs ls hP hS hl hz)
theorem r_icmp_ge {M : Ms} {kc ks pc pc1 : Nat} {L : List (Option Value)} {st : List Value} {h : Hp} {x y : Int32} {off : Int} {tgt : Nat} (hd : decode (mC M) pc = .ok (.if_icmp .ge off, 3)) (hp : pc + 3 = pc1) (ht : (pc : Int) + off = (tgt : Int)) : Br M (y ≤ x) tgt pc1 L st kc ks pc L (.int y :: .int x :: st) h := by
  subst hp
  intro p l e R s m args below meth c D ca sv B0 Z ok kt kf H locs ls hP hS hl hz
  exact lv_icmp_ge ok.1 ok.2.1 hd ht (fun hc => kt hc H locs ls hP hS hl hz) (fun hc => kf hc H locs ls hP hS hl hz)
theorem r_icmp_gt {M : Ms} {kc ks pc pc1 : Nat} {L : List (Option Value)} {st : List Value} {h : Hp} {x y : Int32} {off : Int} {tgt : Nat} (hd : decode (mC M) pc = .ok (.if_icmp .gt off, 3)) (hp : pc + 3 = pc1) (ht : (pc : Int) + off = (tgt : Int)) : Br M (y < x) tgt pc1 L st kc ks pc L (.int y :: .int x :: st) h := by
  subst hp
  intro p l e R s m args below meth c D ca sv B0 Z ok kt kf H locs ls hP hS hl hz
  exact lv_icmp_gt ok.1 ok.2.1 hd ht (fun hc => kt hc H locs ls hP hS hl hz) (fun hc => kf hc H locs ls hP hS hl hz)
theorem r_icmp_le {M : Ms} {kc ks pc pc1 : Nat} {L : List (Option Value)} {st : List Value} {h : Hp} {x y : Int32} {off : Int} {tgt : Nat} (hd : decode (mC M) pc = .ok (.if_icmp .le off, 3)) (hp : pc + 3 = pc1) (ht : (pc : Int) + off = (tgt : Int)) : Br M (x ≤ y) tgt pc1 L st kc ks pc L (.int y :: .int x :: st) h := by
  subst hp
  intro p l e R s m args below meth c D ca sv B0 Z ok kt kf H locs ls hP hS hl hz
  exact lv_icmp_le ok.1 ok.2.1 hd ht (fun hc => kt hc H locs ls hP hS hl hz) (fun hc => kf hc H locs ls hP hS hl hz)
theorem r_tout {M : Ms} {kc ks pc pc1 : Nat} {L : List (Option Value)} {st : List Value} {h : Hp} {dflt lo hi : Int} {offs : Array Int} {len : Nat} {x : Int32} (hd : decode (mC M) pc = .ok (.tableswitch dflt lo hi offs, len)) (hx : x.toInt < lo ∨ hi < x.toInt) (ht : (pc : Int) + dflt = (pc1 : Int)) : St M kc ks pc1 L st h kc ks pc L (.int x :: st) h := by
  intro p l e R s m args below meth c D ca sv B0 Z ok k H locs ls hP hS hl hz
  exact lv_tableOut ok.1 ok.2.1 hd hx ht (k H locs ls hP hS hl hz)
theorem r_tin {M : Ms} {kc ks pc pc1 : Nat} {L : List (Option Value)} {st : List Value} {h : Hp} {dflt lo hi off : Int} {offs : Array Int} {len : Nat} {x : Int32} (hd : decode (mC M) pc = .ok (.tableswitch dflt lo hi offs, len)) (h1 : ¬ x.toInt < lo) (h2 : ¬ hi < x.toInt) (ho : offs[(x.toInt - lo).toNat]? = some off) (ht : (pc : Int) + off = (pc1 : Int)) : St M kc ks pc1 L st h kc ks pc L (.int x :: st) h := by
  intro p l e R s m args below meth c D ca sv B0 Z ok k H locs ls hP hS hl hz
  exact lv_tableIn ok.1 ok.2.1 hd h1 h2 ho ht (k H locs ls hP hS hl hz)
theorem r_look {M : Ms} {kc ks pc pc1 : Nat} {L : List (Option Value)} {st : List Value} {h : Hp} {dflt off : Int} {ps : Array (Int × Int)} {len : Nat} {x : Int32} (hd : decode (mC M) pc = .ok (.lookupswitch dflt ps, len)) (hps : (ps.toList.zip (ps.toList.drop 1)).all (fun (a, next) => a.1 < next.1) = true) (ho : Op.lookupswitch.offset ps.toList dflt x.toInt = off) (ht : (pc : Int) + off = (pc1 : Int)) : St M kc ks pc1 L st h kc ks pc L (.int x :: st) h := by
  intro p l e R s m args below meth c D ca sv B0 Z ok k H locs ls hP hS hl hz
  exact lv_lookup ok.1 ok.2.1 hd hps ho ht (k H locs ls hP hS hl hz)
/-- field j of class number tag, as the pool of 'own' names it at ix -/
def FL (own : String) (ix tag j : Nat) : Prop := ∃ r : vw_C, vwCl[tag]? = some r ∧ j < r.2.2 ∧ Cond.fieldLink own ix r.1 (r.2.1 j).2.1 (r.2.1 j).2.2.1 ∈ TB
def FW (tag j : Nat) (fin : Bool) (ty : FieldType) : Prop := ∃ r : vw_C, vwCl[tag]? = some r ∧ (r.2.1 j).2.2.2 = fin ∧ parseFieldDescriptor (r.2.1 j).2.2.1 = some ty
theorem r_getI {M : Ms} {kc ks pc pc1 : Nat} {L : List (Option Value)} {st : List Value} {h : Hp} {a ix tag n j : Nat} (hd : decode (mC M) pc = .ok (.getfield ix, 3)) (hp : pc + 3 = pc1) (hf : FL (mY M).cls ix tag j) (ht : h.2.1 a = (tag, n)) (hn : a < h.1) (hk : (hKd tag)[j]? = some 0) : St M kc ks pc1 L (.int (h.2.2.2.1 a j) :: st) h kc ks pc L (.ref a :: st) h := by
  subst hp
  intro p l e R s m args below meth c D ca sv B0 Z ok k H locs ls hP hS hl hz
  exact by
    obtain ⟨r, hr, hj, hw⟩ := hf
    obtain ⟨c1, ⟨ty0, c2⟩, c3, c4⟩ := clsOk tag r hr
    have hc := (hKd_lt hk)
    have he : (wld ca B0 h)[a]? = some (B0 + a, .inr (tag, hfs B0 h a)) := by rw [wld_get hn, hE_obj ht hc]
    exact va_get (C := r.1) (T := r.2.1) (N := r.2.2) (ref := r.1) ok.1 ok.2.1 ok.2.2.2.2.1 c1 ok.2.2.2.1 ok.2.2.2.2.2.1.1 hP a he hr j hj (ok.2.2.2.2.1 _ hw) (fun x hx => by rw [← c4 j hj]; exact hx) (hfs_get ht hk) hd (k H locs ls hP hS hl hz)
theorem r_getJ {M : Ms} {kc ks pc pc1 : Nat} {L : List (Option Value)} {st : List Value} {h : Hp} {a ix tag n j : Nat} (hd : decode (mC M) pc = .ok (.getfield ix, 3)) (hp : pc + 3 = pc1) (hf : FL (mY M).cls ix tag j) (ht : h.2.1 a = (tag, n)) (hn : a < h.1) (hk : (hKd tag)[j]? = some 1) : St M kc ks pc1 L (.long (h.2.2.2.2 a j) :: st) h kc ks pc L (.ref a :: st) h := by
  subst hp
  intro p l e R s m args below meth c D ca sv B0 Z ok k H locs ls hP hS hl hz
  exact by
    obtain ⟨r, hr, hj, hw⟩ := hf
    obtain ⟨c1, ⟨ty0, c2⟩, c3, c4⟩ := clsOk tag r hr
    have hc := (hKd_lt hk)
    have he : (wld ca B0 h)[a]? = some (B0 + a, .inr (tag, hfs B0 h a)) := by rw [wld_get hn, hE_obj ht hc]
    exact va_get (C := r.1) (T := r.2.1) (N := r.2.2) (ref := r.1) ok.1 ok.2.1 ok.2.2.2.2.1 c1 ok.2.2.2.1 ok.2.2.2.2.2.1.1 hP a he hr j hj (ok.2.2.2.2.1 _ hw) (fun x hx => by rw [← c4 j hj]; exact hx) (hfs_get ht hk) hd (k H locs ls hP hS hl hz)
theorem r_getR {M : Ms} {kc ks pc pc1 : Nat} {L : List (Option Value)} {st : List Value} {h : Hp} {a ix tag n j b : Nat} (hd : decode (mC M) pc = .ok (.getfield ix, 3)) (hp : pc + 3 = pc1) (hf : FL (mY M).cls ix tag j) (ht : h.2.1 a = (tag, n)) (hn : a < h.1) (hk : (hKd tag)[j]? = some 2) (hr : h.2.2.1 a j = some b) : St M kc ks pc1 L (.ref b :: st) h kc ks pc L (.ref a :: st) h := by
  subst hp
  intro p l e R s m args below meth c D ca sv B0 Z ok k H locs ls hP hS hl hz
  exact by
    obtain ⟨r, hr0, hj, hw⟩ := hf
    obtain ⟨c1, ⟨ty0, c2⟩, c3, c4⟩ := clsOk tag r hr0
    have hc := (hKd_lt hk)
    have he : (wld ca B0 h)[a]? = some (B0 + a, .inr (tag, hfs B0 h a)) := by rw [wld_get hn, hE_obj ht hc]
    exact va_get (C := r.1) (T := r.2.1) (N := r.2.2) (ref := r.1) ok.1 ok.2.1 ok.2.2.2.2.1 c1 ok.2.2.2.1 ok.2.2.2.2.2.1.1 hP a he hr0 j hj (ok.2.2.2.2.1 _ hw) (fun x hx => by rw [← c4 j hj]; exact hx) (hfs_get ht hk) hd (by
      have hx : hV B0 h a j 2 = .ref (B0 + b) := by unfold hV; simp only [hr]; rfl
      rw [hx]; exact k H locs ls hP hS hl hz)
theorem r_putI {M : Ms} {kc ks pc pc1 : Nat} {L : List (Option Value)} {st : List Value} {h : Hp} {a ix tag n j : Nat} {x : Int32} {ty : FieldType} (hd : decode (mC M) pc = .ok (.putfield ix, 3)) (hp : pc + 3 = pc1) (hf : FL (mY M).cls ix tag j) (ht : h.2.1 a = (tag, n)) (hn : a < h.1) (hk : (hKd tag)[j]? = some 0) (hg : FW tag j false ty) (hna : narrow ty (.int x) = .int x) (hft : fits ty (.int x) = true) : St M kc ks pc1 L st (setI h a j x) kc ks pc L (.int x :: .ref a :: st) h := by
  subst hp
  intro p l e R s m args below meth c D ca sv B0 Z ok k H locs ls hP hS hl hz
  exact by
    obtain ⟨r, hr, hj, hw⟩ := hf
    obtain ⟨r', hr', hfin, hty⟩ := hg
    obtain rfl : r' = r := Option.some.inj (hr'.symm.trans hr)
    obtain ⟨c1, ⟨ty0, c2⟩, c3, c4⟩ := clsOk tag _ hr
    have hc := (hKd_lt hk)
    have he : (wld ca B0 h)[a]? = some (B0 + a, .inr (tag, hfs B0 h a)) := by rw [wld_get hn, hE_obj ht hc]
    refine va_put (C := r'.1) (T := r'.2.1) (N := r'.2.2) (ref := r'.1) (A := fun q => B0 ≤ q) ok.1 ok.2.1 ok.2.2.2.2.1 c1 ty0 c2 c3 ok.2.2.2.1 ok.2.2.2.2.2.1.1 hP (wld_D ca B0 h) hS a he hr j hj (ok.2.2.2.2.1 _ hw) (fun x hx => by rw [← c4 j hj]; exact hx) hfin (ty := ty) hty hna hft (hfs_len ht hk) hd (fun H1 locs1 hP1 _ hS1 => k H1 locs1 ls ?_ hS1 hl hz)
    rwa [wld_set (h := h) (h' := (setI h a j x)) rfl hE_setI] at hP1
    rw [hE_obj (h := (setI h a j x)) (n := n) ht hc, hfs_set (h := h) (h' := (setI h a j x)) ht ht hk (by simp [hV, setI, up2_same, ph]) (fun i kd hi => hV_setI hi)]
theorem r_putIF {M : Ms} {kc ks pc pc1 : Nat} {L : List (Option Value)} {st : List Value} {h : Hp} {a ix tag n j : Nat} {x : Int32} {ty : FieldType} (hd : decode (mC M) pc = .ok (.putfield ix, 3)) (hp : pc + 3 = pc1) (hf : FL (mY M).cls ix tag j) (ht : h.2.1 a = (tag, n)) (hn : a < h.1) (hk : (hKd tag)[j]? = some 0) (hg : FW tag j true ty) (hna : narrow ty (.int x) = .int x) (hft : fits ty (.int x) = true) (hini : (mY M).name = "<init>") (hown : ∀ r : vw_C, vwCl[tag]? = some r → r.1 = (mY M).cls) : St M kc ks pc1 L st (setI h a j x) kc ks pc L (.int x :: .ref a :: st) h := by
  subst hp
  intro p l e R s m args below meth c D ca sv B0 Z ok k H locs ls hP hS hl hz
  exact by
    obtain ⟨r, hr, hj, hw⟩ := hf
    obtain ⟨r', hr', hfin, hty⟩ := hg
    obtain rfl : r' = r := Option.some.inj (hr'.symm.trans hr)
    obtain ⟨c1, ⟨ty0, c2⟩, c3, c4⟩ := clsOk tag _ hr
    have hc := (hKd_lt hk)
    have he : (wld ca B0 h)[a]? = some (B0 + a, .inr (tag, hfs B0 h a)) := by rw [wld_get hn, hE_obj ht hc]
    refine va_putF (C := r'.1) (T := r'.2.1) (N := r'.2.2) (ref := r'.1) (A := fun q => B0 ≤ q) ok.1 ok.2.1 ok.2.2.2.2.1 c1 ty0 c2 c3 ok.2.2.2.1 ok.2.2.2.2.2.1.1 hP (wld_D ca B0 h) hS a he hr j hj (ok.2.2.2.2.1 _ hw) (fun x hx => by rw [← c4 j hj]; exact hx) hfin (ok.2.2.2.2.2.2.2.2.2.1 hini) ((c4 j hj).trans (hown _ hr)) (ty := ty) hty hna hft (hfs_len ht hk) hd (fun H1 locs1 hP1 _ hS1 => k H1 locs1 ls ?_ hS1 hl hz)
    rwa [wld_set (h := h) (h' := (setI h a j x)) rfl hE_setI] at hP1
    rw [hE_obj (h := (setI h a j x)) (n := n) ht hc, hfs_set (h := h) (h' := (setI h a j x)) ht ht hk (by simp [hV, setI, up2_same, ph]) (fun i kd hi => hV_setI hi)]
theorem r_putJ {M : Ms} {kc ks pc pc1 : Nat} {L : List (Option Value)} {st : List Value} {h : Hp} {a ix tag n j : Nat} {x : Int64} {ty : FieldType} (hd : decode (mC M) pc = .ok (.putfield ix, 3)) (hp : pc + 3 = pc1) (hf : FL (mY M).cls ix tag j) (ht : h.2.1 a = (tag, n)) (hn : a < h.1) (hk : (hKd tag)[j]? = some 1) (hg : FW tag j false ty) (hna : narrow ty (.long x) = .long x) (hft : fits ty (.long x) = true) : St M kc ks pc1 L st (setJ h a j x) kc ks pc L (.long x :: .ref a :: st) h := by
  subst hp
  intro p l e R s m args below meth c D ca sv B0 Z ok k H locs ls hP hS hl hz
  exact by
    obtain ⟨r, hr, hj, hw⟩ := hf
    obtain ⟨r', hr', hfin, hty⟩ := hg
    obtain rfl : r' = r := Option.some.inj (hr'.symm.trans hr)
    obtain ⟨c1, ⟨ty0, c2⟩, c3, c4⟩ := clsOk tag _ hr
    have hc := (hKd_lt hk)
    have he : (wld ca B0 h)[a]? = some (B0 + a, .inr (tag, hfs B0 h a)) := by rw [wld_get hn, hE_obj ht hc]
    refine va_put (C := r'.1) (T := r'.2.1) (N := r'.2.2) (ref := r'.1) (A := fun q => B0 ≤ q) ok.1 ok.2.1 ok.2.2.2.2.1 c1 ty0 c2 c3 ok.2.2.2.1 ok.2.2.2.2.2.1.1 hP (wld_D ca B0 h) hS a he hr j hj (ok.2.2.2.2.1 _ hw) (fun x hx => by rw [← c4 j hj]; exact hx) hfin (ty := ty) hty hna hft (hfs_len ht hk) hd (fun H1 locs1 hP1 _ hS1 => k H1 locs1 ls ?_ hS1 hl hz)
    rwa [wld_set (h := h) (h' := (setJ h a j x)) rfl hE_setJ] at hP1
    rw [hE_obj (h := (setJ h a j x)) (n := n) ht hc, hfs_set (h := h) (h' := (setJ h a j x)) ht ht hk (by simp [hV, setJ, up2_same, ph]) (fun i kd hi => hV_setJ hi)]
theorem r_putJF {M : Ms} {kc ks pc pc1 : Nat} {L : List (Option Value)} {st : List Value} {h : Hp} {a ix tag n j : Nat} {x : Int64} {ty : FieldType} (hd : decode (mC M) pc = .ok (.putfield ix, 3)) (hp : pc + 3 = pc1) (hf : FL (mY M).cls ix tag j) (ht : h.2.1 a = (tag, n)) (hn : a < h.1) (hk : (hKd tag)[j]? = some 1) (hg : FW tag j true ty) (hna : narrow ty (.long x) = .long x) (hft : fits ty (.long x) = true) (hini : (mY M).name = "<init>") (hown : ∀ r : vw_C, vwCl[tag]? = some r → r.1 = (mY M).cls) : St M kc ks pc1 L st (setJ h a j x) kc ks pc L (.long x :: .ref a :: st) h := by
  subst hp
  intro p l e R s m args below meth c D ca sv B0 Z ok k H locs ls hP hS hl hz
  exact by
    obtain ⟨r, hr, hj, hw⟩ := hf
    obtain ⟨r', hr', hfin, hty⟩ := hg
    obtain rfl : r' = r := Option.some.inj (hr'.symm.trans hr)
    obtain ⟨c1, ⟨ty0, c2⟩, c3, c4⟩ := clsOk tag _ hr
    have hc := (hKd_lt hk)
    have he : (wld ca B0 h)[a]? = some (B0 + a, .inr (tag, hfs B0 h a)) := by rw [wld_get hn, hE_obj ht hc]
    refine va_putF (C := r'.1) (T := r'.2.1) (N := r'.2.2) (ref := r'.1) (A := fun q => B0 ≤ q) ok.1 ok.2.1 ok.2.2.2.2.1 c1 ty0 c2 c3 ok.2.2.2.1 ok.2.2.2.2.2.1.1 hP (wld_D ca B0 h) hS a he hr j hj (ok.2.2.2.2.1 _ hw) (fun x hx => by rw [← c4 j hj]; exact hx) hfin (ok.2.2.2.2.2.2.2.2.2.1 hini) ((c4 j hj).trans (hown _ hr)) (ty := ty) hty hna hft (hfs_len ht hk) hd (fun H1 locs1 hP1 _ hS1 => k H1 locs1 ls ?_ hS1 hl hz)
    rwa [wld_set (h := h) (h' := (setJ h a j x)) rfl hE_setJ] at hP1
    rw [hE_obj (h := (setJ h a j x)) (n := n) ht hc, hfs_set (h := h) (h' := (setJ h a j x)) ht ht hk (by simp [hV, setJ, up2_same, ph]) (fun i kd hi => hV_setJ hi)]
theorem r_putR {M : Ms} {kc ks pc pc1 : Nat} {L : List (Option Value)} {st : List Value} {h : Hp} {a ix tag n j : Nat} {x : Nat} {ty : FieldType} (hd : decode (mC M) pc = .ok (.putfield ix, 3)) (hp : pc + 3 = pc1) (hf : FL (mY M).cls ix tag j) (ht : h.2.1 a = (tag, n)) (hn : a < h.1) (hk : (hKd tag)[j]? = some 2) (hg : FW tag j false ty) (hna : ∀ q, narrow ty (.ref q) = .ref q) (hft : ∀ q, fits ty (.ref q) = true) : St M kc ks pc1 L st (setR h a j x) kc ks pc L (.ref x :: .ref a :: st) h := by
  subst hp
  intro p l e R s m args below meth c D ca sv B0 Z ok k H locs ls hP hS hl hz
  exact by
    obtain ⟨r, hr, hj, hw⟩ := hf
    obtain ⟨r', hr', hfin, hty⟩ := hg
    obtain rfl : r' = r := Option.some.inj (hr'.symm.trans hr)
    obtain ⟨c1, ⟨ty0, c2⟩, c3, c4⟩ := clsOk tag _ hr
    have hc := (hKd_lt hk)
    have he : (wld ca B0 h)[a]? = some (B0 + a, .inr (tag, hfs B0 h a)) := by rw [wld_get hn, hE_obj ht hc]
    refine va_put (C := r'.1) (T := r'.2.1) (N := r'.2.2) (ref := r'.1) (A := fun q => B0 ≤ q) ok.1 ok.2.1 ok.2.2.2.2.1 c1 ty0 c2 c3 ok.2.2.2.1 ok.2.2.2.2.2.1.1 hP (wld_D ca B0 h) hS a he hr j hj (ok.2.2.2.2.1 _ hw) (fun x hx => by rw [← c4 j hj]; exact hx) hfin (ty := ty) hty (hna _) (hft _) (hfs_len ht hk) hd (fun H1 locs1 hP1 _ hS1 => k H1 locs1 ls ?_ hS1 hl hz)
    rwa [wld_set (h := h) (h' := (setR h a j x)) rfl hE_setR] at hP1
    rw [hE_obj (h := (setR h a j x)) (n := n) ht hc, hfs_set (h := h) (h' := (setR h a j x)) ht ht hk (by simp [hV, setR, up2_same, va_rf, ph]) (fun i kd hi => hV_setR hi)]
theorem r_putRF {M : Ms} {kc ks pc pc1 : Nat} {L : List (Option Value)} {st : List Value} {h : Hp} {a ix tag n j : Nat} {x : Nat} {ty : FieldType} (hd : decode (mC M) pc = .ok (.putfield ix, 3)) (hp : pc + 3 = pc1) (hf : FL (mY M).cls ix tag j) (ht : h.2.1 a = (tag, n)) (hn : a < h.1) (hk : (hKd tag)[j]? = some 2) (hg : FW tag j true ty) (hna : ∀ q, narrow ty (.ref q) = .ref q) (hft : ∀ q, fits ty (.ref q) = true) (hini : (mY M).name = "<init>") (hown : ∀ r : vw_C, vwCl[tag]? = some r → r.1 = (mY M).cls) : St M kc ks pc1 L st (setR h a j x) kc ks pc L (.ref x :: .ref a :: st) h := by
  subst hp
  intro p l e R s m args below meth c D ca sv B0 Z ok k H locs ls hP hS hl hz
  exact by
    obtain ⟨r, hr, hj, hw⟩ := hf
    obtain ⟨r', hr', hfin, hty⟩ := hg
    obtain rfl : r' = r := Option.some.inj (hr'.symm.trans hr)
    obtain ⟨c1, ⟨ty0, c2⟩, c3, c4⟩ := clsOk tag _ hr
    have hc := (hKd_lt hk)
    have he : (wld ca B0 h)[a]? = some (B0 + a, .inr (tag, hfs B0 h a)) := by rw [wld_get hn, hE_obj ht hc]
    refine va_putF (C := r'.1) (T := r'.2.1) (N := r'.2.2) (ref := r'.1) (A := fun q => B0 ≤ q) ok.1 ok.2.1 ok.2.2.2.2.1 c1 ty0 c2 c3 ok.2.2.2.1 ok.2.2.2.2.2.1.1 hP (wld_D ca B0 h) hS a he hr j hj (ok.2.2.2.2.1 _ hw) (fun x hx => by rw [← c4 j hj]; exact hx) hfin (ok.2.2.2.2.2.2.2.2.2.1 hini) ((c4 j hj).trans (hown _ hr)) (ty := ty) hty (hna _) (hft _) (hfs_len ht hk) hd (fun H1 locs1 hP1 _ hS1 => k H1 locs1 ls ?_ hS1 hl hz)
    rwa [wld_set (h := h) (h' := (setR h a j x)) rfl hE_setR] at hP1
    rw [hE_obj (h := (setR h a j x)) (n := n) ht hc, hfs_set (h := h) (h' := (setR h a j x)) ht ht hk (by simp [hV, setR, up2_same, va_rf, ph]) (fun i kd hi => hV_setR hi)]
theorem r_iaload {M : Ms} {kc ks pc pc1 : Nat} {L : List (Option Value)} {st : List Value} {h : Hp} {a n : Nat} {i : Int32} (hd : decode (mC M) pc = .ok (.iaload, 1)) (hp : pc + 1 = pc1) (ht : h.2.1 a = (11, n)) (hn : a < h.1) (hi : vp_in i n) : St M kc ks pc1 L (.int (h.2.2.2.1 a i.toNatClampNeg) :: st) h kc ks pc L (.int i :: .ref a :: st) h := by
  subst hp
  intro p l e R s m args below meth c D ca sv B0 Z ok k H locs ls hP hS hl hz
  exact va_iald ok.1 ok.2.1 ok.2.2.2.2.2.1.1 hP a 0 (by rw [wld_get hn, hE_arI ht (by decide) (by decide)]) rfl hi hd (k H locs ls hP hS hl hz)
theorem r_zaload {M : Ms} {kc ks pc pc1 : Nat} {L : List (Option Value)} {st : List Value} {h : Hp} {a n : Nat} {i : Int32} (hd : decode (mC M) pc = .ok (.baload, 1)) (hp : pc + 1 = pc1) (ht : h.2.1 a = (12, n)) (hn : a < h.1) (hi : vp_in i n) : St M kc ks pc1 L (.int (h.2.2.2.1 a i.toNatClampNeg) :: st) h kc ks pc L (.int i :: .ref a :: st) h := by
  subst hp
  intro p l e R s m args below meth c D ca sv B0 Z ok k H locs ls hP hS hl hz
  exact va_zald ok.1 ok.2.1 ok.2.2.2.2.2.1.1 hP a 1 (by rw [wld_get hn, hE_arI ht (by decide) (by decide)]) rfl hi hd (k H locs ls hP hS hl hz)
theorem r_laload {M : Ms} {kc ks pc pc1 : Nat} {L : List (Option Value)} {st : List Value} {h : Hp} {a n : Nat} {i : Int32} (hd : decode (mC M) pc = .ok (.laload, 1)) (hp : pc + 1 = pc1) (ht : h.2.1 a = (13, n)) (hn : a < h.1) (hi : vp_in i n) : St M kc ks pc1 L (.long (h.2.2.2.2 a i.toNatClampNeg) :: st) h kc ks pc L (.int i :: .ref a :: st) h := by
  subst hp
  intro p l e R s m args below meth c D ca sv B0 Z ok k H locs ls hP hS hl hz
  exact va_lald ok.1 ok.2.1 ok.2.2.2.2.2.1.1 hP a 2 (by rw [wld_get hn, hE_arJ ht]) rfl hi hd (k H locs ls hP hS hl hz)
theorem r_aaload14 {M : Ms} {kc ks pc pc1 : Nat} {L : List (Option Value)} {st : List Value} {h : Hp} {a n b : Nat} {i : Int32} (hd : decode (mC M) pc = .ok (.aaload, 1)) (hp : pc + 1 = pc1) (ht : h.2.1 a = (14, n)) (hn : a < h.1) (hi : vp_in i n) (hr : h.2.2.1 a i.toNatClampNeg = some b) : St M kc ks pc1 L (.ref b :: st) h kc ks pc L (.int i :: .ref a :: st) h := by
  subst hp
  intro p l e R s m args below meth c D ca sv B0 Z ok k H locs ls hP hS hl hz
  exact va_aldq ok.1 ok.2.1 ok.2.2.2.2.2.1.1 hP a 3 (by rw [wld_get hn, hE_arR ht (by decide)]) rfl hi hd (by
    simp only [hr]
    exact k H locs ls hP hS hl hz)
theorem r_aaload15 {M : Ms} {kc ks pc pc1 : Nat} {L : List (Option Value)} {st : List Value} {h : Hp} {a n b : Nat} {i : Int32} (hd : decode (mC M) pc = .ok (.aaload, 1)) (hp : pc + 1 = pc1) (ht : h.2.1 a = (15, n)) (hn : a < h.1) (hi : vp_in i n) (hr : h.2.2.1 a i.toNatClampNeg = some b) : St M kc ks pc1 L (.ref b :: st) h kc ks pc L (.int i :: .ref a :: st) h := by
  subst hp
  intro p l e R s m args below meth c D ca sv B0 Z ok k H locs ls hP hS hl hz
  exact va_aldq ok.1 ok.2.1 ok.2.2.2.2.2.1.1 hP a 4 (by rw [wld_get hn, hE_arR ht (by decide)]) rfl hi hd (by
    simp only [hr]
    exact k H locs ls hP hS hl hz)
theorem r_iastore {M : Ms} {kc ks pc pc1 : Nat} {L : List (Option Value)} {st : List Value} {h : Hp} {a n : Nat} {i : Int32} {x : Int32} (hd : decode (mC M) pc = .ok (.iastore, 1)) (hp : pc + 1 = pc1) (ht : h.2.1 a = (11, n)) (hn : a < h.1) (hi : vp_in i n) : St M kc ks pc1 L st (setI h a i.toNatClampNeg x) kc ks pc L (.int x :: .int i :: .ref a :: st) h := by
  subst hp
  intro p l e R s m args below meth c D ca sv B0 Z ok k H locs ls hP hS hl hz
  exact by
    refine va_iast (A := fun q => B0 ≤ q) ok.1 ok.2.1 ok.2.2.2.2.2.1.1 hP (wld_D ca B0 h) hS a 0 (by rw [wld_get hn, hE_arI ht (by decide) (by decide)]) rfl hi hd (fun H1 locs1 hP1 _ hS1 => k H1 locs1 ls ?_ hS1 hl hz)
    rwa [wld_set (h := h) (h' := (setI h a i.toNatClampNeg x)) rfl hE_setI] at hP1
    rw [hE_arI (h := (setI h a i.toNatClampNeg x)) (n := n) ht (by decide) (by decide)]
    simp only [setI, up2_row]
theorem r_lastore {M : Ms} {kc ks pc pc1 : Nat} {L : List (Option Value)} {st : List Value} {h : Hp} {a n : Nat} {i : Int32} {x : Int64} (hd : decode (mC M) pc = .ok (.lastore, 1)) (hp : pc + 1 = pc1) (ht : h.2.1 a = (13, n)) (hn : a < h.1) (hi : vp_in i n) : St M kc ks pc1 L st (setJ h a i.toNatClampNeg x) kc ks pc L (.long x :: .int i :: .ref a :: st) h := by
  subst hp
  intro p l e R s m args below meth c D ca sv B0 Z ok k H locs ls hP hS hl hz
  exact by
    refine va_last (A := fun q => B0 ≤ q) ok.1 ok.2.1 ok.2.2.2.2.2.1.1 hP (wld_D ca B0 h) hS a 2 (by rw [wld_get hn, hE_arJ ht]) rfl hi hd (fun H1 locs1 hP1 _ hS1 => k H1 locs1 ls ?_ hS1 hl hz)
    rwa [wld_set (h := h) (h' := (setJ h a i.toNatClampNeg x)) rfl hE_setJ] at hP1
    rw [hE_arJ (h := (setJ h a i.toNatClampNeg x)) (n := n) ht]
    simp only [setJ, up2_rowL]
theorem r_zastore {M : Ms} {kc ks pc pc1 : Nat} {L : List (Option Value)} {st : List Value} {h : Hp} {a n : Nat} {i x : Int32} (hd : decode (mC M) pc = .ok (.bastore, 1)) (hp : pc + 1 = pc1) (ht : h.2.1 a = (12, n)) (hn : a < h.1) (hi : vp_in i n) (hx : vp_nar .boolean x = x) : St M kc ks pc1 L st (setI h a i.toNatClampNeg x) kc ks pc L (.int x :: .int i :: .ref a :: st) h := by
  subst hp
  intro p l e R s m args below meth c D ca sv B0 Z ok k H locs ls hP hS hl hz
  exact by
    refine va_zast (A := fun q => B0 ≤ q) ok.1 ok.2.1 ok.2.2.2.2.2.1.1 hP (wld_D ca B0 h) hS a 1 (by rw [wld_get hn, hE_arI ht (by decide) (by decide)]) rfl hi hd (fun H1 locs1 hP1 _ hS1 => k H1 locs1 ls ?_ hS1 hl hz)
    rwa [wld_set (h := h) (h' := (setI h a i.toNatClampNeg x)) rfl hE_setI] at hP1
    rw [hE_arI (h := (setI h a i.toNatClampNeg x)) (n := n) ht (by decide) (by decide)]
    simp only [setI, up2_row, hx]
theorem r_alen11 {M : Ms} {kc ks pc pc1 : Nat} {L : List (Option Value)} {st : List Value} {h : Hp} {a n : Nat} {v : Int32} (hd : decode (mC M) pc = .ok (.arraylength, 1)) (hp : pc + 1 = pc1) (ht : h.2.1 a = (11, n)) (hn : a < h.1) (hv : Int32.ofNat n = v) : St M kc ks pc1 L (.int v :: st) h kc ks pc L (.ref a :: st) h := by
  subst hp
  intro p l e R s m args below meth c D ca sv B0 Z ok k H locs ls hP hS hl hz
  exact va_alen ok.1 ok.2.1 ok.2.2.2.2.2.1.1 hP a 0 (by rw [wld_get hn, hE_arI ht (by decide) (by decide)]) rfl hv hd (k H locs ls hP hS hl hz)
theorem r_alen12 {M : Ms} {kc ks pc pc1 : Nat} {L : List (Option Value)} {st : List Value} {h : Hp} {a n : Nat} {v : Int32} (hd : decode (mC M) pc = .ok (.arraylength, 1)) (hp : pc + 1 = pc1) (ht : h.2.1 a = (12, n)) (hn : a < h.1) (hv : Int32.ofNat n = v) : St M kc ks pc1 L (.int v :: st) h kc ks pc L (.ref a :: st) h := by
  subst hp
  intro p l e R s m args below meth c D ca sv B0 Z ok k H locs ls hP hS hl hz
  exact va_alen ok.1 ok.2.1 ok.2.2.2.2.2.1.1 hP a 1 (by rw [wld_get hn, hE_arI ht (by decide) (by decide)]) rfl hv hd (k H locs ls hP hS hl hz)
theorem r_alen13 {M : Ms} {kc ks pc pc1 : Nat} {L : List (Option Value)} {st : List Value} {h : Hp} {a n : Nat} {v : Int32} (hd : decode (mC M) pc = .ok (.arraylength, 1)) (hp : pc + 1 = pc1) (ht : h.2.1 a = (13, n)) (hn : a < h.1) (hv : Int32.ofNat n = v) : St M kc ks pc1 L (.int v :: st) h kc ks pc L (.ref a :: st) h := by
  subst hp
  intro p l e R s m args below meth c D ca sv B0 Z ok k H locs ls hP hS hl hz
  exact va_alen ok.1 ok.2.1 ok.2.2.2.2.2.1.1 hP a 2 (by rw [wld_get hn, hE_arJ ht]) rfl hv hd (k H locs ls hP hS hl hz)
theorem r_alen14 {M : Ms} {kc ks pc pc1 : Nat} {L : List (Option Value)} {st : List Value} {h : Hp} {a n : Nat} {v : Int32} (hd : decode (mC M) pc = .ok (.arraylength, 1)) (hp : pc + 1 = pc1) (ht : h.2.1 a = (14, n)) (hn : a < h.1) (hv : Int32.ofNat n = v) : St M kc ks pc1 L (.int v :: st) h kc ks pc L (.ref a :: st) h := by
  subst hp
  intro p l e R s m args below meth c D ca sv B0 Z ok k H locs ls hP hS hl hz
  exact va_alen ok.1 ok.2.1 ok.2.2.2.2.2.1.1 hP a 3 (by rw [wld_get hn, hE_arR ht (by decide)]) rfl hv hd (k H locs ls hP hS hl hz)
theorem r_alen15 {M : Ms} {kc ks pc pc1 : Nat} {L : List (Option Value)} {st : List Value} {h : Hp} {a n : Nat} {v : Int32} (hd : decode (mC M) pc = .ok (.arraylength, 1)) (hp : pc + 1 = pc1) (ht : h.2.1 a = (15, n)) (hn : a < h.1) (hv : Int32.ofNat n = v) : St M kc ks pc1 L (.int v :: st) h kc ks pc L (.ref a :: st) h := by
  subst hp
  intro p l e R s m args below meth c D ca sv B0 Z ok k H locs ls hP hS hl hz
  exact va_alen ok.1 ok.2.1 ok.2.2.2.2.2.1.1 hP a 4 (by rw [wld_get hn, hE_arR ht (by decide)]) rfl hv hd (k H locs ls hP hS hl hz)
end CoreRows
