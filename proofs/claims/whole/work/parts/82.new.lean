/-! what is made: objects, arrays -/
def kdV : Nat → Value
  | 0 => .int 0
  | 1 => .long 0
  | _ => .null
theorem r_new {M : Ms} {kc ks kc1 ks1 pc pc1 ix tag N : Nat} {L : List (Option Value)} {st : List Value} {h : Hp} {r : vw_C} {ty : Nat → FieldType} (hd : decode (mC M) pc = .ok (.new ix, 3)) (hp : pc + 3 = pc1) (htl : tag < 11) (hr : vwCl[tag]? = some r) (hN : r.2.2 = N) (hty : ∀ k, k < N → parseFieldDescriptor (r.2.1 k).2.2.1 = some (ty k)) (hdf : ∀ j, j < N → ∃ kd, (hKd tag)[j]? = some kd ∧ defaultValue (ty j) = kdV kd)
    (hcl : Cond.classLink (mY M).cls ix r.1 ∈ TB) (hin : Cond.instantiable r.1 N ∈ TB) (hini : Cond.initialized r.1 ∈ TB) (hf : kc + 1 ≤ mK M ∧ ks + N ≤ mS M) (hkc : kc + 1 = kc1) (hks : ks + N = ks1) : St M kc1 ks1 pc1 L (.ref h.1 :: st) (newC h tag 0) kc ks pc L st h := by
  subst hp hkc hks hN
  intro p l e R s m args below meth c D ca sv B0 Z ok k H locs ls hP hS hl hz T hT X
  obtain ⟨ox, ob, oml, oown, ohts, oX, oB, oret, olk, onm, rfl⟩ := ok
  have hsz := hsize X hT hP hS oB hz
  have hKn := oX.1.1 tag _ hr
  obtain ⟨c1, -⟩ := clsOk tag _ hr
  refine W.newcK ox ob oown (ohts _ hcl) (ohts _ hin) (ohts _ hini) (g := F0 m pc ls (st.map (ph B0 sv))) rfl hd hf.1 hf.2 hKn.2.1 hsz (fun H1 kC hkC e1 z1 o1 => ?_) T hT X
  have hk : ∀ (k : Nat) (x : Nat × va_E), (wld ca B0 h)[k]? = some x → H1[x.1]? = H[x.1]? := fun k x hx => o1 x.1 (by
    have := (hP k x hx).lt
    omega)
  refine k H1 locs ls ?_ ⟨Nat.le_trans hS.1 (by omega), fun x h1 h2 => (o1 x (by omega)).trans (hS.2.1 x h1 h2), hS.2.2⟩ hl (by show s.heap.size + (kc + 1) = B0 + (h.1 + 1); omega)
  rw [wld_new]
  refine (hP.kept hk).app (fun k x hx => ?_)
  have hz : k < 1 := (List.getElem?_eq_some_iff.mp hx).1
  rw [show k = 0 by omega] at hx
  cases hx
  have ht : (newC h tag 0).2.1 h.1 = (tag, 0) := upR_same _ _ _
  rw [hE_obj ht htl]
  refine ⟨_, hr, (u_born ty ohts c1 hKn hkC e1 hty).to (fun j hj => ?_)⟩
  obtain ⟨kd, q1, q2⟩ := hdf j hj
  rw [q2]
  unfold vp_V
  rw [List.getD_eq_getElem?_getD, hfs_get ht q1]
  unfold hV kdV newC
  rcases kd with _ | _ | kd
  · simp [upR_same]
  · simp [upR_same]
  · simp [upR_same, va_rf]
theorem r_newI {M : Ms} {kc ks kc1 ks1 pc pc1 N : Nat} {L : List (Option Value)} {st : List Value} {h : Hp} {n : Int32} (hd : decode (mC M) pc = .ok (.newarray .int, 2)) (hp : pc + 2 = pc1) (harr : Cond.arrayClass .int ∈ TB) (hn : ¬ n < 0) (hN : n.toNatClampNeg = N) (hb : N * 4 ≤ 536870912) (hf : kc + 1 ≤ mK M ∧ ks + N ≤ mS M) (hkc : kc + 1 = kc1) (hks : ks + N = ks1) : St M kc1 ks1 pc1 L (.ref h.1 :: st) (newC h 11 N) kc ks pc L (.int n :: st) h := by
  subst hp hkc hks
  intro p l e R s m args below meth c D ca sv B0 Z ok k H locs ls hP hS hl hz T hT X
  obtain ⟨ox, ob, oml, oown, ohts, oX, oB, oret, olk, onm, rfl⟩ := ok
  have hsz := hsize X hT hP hS oB hz
  refine va_newaK (atype := .int) ox ob (ohts _ harr) (g := F0 m pc ls ((.int n :: st).map (ph B0 sv))) rfl hd rfl hn hN hb hf.1 hf.2 hsz (fun H1 cA e1 z1 o1 hAr hNm => ?_) T hT X
  have hcA : cA = ca 11 := Option.some.inj (hNm.symm.trans (oX.1.2 0 _ rfl).2)
  subst hcA
  have hk : ∀ (k : Nat) (x : Nat × va_E), (wld ca B0 h)[k]? = some x → H1[x.1]? = H[x.1]? := fun k x hx => o1 x.1 (by
    have := (hP k x hx).lt
    omega)
  refine k H1 locs ls ?_ ⟨Nat.le_trans hS.1 (by omega), fun x h1 h2 => (o1 x (by omega)).trans (hS.2.1 x h1 h2), hS.2.2⟩ hl (by show s.heap.size + (kc + 1) = B0 + (h.1 + 1); omega)
  rw [wld_new]
  refine (hP.kept hk).app (fun k x hx => ?_)
  have hz : k < 1 := (List.getElem?_eq_some_iff.mp hx).1
  rw [show k = 0 by omega] at hx
  cases hx
  have ht : (newC h 11 N).2.1 h.1 = (11, N) := upR_same _ _ _
  rw [hE_arI ht (by decide) (by decide)]
  show H1[B0 + h.1]? = some (vp_cell _ _)
  rw [e1]
  show _ = some (arrV (ca 11) N (fun j => .int ((newC h 11 N).2.2.2.1 h.1 j)))
  unfold newC
  simp only [upR_same]
  rfl
theorem r_newZ {M : Ms} {kc ks kc1 ks1 pc pc1 N : Nat} {L : List (Option Value)} {st : List Value} {h : Hp} {n : Int32} (hd : decode (mC M) pc = .ok (.newarray .boolean, 2)) (hp : pc + 2 = pc1) (harr : Cond.arrayClass .boolean ∈ TB) (hn : ¬ n < 0) (hN : n.toNatClampNeg = N) (hb : N ≤ 536870912) (hf : kc + 1 ≤ mK M ∧ ks + N ≤ mS M) (hkc : kc + 1 = kc1) (hks : ks + N = ks1) : St M kc1 ks1 pc1 L (.ref h.1 :: st) (newC h 12 N) kc ks pc L (.int n :: st) h := by
  subst hp hkc hks
  intro p l e R s m args below meth c D ca sv B0 Z ok k H locs ls hP hS hl hz T hT X
  obtain ⟨ox, ob, oml, oown, ohts, oX, oB, oret, olk, onm, rfl⟩ := ok
  have hsz := hsize X hT hP hS oB hz
  refine va_newaK (atype := .boolean) ox ob (ohts _ harr) (g := F0 m pc ls ((.int n :: st).map (ph B0 sv))) rfl hd rfl hn hN (by show N * 1 ≤ _; omega) hf.1 hf.2 hsz (fun H1 cA e1 z1 o1 hAr hNm => ?_) T hT X
  have hcA : cA = ca 12 := Option.some.inj (hNm.symm.trans (oX.1.2 1 _ rfl).2)
  subst hcA
  have hk : ∀ (k : Nat) (x : Nat × va_E), (wld ca B0 h)[k]? = some x → H1[x.1]? = H[x.1]? := fun k x hx => o1 x.1 (by
    have := (hP k x hx).lt
    omega)
  refine k H1 locs ls ?_ ⟨Nat.le_trans hS.1 (by omega), fun x h1 h2 => (o1 x (by omega)).trans (hS.2.1 x h1 h2), hS.2.2⟩ hl (by show s.heap.size + (kc + 1) = B0 + (h.1 + 1); omega)
  rw [wld_new]
  refine (hP.kept hk).app (fun k x hx => ?_)
  have hz : k < 1 := (List.getElem?_eq_some_iff.mp hx).1
  rw [show k = 0 by omega] at hx
  cases hx
  have ht : (newC h 12 N).2.1 h.1 = (12, N) := upR_same _ _ _
  rw [hE_arI ht (by decide) (by decide)]
  show H1[B0 + h.1]? = some (vp_cell _ _)
  rw [e1]
  show _ = some (arrV (ca 12) N (fun j => .int ((newC h 12 N).2.2.2.1 h.1 j)))
  unfold newC
  simp only [upR_same]
  rfl
theorem r_newJ {M : Ms} {kc ks kc1 ks1 pc pc1 N : Nat} {L : List (Option Value)} {st : List Value} {h : Hp} {n : Int32} (hd : decode (mC M) pc = .ok (.newarray .long, 2)) (hp : pc + 2 = pc1) (harr : Cond.arrayClass .long ∈ TB) (hn : ¬ n < 0) (hN : n.toNatClampNeg = N) (hb : N * 8 ≤ 536870912) (hf : kc + 1 ≤ mK M ∧ ks + N ≤ mS M) (hkc : kc + 1 = kc1) (hks : ks + N = ks1) : St M kc1 ks1 pc1 L (.ref h.1 :: st) (newC h 13 N) kc ks pc L (.int n :: st) h := by
  subst hp hkc hks
  intro p l e R s m args below meth c D ca sv B0 Z ok k H locs ls hP hS hl hz T hT X
  obtain ⟨ox, ob, oml, oown, ohts, oX, oB, oret, olk, onm, rfl⟩ := ok
  have hsz := hsize X hT hP hS oB hz
  refine va_newaK (atype := .long) ox ob (ohts _ harr) (g := F0 m pc ls ((.int n :: st).map (ph B0 sv))) rfl hd rfl hn hN hb hf.1 hf.2 hsz (fun H1 cA e1 z1 o1 hAr hNm => ?_) T hT X
  have hcA : cA = ca 13 := Option.some.inj (hNm.symm.trans (oX.1.2 2 _ rfl).2)
  subst hcA
  have hk : ∀ (k : Nat) (x : Nat × va_E), (wld ca B0 h)[k]? = some x → H1[x.1]? = H[x.1]? := fun k x hx => o1 x.1 (by
    have := (hP k x hx).lt
    omega)
  refine k H1 locs ls ?_ ⟨Nat.le_trans hS.1 (by omega), fun x h1 h2 => (o1 x (by omega)).trans (hS.2.1 x h1 h2), hS.2.2⟩ hl (by show s.heap.size + (kc + 1) = B0 + (h.1 + 1); omega)
  rw [wld_new]
  refine (hP.kept hk).app (fun k x hx => ?_)
  have hz : k < 1 := (List.getElem?_eq_some_iff.mp hx).1
  rw [show k = 0 by omega] at hx
  cases hx
  have ht : (newC h 13 N).2.1 h.1 = (13, N) := upR_same _ _ _
  rw [hE_arJ ht]
  show H1[B0 + h.1]? = some (vp_cell _ _)
  rw [e1]
  show _ = some (arrV (ca 13) N (fun j => .long ((newC h 13 N).2.2.2.2 h.1 j)))
  unfold newC
  simp only [upR_same]
  rfl
theorem r_newR {M : Ms} {kc ks kc1 ks1 pc pc1 ix N tag t0 : Nat} {C : String} {L : List (Option Value)} {st : List Value} {h : Hp} {n : Int32} (hd : decode (mC M) pc = .ok (.anewarray ix, 3)) (hp : pc + 3 = pc1) (htag : 14 ≤ tag) (hty : ∀ ca : Nat → ClassId, (tysOf ca)[t0]? = some (ca tag, .object C)) (hao : C = RX7 ∨ C = RX6) (hcl : Cond.classLink (mY M).cls ix C ∈ TB) (hn : ¬ n < 0) (hN : n.toNatClampNeg = N) (hb : N * 4 ≤ 536870912) (hf : kc + 1 ≤ mK M ∧ ks + N ≤ mS M) (hkc : kc + 1 = kc1) (hks : ks + N = ks1) : St M kc1 ks1 pc1 L (.ref h.1 :: st) (newC h tag N) kc ks pc L (.int n :: st) h := by
  subst hp hkc hks hN
  intro p l e R s m args below meth c D ca sv B0 Z ok k H locs ls hP hS hl hz T hT X
  obtain ⟨ox, ob, oml, oown, ohts, oX, oB, oret, olk, onm, rfl⟩ := ok
  have hsz := hsize X hT hP hS oB hz
  have hAO : va_AO C s := by
    rcases hao with rfl | rfl
    · exact oX.2.2.1
    · exact oX.2.2.2.1
  refine W.anew ox ob oown (ohts _ hcl) (va_AO.use hAO) (g := F0 m pc ls ((.int n :: st).map (ph B0 sv))) rfl hd rfl hn hb hf.1 hf.2 (fun cA kA comp f1 f2 f3 f4 => ?_) T hT X
  obtain ⟨-, kA', comp', g1, g2, g3, g4⟩ := oX.1.2 t0 _ (hty ca)
  have hcA : cA = ca tag := Option.some.inj (f1.symm.trans g4)
  subst hcA
  generalize hH1 : H.push ({ cls := ca tag, slots := Array.replicate n.toNatClampNeg .null, vm := .none } : Cell) = H1
  have z1 : H1.size = H.size + 1 := by rw [← hH1, Array.size_push]
  have e1 : H1[H.size]? = some (arrV (ca tag) n.toNatClampNeg (fun _ => .null)) := by rw [← hH1, Array.getElem?_push_size, ← arrV_new]
  have o1 : ∀ q : Nat, q < H.size → H1[q]? = H[q]? := fun q hq => by rw [← hH1, Array.getElem?_push, if_neg (Nat.ne_of_lt hq)]
  rw [hsz] at z1 e1 o1 ⊢
  have hk : ∀ (k : Nat) (x : Nat × va_E), (wld ca B0 h)[k]? = some x → H1[x.1]? = H[x.1]? := fun k x hx => o1 x.1 (by
    have := (hP k x hx).lt
    omega)
  refine k H1 locs ls ?_ ⟨Nat.le_trans hS.1 (by omega), fun x h1 h2 => (o1 x (by omega)).trans (hS.2.1 x h1 h2), hS.2.2⟩ hl (by show s.heap.size + (kc + 1) = B0 + (h.1 + 1); omega)
  rw [wld_new]
  refine (hP.kept hk).app (fun k x hx => ?_)
  have hz : k < 1 := (List.getElem?_eq_some_iff.mp hx).1
  rw [show k = 0 by omega] at hx
  cases hx
  have ht : (newC h tag n.toNatClampNeg).2.1 h.1 = (tag, n.toNatClampNeg) := upR_same _ _ _
  rw [hE_arR ht htag]
  show H1[B0 + h.1]? = some (vp_cell _ _)
  rw [e1, vp_cell_q]
  unfold newC
  simp only [upR_same]
  rfl
theorem r_aastore {M : Ms} {kc ks pc pc1 a n v tag t0 ct vn : Nat} {L : List (Option Value)} {st : List Value} {h : Hp} {i : Int32} {r : vw_C} (hd : decode (mC M) pc = .ok (.aastore, 1)) (hp : pc + 1 = pc1) (htag : 14 ≤ tag) (hty : ∀ ca : Nat → ClassId, (tysOf ca)[t0]? = some (ca tag, .object r.1)) (hc : vwCl[ct]? = some r) (hct : ct < 11) (ht : h.2.1 a = (tag, n)) (hn : a < h.1) (hv : h.2.1 v = (ct, vn)) (hvn : v < h.1) (hi : vp_in i n) : St M kc ks pc1 L st (setR h a i.toNatClampNeg v) kc ks pc L (.ref v :: .int i :: .ref a :: st) h := by
  subst hp
  intro p l e R s m args below meth c D ca sv B0 Z ok k H locs ls hP hS hl hz
  refine va_astq ok.1 ok.2.1 ok.2.2.2.2.2.1.1 hP (wld_D ca B0 h) hS a t0 v ct (by rw [wld_get hn, hE_arR ht htag]) (hty ca) (by rw [wld_get hvn, hE_obj hv hct]) hc hi hd (fun H1 locs1 hP1 _ hS1 => k H1 locs1 ls ?_ hS1 hl hz)
  rwa [wld_set (h := h) (h' := setR h a i.toNatClampNeg v) rfl hE_setR] at hP1
  rw [hE_arR (h := setR h a i.toNatClampNeg v) (n := n) ht htag]
  congr 4
  simp only [Sum.inr.injEq]
  funext q
  unfold setR va_up
  by_cases e : q = i.toNatClampNeg
  · subst e
    simp [up2_same]
  · simp [up2_slot _ _ e, e]
