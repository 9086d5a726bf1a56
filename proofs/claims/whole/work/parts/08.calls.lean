-- calls
theorem tb_good {w : Cond} (h : w ∈ TB) : (w.onTables && w.keeps) = true ∨ ∃ ty, w = .arrayClass ty := good_of_word (List.mem_filter.mp h).2
theorem tb_in {ws : List Cond} (h : ∀ w ∈ ws, w ∈ TB) : GoodIn TB ws := fun w hw => ⟨h w hw, tb_good (h w hw)⟩
theorem tb_cons {M : Ms} (h : mW M ∈ TB) : ∀ w ∈ mW M :: TB, w ∈ TB := fun w hw => (List.mem_cons.mp hw).elim (fun e => e ▸ h) id
/-- what the tables say of a method: of any, of one that is called virtually, statically, of a constructor -/
def MOk (M : Ms) (n : Nat) : Prop := mW M ∈ TB ∧ Cond.initialized (mY M).cls ∈ TB ∧ (mY M).cls ≠ "java/lang/invoke/MethodHandle" ∧ (mY M).cls ≠ "java/lang/invoke/VarHandle" ∧ (parseMethodDescriptor (mY M).desc).map (fun d => d.parameters.length) = some n
def MV (M : Ms) (n : Nat) : Prop := MOk M n ∧ Cond.instanceMethod (mY M) ∈ TB ∧ Cond.selects (mY M).cls (mY M) (mY M) ∈ TB
def MS (M : Ms) (n : Nat) : Prop := MOk M n ∧ Cond.static (mY M) ∈ TB
def MI (M : Ms) (n : Nat) : Prop := MOk M n ∧ Cond.instanceMethod (mY M) ∈ TB ∧ (mY M).name = "<init>" ∧ mR M = none
def Rm (M M' : Ms) : Prop := mF M' + 1 ≤ mF M ∧ 8 + (mL M' + 11) + mO M' ≤ mO M
theorem st_cat {B0 : Nat} {sv : Nat → Value} (hs : ∀ k, (sv k).category = 1) (st : List Value) : ((st.map (ph B0 sv)).map fun v => v.category).sum = (st.map fun v => v.category).sum := by
  rw [List.map_map]
  congr 1
  apply List.map_congr_left
  intro v _
  exact ph_cat hs v
theorem at_obj {D : va_G} {ca : Nat → ClassId} {B0 : Nat} {h : Hp} {H : Heap} {s : State} {b tag n0 : Nat} {C : String} (hK : va_K D vwCl (tysOf ca) s) (hP : va_P D vwCl (wld ca B0 h) H) (ht : h.2.1 b = (tag, n0)) (hn : b < h.1) (hl : tag < 11) (hc : ∃ q, vwCl[tag]? = some q ∧ q.1 = C) : ∃ cell : Cell, H[B0 + b]? = some cell ∧ cell.vm.isStatics = false ∧ s.vm.findClass C = some cell.cls := by
  obtain ⟨q, h1, rfl⟩ := hc
  exact va_recv hK hP (ci := tag) (q0 := b) h1 (by rw [wld_get hn, hE_obj ht hl])
/-- behind a call -/
theorem called {M : Ms} {p : Program} {l : Launch} {e : Env} {R : Room} {s : State} {m : MethodId} {args : Array Value} {below : List Frame} {meth : Method} {c : Code} {D : va_G} {ca : Nat → ClassId} {sv : Nat → Value} {B0 : Nat} {Z : State → Prop} {kc ks kc1 ks1 pc pc1 mc ms nL : Nat} {L : List (Option Value)} {st st0 st1 : List Value} {h h' : Hp} {r : Option Value} {av : Array Value} {H : Heap} {locs : List Loc} {ls : Array Slot} {T : State}
    (k : Go0 p l e R s m args below meth c D ca sv B0 nL Z kc1 ks1 pc1 L st1 h') (hp : pc + 3 = pc1) (hst : r.toList ++ st = st1) (hkc : kc + mc = kc1) (hks : ks + ms = ks1) (hl : Lc B0 sv nL ls L) (hS : va_S (fun q => B0 ≤ q) s.heap H locs) (hT : T.heap = H) (X : Stand p l e R s m args below meth c T locs kc ks) (hz : s.heap.size + kc = B0 + h.1) (hsz : H.size = B0 + h.1)
    (hr : va_Run p l e R s m args below meth c H locs kc ks mc ms (F0 m pc ls (st0.map (ph B0 sv))) (st.map (ph B0 sv)) (qC D ca sv B0 mc (fun r1 h1 => r1 = r ∧ h1 = h') av) (fun q => B0 ≤ q)) : ∃ t, Steps p.tables e below (T.setTop (F0 m pc ls (st0.map (ph B0 sv)))) t ∧ Z t := by
  subst hp; subst hst; subst hkc; subst hks
  obtain ⟨v, st₀, t, T', L', e0, X', hL', e1, e2, ⟨⟨r1, h1, hv, ⟨rfl, rfl⟩, hsz', hP'⟩, hF⟩, hgo⟩ := hr T hT X
  obtain rfl : v = r1.map (ph B0 sv) := Outcome.returned.inj hv
  have hS' : va_S (fun q => B0 ≤ q) s.heap T'.heap (locs ++ L') := by
    refine ⟨?_, fun q h1 h2 => ?_, fun q hq => ?_⟩
    · rw [e1]
      exact Nat.le_trans hS.1 (by rw [← e0]; exact hF.1)
    · rw [e1, hF.2 q (by rw [e0]; exact Nat.lt_of_lt_of_le h1 hS.1) h2, e0]
      exact hS.2.1 q h1 h2
    · rcases List.mem_append.mp hq with h1 | h1
      · exact hS.2.2 q h1
      · exact hL' q h1
  obtain ⟨t2, a1, b1⟩ := k T'.heap (locs ++ L') ls (by rw [e1]; exact hP') hS' hl (by rw [e0] at hsz'; omega) T' rfl X'
  refine ⟨t2, hgo t2 ?_, b1⟩
  have hs : (r1.toList ++ st).map (ph B0 sv) = (r1.map (ph B0 sv)).toList ++ st.map (ph B0 sv) := by
    cases r1 <;> simp
  rw [hs] at a1
  exact a1
section CoreCalls
theorem r_callV {M M' : Ms} {kc ks kc1 ks1 pc pc1 ix b tag n0 : Nat} {L : List (Option Value)} {as st st0 st1 : List Value} {h h' : Hp} {r : Option Value} (ev : EvD M' (.ref b :: as) h r h') (mv : MV M' as.length) (hlk : Cond.methodLink (mY M).cls ix (mY M') ∈ TB) (hrm : Rm M M') (ht : h.2.1 b = (tag, n0)) (hn : b < h.1) (htg : tag < 11) (hc : ∃ q, vwCl[tag]? = some q ∧ q.1 = (mY M').cls)
    (hf : kc + mK M' ≤ mK M ∧ ks + mS M' ≤ mS M) (hw : (st.map fun v => v.category).sum ≤ 8) (hd : decode (mC M) pc = .ok (.invokevirtual ix, 3)) (hp : pc + 3 = pc1) (hs0 : as.reverse ++ .ref b :: st = st0) (hs1 : r.toList ++ st = st1) (hkc : kc + mK M' = kc1) (hks : ks + mS M' = ks1) : St M kc1 ks1 pc1 L st1 h' kc ks pc L st0 h := by
  intro p l e R s m args below meth c D ca sv B0 Z ok k H locs ls hP hS hl hz T hT X
  obtain ⟨ox, ob, oml, oown, ohts, oX, oB, oret, olk, onm, rfl⟩ := ok
  have hsz := hsize X hT hP hS oB hz
  obtain ⟨⟨m1, m2, m3, m4, m5⟩, m6, m7⟩ := mv
  have hs := oX.2.2.2.2.1
  subst hs0
  refine called (M := M) k hp hs1 hkc hks hl hS hT X hz hsz (va_runV (As := as.map (ph B0 sv)) (b := B0 + b) (C := (mY M').cls) (Ts := TB) ⟨ox, ob, oml, oown, ohts⟩ (ev l D ca sv B0) (cwV as.length ohts (tb_in (fun w hw => ?_)) rfl rfl rfl ⟨rfl, m3, m4, m5⟩ hrm) ⟨pC_blind, at_obj oX.1 hP ht hn htg hc, fun U hU hW => ⟨by simp [ph], by rw [hU]; exact hsz, by rw [hU]; exact hP, oX.warm hW (by rw [hU]; exact hS.2.1)⟩⟩ rfl (by simp) hl.1 (by simp [ph]) (lv_room (by rw [st_cat hs]; exact hw)) hd hf)
  simp only [wsV, List.mem_append, List.mem_cons, List.not_mem_nil, or_false] at hw
  rcases hw with (rfl | rfl | rfl | rfl) | rfl | hw
  · exact hlk
  · exact m6
  · exact m7
  · exact m2
  · exact m1
  · exact hw
theorem r_callS {M M' : Ms} {kc ks kc1 ks1 pc pc1 ix : Nat} {L : List (Option Value)} {as st st0 st1 : List Value} {h h' : Hp} {r : Option Value} (ev : EvD M' as h r h') (mv : MS M' as.length) (hlk : Cond.methodLink (mY M).cls ix (mY M') ∈ TB) (hrm : Rm M M')
    (hf : kc + mK M' ≤ mK M ∧ ks + mS M' ≤ mS M) (hw : (st.map fun v => v.category).sum ≤ 8) (hd : decode (mC M) pc = .ok (.invokestatic ix, 3)) (hp : pc + 3 = pc1) (hs0 : as.reverse ++ st = st0) (hs1 : r.toList ++ st = st1) (hkc : kc + mK M' = kc1) (hks : ks + mS M' = ks1) : St M kc1 ks1 pc1 L st1 h' kc ks pc L st0 h := by
  intro p l e R s m args below meth c D ca sv B0 Z ok k H locs ls hP hS hl hz T hT X
  obtain ⟨ox, ob, oml, oown, ohts, oX, oB, oret, olk, onm, rfl⟩ := ok
  have hsz := hsize X hT hP hS oB hz
  obtain ⟨⟨m1, m2, m3, m4, m5⟩, m6⟩ := mv
  have hs := oX.2.2.2.2.1
  subst hs0
  refine called (M := M) k hp hs1 hkc hks hl hS hT X hz hsz (va_runS (As := as.map (ph B0 sv)) (Ts := TB) ⟨ox, ob, oml, oown, ohts⟩ (ev l D ca sv B0) (va_cwS as.length ohts (tb_in (fun w hw => ?_)) rfl rfl rfl ⟨m3, m4, m5⟩ hrm) ⟨pC_blind, fun U hU hW => ⟨rfl, by rw [hU]; exact hsz, by rw [hU]; exact hP, oX.warm hW (by rw [hU]; exact hS.2.1)⟩⟩ rfl (by simp) hl.1 (by simp) (lv_room (by rw [st_cat hs]; exact hw)) hd hf)
  simp only [va_wsS, List.mem_append, List.mem_cons, List.not_mem_nil, or_false] at hw
  rcases hw with (rfl | rfl | rfl) | rfl | hw
  · exact hlk
  · exact m6
  · exact m2
  · exact m1
  · exact hw
theorem nest_use {D : va_G} {ca : Nat → ClassId} {sv : Nat → Value} {B0 : Nat} {s : State} {H : Heap} {w : Cond} (oX : CX D ca sv B0 s H) (h : w ∈ nestW) : va_Nw w s := by
  obtain ⟨a, i, x, b, rfl, hz⟩ := oX.2.1 w h
  exact hz
theorem r_callSN {M M' : Ms} {host : String} {kc ks kc1 ks1 pc pc1 ix : Nat} {L : List (Option Value)} {as st st0 st1 : List Value} {h h' : Hp} {r : Option Value} (ev : EvD M' as h r h') (mv : MS M' as.length) (hlk : Cond.methodLinkNest (mY M).cls ix (mY M') host ∈ nestW) (hrm : Rm M M')
    (hf : kc + mK M' ≤ mK M ∧ ks + mS M' ≤ mS M) (hw : (st.map fun v => v.category).sum ≤ 8) (hd : decode (mC M) pc = .ok (.invokestatic ix, 3)) (hp : pc + 3 = pc1) (hs0 : as.reverse ++ st = st0) (hs1 : r.toList ++ st = st1) (hkc : kc + mK M' = kc1) (hks : ks + mS M' = ks1) : St M kc1 ks1 pc1 L st1 h' kc ks pc L st0 h := by
  intro p l e R s m args below meth c D ca sv B0 Z ok k H locs ls hP hS hl hz T hT X
  obtain ⟨ox, ob, oml, oown, ohts, oX, oB, oret, olk, onm, rfl⟩ := ok
  have hsz := hsize X hT hP hS oB hz
  obtain ⟨⟨m1, m2, m3, m4, m5⟩, m6⟩ := mv
  have hs := oX.2.2.2.2.1
  subst hs0
  exact called (M := M) k hp hs1 hkc hks hl hS hT X hz hsz (va_runSN (As := as.map (ph B0 sv)) (Ts := TB) ⟨ox, ob, oml, oown, ohts⟩ (ev l D ca sv B0) ⟨va_cnB as.length ohts (tb_in (tb_cons m1)) rfl rfl rfl (nest_use oX hlk) (ohts _ m2) ⟨m3, m4, m5⟩ hrm, ohts _ m6, trivial⟩ ⟨pC_blind, fun U hU hW => ⟨rfl, by rw [hU]; exact hsz, by rw [hU]; exact hP, oX.warm hW (by rw [hU]; exact hS.2.1)⟩⟩ rfl (by simp) hl.1 (by simp) (lv_room (by rw [st_cat hs]; exact hw)) hd hf)
theorem r_callI {M M' : Ms} {kc ks kc1 ks1 pc pc1 ix b : Nat} {L : List (Option Value)} {as st st0 st1 : List Value} {h h' : Hp} (ev : EvD M' (.ref b :: as) h none h') (mv : MI M' as.length) (hlk : Cond.methodLink (mY M).cls ix (mY M') ∈ TB) (hrm : Rm M M')
    (hf : kc + mK M' ≤ mK M ∧ ks + mS M' ≤ mS M) (hw : (st.map fun v => v.category).sum ≤ 8) (hd : decode (mC M) pc = .ok (.invokespecial ix, 3)) (hp : pc + 3 = pc1) (hs0 : as.reverse ++ .ref b :: st = st0) (hs1 : st = st1) (hkc : kc + mK M' = kc1) (hks : ks + mS M' = ks1) : St M kc1 ks1 pc1 L st1 h' kc ks pc L st0 h := by
  intro p l e R s m args below meth c D ca sv B0 Z ok k H locs ls hP hS hl hz T hT X
  obtain ⟨ox, ob, oml, oown, ohts, oX, oB, oret, olk, onm, rfl⟩ := ok
  have hsz := hsize X hT hP hS oB hz
  obtain ⟨⟨m1, m2, m3, m4, m5⟩, m6, m7, m8⟩ := mv
  have hs := oX.2.2.2.2.1
  subst hs0
  have hw0 : mW M' :: TB = Cond.code (mY M') (mC M') (mL M') none :: TB := by rw [← m8]
  exact called (M := M) (r := none) k hp hs1 hkc hks hl hS hT X hz hsz (va_runI (As := as.map (ph B0 sv)) (b := B0 + b) (Ts := TB) ⟨ox, ob, oml, oown, ohts⟩ (ev l D ca sv B0) (cwI as.length ohts (tb_in (tb_cons m1)) hw0 rfl rfl (ohts _ m2) (ohts _ hlk) (ohts _ m6) m7 ⟨m3, m4, m5⟩ hrm) ⟨pC_blind, fun U hU hW => ⟨by simp [ph], by rw [hU]; exact hsz, by rw [hU]; exact hP, oX.warm hW (by rw [hU]; exact hS.2.1)⟩⟩ rfl (by simp) hl.1 (by simp [ph]) (lv_room (by rw [st_cat hs]; exact hw)) hd hf)
theorem r_callIN {M M' : Ms} {host : String} {kc ks kc1 ks1 pc pc1 ix b : Nat} {L : List (Option Value)} {as st st0 st1 : List Value} {h h' : Hp} (ev : EvD M' (.ref b :: as) h none h') (mv : MI M' as.length) (hlk : Cond.methodLinkNest (mY M).cls ix (mY M') host ∈ nestW) (hrm : Rm M M')
    (hf : kc + mK M' ≤ mK M ∧ ks + mS M' ≤ mS M) (hw : (st.map fun v => v.category).sum ≤ 8) (hd : decode (mC M) pc = .ok (.invokespecial ix, 3)) (hp : pc + 3 = pc1) (hs0 : as.reverse ++ .ref b :: st = st0) (hs1 : st = st1) (hkc : kc + mK M' = kc1) (hks : ks + mS M' = ks1) : St M kc1 ks1 pc1 L st1 h' kc ks pc L st0 h := by
  intro p l e R s m args below meth c D ca sv B0 Z ok k H locs ls hP hS hl hz T hT X
  obtain ⟨ox, ob, oml, oown, ohts, oX, oB, oret, olk, onm, rfl⟩ := ok
  have hsz := hsize X hT hP hS oB hz
  obtain ⟨⟨m1, m2, m3, m4, m5⟩, m6, m7, m8⟩ := mv
  have hs := oX.2.2.2.2.1
  subst hs0
  have hw0 : mW M' :: TB = Cond.code (mY M') (mC M') (mL M') none :: TB := by rw [← m8]
  exact called (M := M) (r := none) k hp hs1 hkc hks hl hS hT X hz hsz (va_runIN (As := as.map (ph B0 sv)) (b := B0 + b) (Ts := TB) ⟨ox, ob, oml, oown, ohts⟩ (ev l D ca sv B0) ⟨va_cnB as.length ohts (tb_in (tb_cons m1)) hw0 rfl rfl (nest_use oX hlk) (ohts _ m2) ⟨m3, m4, m5⟩ hrm, m7, ohts _ m6⟩ ⟨pC_blind, fun U hU hW => ⟨by simp [ph], by rw [hU]; exact hsz, by rw [hU]; exact hP, oX.warm hW (by rw [hU]; exact hS.2.1)⟩⟩ rfl (by simp) hl.1 (by simp [ph]) (lv_room (by rw [st_cat hs]; exact hw)) hd hf)
theorem r_objInit {M : Ms} {kc ks pc pc1 ix a : Nat} {L : List (Option Value)} {st : List Value} {h : Hp} (hlk : Cond.methodLink (mY M).cls ix Lib.objectInit ∈ TB) (h1 : Cond.instanceMethod Lib.objectInit ∈ TB) (h2 : Cond.code Lib.objectInit ⟨#[0xb1]⟩ 1 none ∈ TB) (hf : 1 ≤ mF M) (hw : (st.map fun v => v.category).sum + 12 ≤ mO M) (hd : decode (mC M) pc = .ok (.invokespecial ix, 3)) (hp : pc + 3 = pc1) : St M kc ks pc1 L st h kc ks pc L (.ref a :: st) h := by
  subst hp
  intro p l e R s m args below meth c D ca sv B0 Z ok k H locs ls hP hS hl hz
  obtain ⟨ox, ob, oml, oown, ohts, oX, oB, oret, olk, onm, rfl⟩ := ok
  refine W.objInit ox ob oown (ohts _ hlk) (ohts _ h1) (ohts _ h2) (g := F0 m pc ls ((.ref a :: st).map (ph B0 sv))) rfl (by rw [oml]; exact hl.1) (a := B0 + a) (rest := st.map (ph B0 sv)) rfl hd hf ?_ (k H locs ls hP hS hl hz)
  rw [st_cat oX.2.2.2.2.1]
  show 2 * 0 + _ + 12 ≤ mO M
  omega
theorem r_max {M : Ms} {kc ks pc pc1 ix : Nat} {L : List (Option Value)} {st : List Value} {h : Hp} {x y : Int32} (hlk : Cond.methodLink (mY M).cls ix Lib.Math.max.name ∈ TB) (h1 : Cond.static Lib.Math.max.name ∈ TB) (h2 : Cond.initialized "java/lang/Math" ∈ TB) (h3 : Cond.code Lib.Math.max.name Lib.Math.max.code 2 (some .int) ∈ TB) (hf : 1 ≤ mF M) (hw : (st.map fun v => v.category).sum + 13 ≤ mO M) (hc : kc ≤ mK M ∧ ks ≤ mS M) (hd : decode (mC M) pc = .ok (.invokestatic ix, 3)) (hp : pc + 3 = pc1) : St M kc ks pc1 L (.int (if x < y then y else x) :: st) h kc ks pc L (.int y :: .int x :: st) h := by
  subst hp
  intro p l e R s m args below meth c D ca sv B0 Z ok k H locs ls hP hS hl hz
  obtain ⟨ox, ob, oml, oown, ohts, oX, oB, oret, olk, onm, rfl⟩ := ok
  exact va_mmax ox ob (oml.trans hl.1.symm) oown (ohts _ hlk) (ohts _ h1) (ohts _ h2) (ohts _ h3) hf (by rw [st_cat oX.2.2.2.2.1]; exact hw) hc.1 hc.2 hd (k H locs ls hP hS hl hz)
theorem r_min {M : Ms} {kc ks pc pc1 ix : Nat} {L : List (Option Value)} {st : List Value} {h : Hp} {x y : Int32} (hlk : Cond.methodLink (mY M).cls ix Lib.Math.min.name ∈ TB) (h1 : Cond.static Lib.Math.min.name ∈ TB) (h2 : Cond.initialized "java/lang/Math" ∈ TB) (h3 : Cond.code Lib.Math.min.name Lib.Math.min.code 2 (some .int) ∈ TB) (hf : 1 ≤ mF M) (hw : (st.map fun v => v.category).sum + 13 ≤ mO M) (hc : kc ≤ mK M ∧ ks ≤ mS M) (hd : decode (mC M) pc = .ok (.invokestatic ix, 3)) (hp : pc + 3 = pc1) : St M kc ks pc1 L (.int (if y < x then y else x) :: st) h kc ks pc L (.int y :: .int x :: st) h := by
  subst hp
  intro p l e R s m args below meth c D ca sv B0 Z ok k H locs ls hP hS hl hz
  obtain ⟨ox, ob, oml, oown, ohts, oX, oB, oret, olk, onm, rfl⟩ := ok
  exact va_mmin ox ob (oml.trans hl.1.symm) oown (ohts _ hlk) (ohts _ h1) (ohts _ h2) (ohts _ h3) hf (by rw [st_cat oX.2.2.2.2.1]; exact hw) hc.1 hc.2 hd (k H locs ls hP hS hl hz)
theorem r_copyI {M : Ms} {kc ks pc pc1 ix a b na nb : Nat} {L : List (Option Value)} {st : List Value} {h : Hp} {sp dp n : Int32} (hlk : Cond.methodLink (mY M).cls ix arraycopyName ∈ TB) (hw1 : Cond.native arraycopyName ∈ TB) (hw2 : Cond.static arraycopyName ∈ TB) (hw3 : Cond.initialized "java/lang/System" ∈ TB) (hta : h.2.1 a = (11, na)) (hna : a < h.1) (htb : h.2.1 b = (11, nb)) (hnb : b < h.1) (h1 : ¬ sp < 0) (h2 : ¬ dp < 0) (h3 : ¬ n < 0) (h4 : sp.toNatClampNeg + n.toNatClampNeg ≤ na) (h5 : dp.toNatClampNeg + n.toNatClampNeg ≤ nb)
    (hf : 1 ≤ mF M) (hw : (st.map fun v => v.category).sum + (nativeFrameWords "java/lang/System" "arraycopy" 5 + 11) ≤ mO M) (hd : decode (mC M) pc = .ok (.invokestatic ix, 3)) (hp : pc + 3 = pc1) : St M kc ks pc1 L st (rowI h b (va_cpy (h.2.2.2.1 a) (h.2.2.2.1 b) sp.toNatClampNeg dp.toNatClampNeg n.toNatClampNeg)) kc ks pc L (.int n :: .int dp :: .ref b :: .int sp :: .ref a :: st) h := by
  subst hp
  intro p l e R s m args below meth c D ca sv B0 Z ok k H locs ls hP hS hl hz
  obtain ⟨ox, ob, oml, oown, ohts, oX, oB, oret, olk, onm, rfl⟩ := ok
  refine va_copyi (A := fun q => B0 ≤ q) (ty := .int) ox ob (oml.trans hl.1.symm) oown (ohts _ hlk) (ohts _ hw1) (ohts _ hw2) (ohts _ hw3) oX.1 hP (wld_D ca B0 h) hS a b 0 0 (by rw [wld_get hna, hE_arI hta (by decide) (by decide)]) (by rw [wld_get hnb, hE_arI htb (by decide) (by decide)]) rfl rfl rfl h1 h2 h3 h4 h5 (fun i _ => rfl) hf (by rw [st_cat oX.2.2.2.2.1]; exact hw) hd (fun H1 locs1 hP1 _ hS1 => k H1 locs1 ls ?_ hS1 hl hz)
  rwa [wld_set (h := h) (h' := rowI h b (va_cpy (h.2.2.2.1 a) (h.2.2.2.1 b) sp.toNatClampNeg dp.toNatClampNeg n.toNatClampNeg)) rfl hE_rowI] at hP1
  rw [hE_arI (h := rowI h b (va_cpy (h.2.2.2.1 a) (h.2.2.2.1 b) sp.toNatClampNeg dp.toNatClampNeg n.toNatClampNeg)) (n := nb) htb (by decide) (by decide)]
  simp only [rowI, upR_same]
theorem r_copyJ {M : Ms} {kc ks pc pc1 ix a b na nb : Nat} {L : List (Option Value)} {st : List Value} {h : Hp} {sp dp n : Int32} (hlk : Cond.methodLink (mY M).cls ix arraycopyName ∈ TB) (hw1 : Cond.native arraycopyName ∈ TB) (hw2 : Cond.static arraycopyName ∈ TB) (hw3 : Cond.initialized "java/lang/System" ∈ TB) (hta : h.2.1 a = (13, na)) (hna : a < h.1) (htb : h.2.1 b = (13, nb)) (hnb : b < h.1) (h1 : ¬ sp < 0) (h2 : ¬ dp < 0) (h3 : ¬ n < 0) (h4 : sp.toNatClampNeg + n.toNatClampNeg ≤ na) (h5 : dp.toNatClampNeg + n.toNatClampNeg ≤ nb)
    (hf : 1 ≤ mF M) (hw : (st.map fun v => v.category).sum + (nativeFrameWords "java/lang/System" "arraycopy" 5 + 11) ≤ mO M) (hd : decode (mC M) pc = .ok (.invokestatic ix, 3)) (hp : pc + 3 = pc1) : St M kc ks pc1 L st (rowJ h b (va_cpy (h.2.2.2.2 a) (h.2.2.2.2 b) sp.toNatClampNeg dp.toNatClampNeg n.toNatClampNeg)) kc ks pc L (.int n :: .int dp :: .ref b :: .int sp :: .ref a :: st) h := by
  subst hp
  intro p l e R s m args below meth c D ca sv B0 Z ok k H locs ls hP hS hl hz
  obtain ⟨ox, ob, oml, oown, ohts, oX, oB, oret, olk, onm, rfl⟩ := ok
  refine va_copyl (A := fun q => B0 ≤ q) (ty := .long) ox ob (oml.trans hl.1.symm) oown (ohts _ hlk) (ohts _ hw1) (ohts _ hw2) (ohts _ hw3) oX.1 hP (wld_D ca B0 h) hS a b 2 2 (by rw [wld_get hna, hE_arJ hta]) (by rw [wld_get hnb, hE_arJ htb]) rfl rfl rfl h1 h2 h3 h4 h5 (fun i _ => rfl) hf (by rw [st_cat oX.2.2.2.2.1]; exact hw) hd (fun H1 locs1 hP1 _ hS1 => k H1 locs1 ls ?_ hS1 hl hz)
  rwa [wld_set (h := h) (h' := rowJ h b (va_cpy (h.2.2.2.2 a) (h.2.2.2.2 b) sp.toNatClampNeg dp.toNatClampNeg n.toNatClampNeg)) rfl hE_rowJ] at hP1
  rw [hE_arJ (h := rowJ h b (va_cpy (h.2.2.2.2 a) (h.2.2.2.2 b) sp.toNatClampNeg dp.toNatClampNeg n.toNatClampNeg)) (n := nb) htb]
  simp only [rowJ, upR_same]
-- ends
theorem g_iret {M : Ms} {Q : Option Value → Hp → Prop} {kc ks pc : Nat} {L : List (Option Value)} {h : Hp} {v : Int32} (hr : mR M = some .int) (hk : kc = mK M) (hs : ks = mS M) (hd : decode (mC M) pc = .ok (.ireturn, 1)) (q : Q (some (.int v)) h) : Go M Q kc ks pc L [.int v] h := by
  subst hk; subst hs
  intro p l e s m args below meth c D ca sv B0 ok H locs ls hP hS hl hz
  exact W.iret ok.1 ok.2.1 (ok.2.2.2.2.2.2.2.1.trans hr) (fun t ht hW => ⟨⟨some (.int v), h, rfl, q, hz.symm, by rw [ht]; exact hP⟩, hS.F ht⟩) hS.2.2 hd (hlocks := ok.2.2.2.2.2.2.2.2.1)
theorem g_zret {M : Ms} {Q : Option Value → Hp → Prop} {kc ks pc : Nat} {L : List (Option Value)} {h : Hp} {v : Int32} {ty : FieldType} (hr : mR M = some ty) (hn : narrow ty (.int v) = .int v) (hk : kc = mK M) (hs : ks = mS M) (hd : decode (mC M) pc = .ok (.ireturn, 1)) (q : Q (some (.int v)) h) : Go M Q kc ks pc L [.int v] h := by
  subst hk; subst hs
  intro p l e s m args below meth c D ca sv B0 ok H locs ls hP hS hl hz
  exact W.zret ok.1 ok.2.1 (ok.2.2.2.2.2.2.2.1.trans hr) hn (fun t ht hW => ⟨⟨some (.int v), h, rfl, q, hz.symm, by rw [ht]; exact hP⟩, hS.F ht⟩) hS.2.2 hd (hlocks := ok.2.2.2.2.2.2.2.2.1)
theorem g_lret {M : Ms} {Q : Option Value → Hp → Prop} {kc ks pc : Nat} {L : List (Option Value)} {h : Hp} {v : Int64} (hr : mR M = some .long) (hk : kc = mK M) (hs : ks = mS M) (hd : decode (mC M) pc = .ok (.lreturn, 1)) (q : Q (some (.long v)) h) : Go M Q kc ks pc L [.long v] h := by
  subst hk; subst hs
  intro p l e s m args below meth c D ca sv B0 ok H locs ls hP hS hl hz
  exact W.lret ok.1 ok.2.1 (ok.2.2.2.2.2.2.2.1.trans hr) (fun t ht hW => ⟨⟨some (.long v), h, rfl, q, hz.symm, by rw [ht]; exact hP⟩, hS.F ht⟩) hS.2.2 hd (hlocks := ok.2.2.2.2.2.2.2.2.1)
theorem g_vret {M : Ms} {Q : Option Value → Hp → Prop} {kc ks pc : Nat} {L : List (Option Value)} {h : Hp} (hr : mR M = none) (hk : kc = mK M) (hs : ks = mS M) (hd : decode (mC M) pc = .ok (.return_, 1)) (q : Q none h) : Go M Q kc ks pc L [] h := by
  subst hk; subst hs
  intro p l e s m args below meth c D ca sv B0 ok H locs ls hP hS hl hz
  exact W.vret ok.1 ok.2.1 (ok.2.2.2.2.2.2.2.1.trans hr) (fun t ht hW => ⟨⟨none, h, rfl, q, hz.symm, by rw [ht]; exact hP⟩, hS.F ht⟩) hS.2.2 hd (hlocks := ok.2.2.2.2.2.2.2.2.1)
theorem g_aret {M : Ms} {Q : Option Value → Hp → Prop} {kc ks pc : Nat} {L : List (Option Value)} {h : Hp} {a : Nat} {C : String} (hr : mR M = some (.object C)) (hk : kc = mK M) (hs : ks = mS M) (hd : decode (mC M) pc = .ok (.areturn, 1)) (q : Q (some (.ref a)) h) : Go M Q kc ks pc L [.ref a] h := by
  subst hk; subst hs
  intro p l e s m args below meth c D ca sv B0 ok H locs ls hP hS hl hz
  exact W.aret (v := .ref (B0 + a)) (rt := .object C) ok.1 ok.2.1 (ok.2.2.2.2.2.2.2.1.trans hr) (Or.inl ⟨_, rfl⟩) (Or.inr ⟨_, rfl⟩) (fun t ht hW => ⟨⟨some (.ref a), h, rfl, q, hz.symm, by rw [ht]; exact hP⟩, hS.F ht⟩) hS.2.2 hd (hlocks := ok.2.2.2.2.2.2.2.2.1)
end CoreCalls
