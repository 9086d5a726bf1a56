theorem m_inL {f : Int32} {i n : Nat} (hi : i ≤ 41) (hn : n ≤ 40) : (0 ≤ f.toInt + i ∧ f.toInt + i < n → f_X10_in (f.toInt64 + (nI i).toInt64) 0 ((nI n - 1).toInt64) = 1) ∧ (¬ (0 ≤ f.toInt + i ∧ f.toInt + i < n) → f_X10_in (f.toInt64 + (nI i).toInt64) 0 ((nI n - 1).toInt64) = 0) := by
  have h1 := f.toInt_lt
  have h2 := f.le_toInt
  have e : (f.toInt64 + (nI i).toInt64).toInt = f.toInt + i := by
    rw [Int64.toInt_add, Int32.toInt_toInt64, Int32.toInt_toInt64, nI_toInt (by omega), Int.bmod_eq_of_le (by omega) (by omega)]
  have e0 : (0 : Int64).toInt = 0 := rfl
  have eh := pred_toInt (n := n) (by omega)
  unfold f_X10_in
  constructor
  · intro hx
    rw [if_neg (by rw [lg_cmp_lt, Int64.lt_iff_toInt_lt, e, e0]; omega), if_neg (by rw [lg_cmp_gt, Int64.lt_iff_toInt_lt, e, eh]; omega)]
  · intro hx
    by_cases q : f.toInt + i < 0
    · rw [if_pos (by rw [lg_cmp_lt, Int64.lt_iff_toInt_lt, e, e0]; exact q)]
    · rw [if_neg (by rw [lg_cmp_lt, Int64.lt_iff_toInt_lt, e, e0]; exact q), if_pos (by rw [lg_cmp_gt, Int64.lt_iff_toInt_lt, e, eh]; omega)]
theorem m_flt {k l n i : Nat} {a f : Int32} {s : Sg} (hk : k < 4) (hl : l < 4) (hn : n ≤ 40) (hi : i ≤ 41) (h85 : s 85 k = rI l) (h86 : s 86 k = nI n) :
    (if (s 85 k) = (-4 : Int32) then
        some (1 : Int32)
      else
        if inR (nI k) 4 then
        if (s 85 k) = a then
          if inR (nI k) 4 then
          if (f_X10_in ((f.toInt64) + ((nI i).toInt64)) (0 : Int64) (((s 86 k) - (1 : Int32)).toInt64)) = 0 then
            some (2 : Int32)
          else
            some (0 : Int32)
          else none
        else
          some (3 : Int32)
        else none) = some (flt l n a (f.toInt + i)) := by
  have c5 : inR (nI k) 4 = true := inR_of (vp_in_nI (by omega) (by omega))
  obtain ⟨q1, q2⟩ := m_inL (f := f) (i := i) (n := n) hi hn
  unfold flt
  rw [h85, h86, if_pos c5, if_pos c5]
  by_cases z : l = 0
  · rw [if_pos z, z, if_pos rI_0]
  · rw [if_neg z, if_neg (fun q => z ((rI_none (by omega)).mp q)), show rI l = nI (l - 1) from by unfold rI; rw [if_neg z]]
    by_cases za : nI (l - 1) = a
    · rw [if_pos za, if_neg (show ¬ (nI (l - 1) ≠ a) from fun q => q za)]
      by_cases zx : 0 ≤ f.toInt + i ∧ f.toInt + i < n
      · rw [if_pos zx, q1 zx, if_neg z10]
      · rw [if_neg zx, q2 zx, if_pos rfl]
    · rw [if_neg za, if_pos za]
def RdM (R : Bool × Nat × Int32 × Pg) (A : Pg) (σ : Sg) (r : (Int32 × Int32 × Int32 × Sg) ⊕ (Int32 × Sg)) : Prop := (∃ e, r = .inl e ∧ R.1 = true ∧ e.2.1 = nI R.2.1 ∧ e.1 = R.2.2.1 ∧ RM 0 R.2.2.2 e.2.2.2 ∧ Agr (Pgp 0) σ e.2.2.2) ∨ ∃ e, r = .inr e ∧ R.1 = false ∧ e.1 = -20 - nI R.2.1 ∧ RM 0 A e.2 ∧ Agr (Pgp 0) σ e.2
theorem m_read {A : Pg} {σ : Sg} {k l n m : Nat} {a f : Int32} (hM : RM 0 A σ) (hM3 : RM 123 A σ) (hW : WF A) (hk : k < 4) (hl : l < 4) (hn : n ≤ 40) (hm : m ≤ 20) (h85 : σ 85 k = rI l) (h86 : σ 86 k = nI n) :
    Ok (wh (b_X10_read_55 (nI k) a f (nI m)) 4096 ((0 : Int32), (0 : Int32), (0 : Int32), σ)) (RdM (rd (fun i => flt l n a (f.toInt + i)) (fun i => σ 87 (40 * k + (f.toInt + i).toNat)) m 0 A) A σ) := by
  have w1 := hW.1.1
  generalize hF : (fun i : Nat => flt l n a (f.toInt + i)) = F
  generalize hV2 : (fun i : Nat => σ 87 (40 * k + (f.toInt + i).toNat)) = V
  have hF' : ∀ i : Nat, flt l n a (f.toInt + i) = F i := fun i => by rw [← hF]
  have hV' : ∀ i : Nat, σ 87 (40 * k + (f.toInt + i).toNat) = V i := fun i => by rw [← hV2]
  generalize hR : rd F V m 0 A = R
  refine wh_1 (P := fun t (e : Int32 × Int32 × Int32 × Sg) => Agr (Pgp 0) σ e.2.2.2 ∧ ((t ≤ 2 * m ∧ e.2.2.1 = nI t ∧ e.1 = 0 ∧ e.2.1 = nI (t / 2) ∧ ∃ B, RM 0 B e.2.2.2 ∧ WF B ∧ Ext A B ∧ (t % 2 = 1 → F (t - 1) = 0) ∧ rd F V (m - t / 2) (t / 2) B = R) ∨ (e.1 ≠ 0 ∧ R.1 = true ∧ e.2.1 = nI R.2.1 ∧ e.1 = R.2.2.1 ∧ RM 0 R.2.2.2 e.2.2.2))) (2 * m + 1) (by omega) ⟨Agr.rf, Or.inl ⟨Nat.zero_le _, rfl, rfl, rfl, A, hM, hW, Ext.rf, fun z => by omega, hR⟩⟩ ?_
  rintro t ⟨by', came, x, s⟩ ht ⟨hFr, hI⟩
  dsimp at hFr hI
  unfold b_X10_read_55
  dsimp +instances only
  rcases hI with ⟨htm, e1, e2, e3, B, hB, hWB, hE, hodd, hrd⟩ | ⟨z1, z2, z3, z4, z5⟩
  · subst e1 e2 e3
    rw [show (2 : Int32) = nI 2 from rfl, pk_mul]
    by_cases hlt : t < 2 * m
    · refine ok_f (show ¬ nI (2 * m) ≤ nI t from nnle hlt (by omega)) (ok_t rfl ?_)
      have s85 : s 85 = σ 85 := funext fun j => hFr _ _ (by unfold Pgp; omega)
      have s86 : s 86 = σ 86 := funext fun j => hFr _ _ (by unfold Pgp; omega)
      have s87 : s 87 = σ 87 := funext fun j => hFr _ _ (by unfold Pgp; omega)
      have c5 : inR (nI k) 4 = true := inR_of (vp_in_nI (by omega) (by omega))
      refine ok_t c5 ?_
      rw [nI_clamp (by omega)]
      refine ok_be (y := F t) (by
        rw [← hF']
        exact m_flt hk hl hn (by omega) (by rw [s85]; exact h85) (by rw [s86]; exact h86)) ?_
      rw [imod (by omega) (by omega)]
      obtain ⟨c, hc⟩ : ∃ c, t = 2 * c ∨ t = 2 * c + 1 := ⟨t / 2, by omega⟩
      rcases hc with rfl | rfl
      · have d1 : 2 * c / 2 = c := by omega
        have d2 : (2 * c + 1) / 2 = c := by omega
        have d3 : 2 * c % 2 = 0 := by omega
        rw [d1] at hrd ⊢
        rw [d3]
        by_cases g1 : F (2 * c) = 0
        · refine ok_t g1 (ok_f (by decide) (ok_some (Or.inl ⟨by omega, _, rfl, hFr, Or.inl ⟨by omega, nI_1 _, g1, ?_, B, hB, hWB, hE, fun _ => ?_, ?_⟩⟩)))
          · rw [d2]
          · rw [Nat.add_sub_cancel]; exact g1
          · rw [d2]; exact hrd
        · have hmt : m - c = (m - (c + 1)) + 1 := by omega
          rw [hmt] at hrd
          unfold rd at hrd
          rw [if_pos g1] at hrd
          refine ok_f g1 (ok_some (Or.inl ⟨by omega, _, rfl, hFr, Or.inr ⟨g1, ?_, ?_, ?_, ?_⟩⟩))
          · rw [← hrd]
          · rw [← hrd]
          · rw [← hrd]
          · rw [← hrd]; exact hB
      · have d1 : (2 * c + 1) / 2 = c := by omega
        have d2 : (2 * c + 1 + 1) / 2 = c + 1 := by omega
        have d3 : (2 * c + 1) % 2 = 1 := by omega
        have g1 := hodd d3
        rw [Nat.add_sub_cancel] at g1
        rw [d1] at hrd ⊢
        rw [d3]
        have hmt : m - c = (m - (c + 1)) + 1 := by omega
        rw [hmt] at hrd
        unfold rd at hrd
        rw [if_neg (fun z => z g1)] at hrd
        by_cases g2 : F (2 * c + 1) = 0
        · rw [if_neg (fun z => z g2)] at hrd
          refine ok_t g2 (ok_t rfl (ok_app ?_))
          have y1 := g1
          have y2 := g2
          rw [← hF'] at y1 y2
          obtain ⟨-, -, y3, y4⟩ := flt0 y1
          obtain ⟨-, -, y5, y6⟩ := flt0 y2
          have ev : ((40 : Int32) * nI k + f) + nI (2 * c + 1) = nI (40 * k + (f.toInt + (2 * c + 1 : Nat)).toNat) := by
            rw [show (40 : Int32) = nI 40 from rfl, pk_mul, Int32.add_assoc, idx_in (n := n) (by omega) hn ⟨y5, y6⟩, nI_add]
          have et : (f.toInt + (2 * c + 1 : Nat)).toNat = (f.toInt + (2 * c : Nat)).toNat + 1 := by omega
          rw [ev, show nI (40 * k + (f.toInt + (2 * c + 1 : Nat)).toNat) - 1 = nI (40 * k + (f.toInt + (2 * c : Nat)).toNat) from by
            rw [et, show 40 * k + ((f.toInt + (2 * c : Nat)).toNat + 1) = (40 * k + (f.toInt + (2 * c : Nat)).toNat) + 1 by omega]
            exact nI_pred _]
          refine ok_in (vp_in_nI (by omega) (by omega)) (ok_in (vp_in_nI (by omega) (by omega)) ?_)
          rw [nI_clamp (by omega), nI_clamp (by omega), s87, hV', hV']
          refine ok_bind (m_drv hB hWB.1) (fun y hy => ?_)
          obtain ⟨u1, u2, u3⟩ := hy
          rw [u1]
          have hWD := WF_drv (a := V (2 * c)) (r := V (2 * c + 1)) hWB
          have hED := Ext_drv (a := V (2 * c)) (r := V (2 * c + 1)) hE hWB.1.1
          by_cases hd : (drv B (V (2 * c)) (V (2 * c + 1))).1 < 0
          · rw [if_pos hd] at hrd
            refine ok_f (by rw [← Int32.not_lt]; exact fun q => q hd) ?_
            have hM3' : RM 123 A y.2 := (hM3.ag hFr (fun j z => by unfold Pgp at z; omega)).ag u3 (fun j z => by unfold Pgp at z; omega)
            refine ok_bind (m_copies (p := 123) (q := 0) hM3' (by omega) (by omega) (by omega)) (fun v hv => ok_some (Or.inr ⟨_, rfl, Or.inr ⟨_, rfl, ?_, ?_, hv.1, (hFr.tr u3).tr hv.2⟩⟩))
            · rw [← hrd]
            · rw [← hrd]
          · rw [if_neg hd] at hrd
            refine ok_t (by rw [← Int32.not_lt]; exact hd) (ok_some (Or.inl ⟨by omega, _, rfl, hFr.tr u3, Or.inl ⟨by omega, nI_1 _, g2, ?_, _, u2, hWD, hED, fun z => by omega, ?_⟩⟩))
            · rw [d2]; exact nI_1 _
            · rw [d2]; exact hrd
        · rw [if_pos g2] at hrd
          refine ok_f g2 (ok_some (Or.inl ⟨by omega, _, rfl, hFr, Or.inr ⟨g2, ?_, ?_, ?_, ?_⟩⟩))
          · rw [← hrd]
          · rw [← hrd]
          · rw [← hrd]
          · rw [← hrd]; exact hB
    · obtain rfl : t = 2 * m := by omega
      rw [show 2 * m / 2 = m by omega] at hrd ⊢
      rw [Nat.sub_self] at hrd
      unfold rd at hrd
      refine ok_t (show nI (2 * m) ≤ nI (2 * m) from nle (Nat.le_refl _) (by omega)) (ok_some (Or.inr ⟨_, rfl, Or.inl ⟨_, rfl, ?_, ?_, ?_, ?_, hFr⟩⟩))
      · rw [← hrd]
      · rw [← hrd]
      · rw [← hrd]
      · rw [← hrd]; exact hB
  · by_cases hlt : (2 : Int32) * nI m ≤ x
    · exact ok_t hlt (ok_some (Or.inr ⟨_, rfl, Or.inl ⟨_, rfl, z2, z3, z4, z5, hFr⟩⟩))
    · exact ok_f hlt (ok_f z1 (ok_some (Or.inr ⟨_, rfl, Or.inl ⟨_, rfl, z2, z3, z4, z5, hFr⟩⟩)))
theorem op_read {σ : Sg} (h : Inv σ) (a b f d : Int32) : Op (f_X9_read a b f d σ) (f_X10_read a b f d) := by
  obtain ⟨A, I, h⟩ := h
  obtain ⟨h1, h2, h3, h4, h5, h6, h7, h8, h9, h10, h11⟩ := id h
  have w1 := h4.1.1
  have m1 := mIn0 (x := a) (hi := 3) (n := 4) (by decide)
  have m2 := mIn0 (x := b) (hi := 2) (n := 3) (by decide)
  have m3 := mIn0 (x := d) (hi := 20) (n := 21) (by decide)
  have g3 := pq0 (x := d) (n := 20) (by omega)
  by_cases ha : vp_in a 4
  · by_cases hb : vp_in b 3
    · by_cases hd : vp_in d 21
      · obtain ⟨k, hk, rfl⟩ := vin_nI ha (by omega)
        obtain ⟨m, hm, rfl⟩ := vin_nI hd (by omega)
        obtain ⟨l, n, q1, q2, q3, q4, q5, q6, q7⟩ := h10 k hk
        have c5 : inR (nI k) 4 = true := inR_of (vp_in_nI (by omega) (by omega))
        have hx := x_read (a := b) (f := f) (m := m) h1 h4 hk q1 q2 (by omega) q3 q5 q7
        have hok := rd_ok (F := fun i => flt l n b (f.toInt + i)) (V := fun i => σ 87 (40 * k + (f.toInt + i).toNat)) m 0 A h4
        have ex : f_X9_read (nI k) b f (nI m) σ = (wh (b_X9_read_51 (nI k) b f (nI m) (nI (A 38))) 4096 ((0 : Int32), (0 : Int32), σ)).bind fun (r19 : ((Int32 × Int32 × Sg) ⊕ (Int32 × Sg))) =>
          Sum.elim (fun (e17 : (Int32 × Int32 × Sg)) =>
            some (e17.1, (up2 e17.2.2 0 13 e17.2.1))) (fun (y18 : (Int32 × Sg)) => some y18) r19 := by
          unfold f_X9_read
          rw [xSheet.1 ha, xLane.1 hb, if_neg z10, if_neg z10, if_neg (g3.mpr hd).1, if_pos (show nI m ≤ (20 : Int32) from (g3.mpr hd).2), if_pos c5]
          simp only [app]
          rw [show σ 1 2 = nI (A 38) from h1.1]
        have em : ∀ s : Sg, f_X10_read (nI k) b f (nI m) s = (f_X10_copies (0 : Int32) (123 : Int32) s).bind fun (y4 : Sg) =>
        (wh (b_X10_read_55 (nI k) b f (nI m)) 4096 ((0 : Int32), (0 : Int32), (0 : Int32), y4)).bind fun (r25 : ((Int32 × Int32 × Int32 × Sg) ⊕ (Int32 × Sg))) =>
        Sum.elim (fun (e23 : (Int32 × Int32 × Int32 × Sg)) =>
          some (e23.2.1, (up2 e23.2.2.2 75 28 e23.1))) (fun (y24 : (Int32 × Sg)) => some y24) r25 := fun s => by
          unfold f_X10_read
          rw [m1.1 ha, m2.1 hb, m3.1 hd, if_neg z10, if_neg z10, if_neg z10]
        generalize hR : rd (fun i => flt l n b (f.toInt + i)) (fun i => σ 87 (40 * k + (f.toInt + i).toNat)) m 0 A = R at hx hok
        -- the reference, from any state that agrees
        have hmr : ∀ σ1 : Sg, Agr (fun c j => (1 ≤ c ∧ c ≤ 9) ∨ (c = 0 ∧ j = 13)) σ σ1 → ∃ s2, Agr (fun c j => c = 76 ∧ (j < 41 ∨ 123 ≤ j)) σ1 s2 ∧ ((R.1 = true ∧ f_X10_read (nI k) b f (nI m) σ1 = some (nI R.2.1, up2 s2 75 28 R.2.2.1) ∧ RM 0 R.2.2.2 s2) ∨ (R.1 = false ∧ f_X10_read (nI k) b f (nI m) σ1 = some (-20 - nI R.2.1, s2) ∧ RM 0 A s2)) := fun σ1 hσ1 => by
          obtain ⟨s0, p1, p2, p3⟩ := m_copies (p := 0) (q := 123) (h2.ag hσ1 (fun j z => by omega)) (by omega) (by omega) (by omega)
          have hA : Agr (fun c j => (1 ≤ c ∧ c ≤ 9) ∨ (c = 0 ∧ j = 13) ∨ (c = 76 ∧ 123 ≤ j)) σ s0 := (hσ1.mono (fun c j z => by omega)).tr (p3.mono (fun c j z => by unfold Pgp at z; omega))
          have s87 : s0 87 = σ 87 := funext fun j => hA _ _ (by omega)
          obtain ⟨r, u1, u2⟩ := m_read (a := b) (f := f) (m := m) (h2.ag hA (fun j z => by omega)) p2 h4 hk q1 q2 (by omega) (by rw [hA _ _ (by omega)]; exact q4) (by rw [hA _ _ (by omega)]; exact q6)
          rw [s87, hR] at u2
          have p1' : f_X10_copies 0 123 σ1 = some s0 := p1
          rw [em, p1', Option.bind_some, u1, Option.bind_some]
          rcases u2 with ⟨⟨e1, e2, e3, e4⟩, rfl, v1, v2, v3, v4, v5⟩ | ⟨⟨e1, e2⟩, rfl, v1, v2, v3, v4⟩
          · dsimp at v2 v3 v4 v5
            subst v2 v3
            exact ⟨e4, (p3.mono (fun c j z => by unfold Pgp at z; omega)).tr (v5.mono (fun c j z => by unfold Pgp at z; omega)), Or.inl ⟨v1, rfl, v4⟩⟩
          · dsimp at v2 v3 v4
            subst v2
            exact ⟨e2, (p3.mono (fun c j z => by unfold Pgp at z; omega)).tr (v4.mono (fun c j z => by unfold Pgp at z; omega)), Or.inr ⟨v1, rfl, v3⟩⟩
        obtain ⟨r, u1, u2⟩ := hx
        rw [u1, Option.bind_some] at ex
        rcases u2 with ⟨⟨e1, e2, e3⟩, rfl, v1, v2, v3, v4, v5⟩ | ⟨⟨e1, e2⟩, rfl, v1, v2, v3, v4⟩
        · dsimp at v2 v3 v4 v5 ex
          subst v2 v3
          have hσ1 : Agr (fun c j => (1 ≤ c ∧ c ≤ 9) ∨ (c = 0 ∧ j = 13)) σ (up2 e3 0 13 R.2.2.1) := (Agr.fr v5 (fun c j z => by unfold slp at z; omega)).up (by omega)
          obtain ⟨s2, f1, f2⟩ := hmr _ hσ1
          rcases f2 with ⟨-, f3, f4⟩ | ⟨f3, -⟩
          · have hS : Agr (fun c j => (1 ≤ c ∧ c ≤ 9) ∨ (c = 0 ∧ j = 13) ∨ (c = 75 ∧ j = 28) ∨ (c = 76 ∧ (j < 41 ∨ 123 ≤ j))) σ (up2 s2 75 28 R.2.2.1) := ((hσ1.mono (fun c j z => by omega)).tr (f1.mono (fun c j z => by omega))).up (by omega)
            refine ⟨_, _, _, ex, f3, R.2.2.2, I, ?_, ?_, by rw [hS _ _ (by omega), hok.2]; exact h3, hok.1, fun i hi => ?_, h6.ag hS (fun c j z => by omega), by rw [hok.2]; exact h7.ag hS (fun c j z => by omega), by rw [hS _ _ (by omega), hS _ _ (by omega)]; exact h8, ?_, h10.ag hS (fun c j z => by omega), h11.ag hS (fun c j z => by omega)⟩
            · refine ((v4.keep (fun k hk => up2_cell _ _ _ (by omega))).ag f1 (fun c j z => by omega)).keep (fun k hk => up2_cell _ _ _ (by omega))
            · exact f4.keep (up2_cell _ _ _ (by decide))
            · have := (h5 i hi).ag hS (fun c j z => by omega)
              unfold Img at this ⊢
              rw [hok.2]
              exact this
            · rw [up2_same, up2_cell _ _ _ (by decide), f1 0 13 (by omega), up2_same]
          · rw [v1] at f3; cases f3
        · dsimp at v2 v3 v4 ex
          subst v2
          have hσ1 : Agr (fun c j => (1 ≤ c ∧ c ≤ 9) ∨ (c = 0 ∧ j = 13)) σ e2 := Agr.fr v4 (fun c j z => by unfold slp at z; omega)
          obtain ⟨s2, f1, f2⟩ := hmr _ hσ1
          rcases f2 with ⟨f3, -⟩ | ⟨-, f3, f4⟩
          · rw [v1] at f3; cases f3
          · have hS : Agr Pgs σ s2 := (Agr.fr v4 (fun c j z => slp_Pgs z)).tr (f1.mono (fun c j z => by unfold Pgs; omega))
            exact ⟨_, _, _, ex, f3, A, I, h.page hS (fun c j z => z) (v3.ag f1 (fun c j z => by omega)) f4 rfl h4⟩
      · refine op_0 h (r := -1) ?_ ?_
        · unfold f_X9_read
          rw [xSheet.1 ha, xLane.1 hb, if_neg z10, if_neg z10]
          by_cases c1 : d < 0
          · rw [if_pos c1]
          · rw [if_neg c1, if_neg (show ¬ d ≤ (20 : Int32) from fun c2 => hd (g3.mp ⟨c1, c2⟩))]
        · unfold f_X10_read
          rw [m1.1 ha, m2.1 hb, m3.2 hd, if_neg z10, if_neg z10, if_pos rfl]
    · refine op_0 h (r := -1) ?_ ?_
      · unfold f_X9_read
        rw [xSheet.1 ha, xLane.2 hb, if_neg z10, if_pos rfl]
      · unfold f_X10_read
        rw [m1.1 ha, m2.2 hb, if_neg z10, if_pos rfl]
  · refine op_0 h (r := -1) ?_ ?_
    · unfold f_X9_read
      rw [xSheet.2 ha, if_pos rfl]
    · unfold f_X10_read
      rw [m1.2 ha, if_pos rfl]
