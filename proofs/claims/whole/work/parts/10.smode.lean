/-- where everything lies once both objects are made: kinds, lengths, references -/
def shL : List (Nat × Nat) := [(9, 0), (7, 0), (11, 7), (11, 7), (11, 4), (11, 4), (11, 4), (11, 6), (11, 6), (11, 100), (2, 0), (1, 0), (11, 10), (7, 0), (11, 7), (11, 7), (11, 4), (11, 4), (11, 4), (11, 6), (11, 6), (11, 100), (2, 0), (1, 0), (11, 10), (0, 0), (11, 8), (3, 0), (13, 80), (13, 80), (5, 0), (11, 6), (11, 6), (11, 6), (14, 2), (12, 2), (7, 0), (11, 7), (11, 7), (11, 4), (11, 4), (11, 4), (11, 6), (11, 6), (11, 100), (7, 0), (11, 7), (11, 7), (11, 4), (11, 4), (11, 4), (11, 6), (11, 6), (11, 100), (8, 0), (11, 160), (4, 0), (7, 0), (11, 7), (11, 7), (11, 4), (11, 4), (11, 4), (11, 6), (11, 6), (11, 100), (15, 4), (6, 0), (11, 40), (6, 0), (11, 40), (6, 0), (11, 40), (6, 0), (11, 40), (10, 0), (11, 205), (11, 41), (11, 160), (11, 8), (11, 28), (11, 10), (11, 18), (11, 80), (12, 2), (11, 4), (11, 4), (11, 160)]
def rfL : List (List (Option Nat)) := [[some 1, some 10, some 13, some 22, some 25, some 27, some 30, some 34, some 35, some 54, some 56, none, some 66], [some 2, some 3, none, some 4, none, some 5, some 6, none, some 7, some 8, none, some 9], [], [], [], [], [], [], [], [], [some 1, some 11], [none, none, none, none, none, some 12], [], [some 14, some 15, none, some 16, none, some 17, some 18, none, some 19, some 20, none, some 21], [], [], [], [], [], [], [], [], [some 13, some 23], [none, none, none, none, none, some 24], [], [some 22, some 13, none, none, some 26], [], [none, none, some 28, some 29], [], [], [some 31, some 32, some 33], [], [], [], [some 36, some 45], [], [some 37, some 38, none, some 39, none, some 40, some 41, none, some 42, some 43, none, some 44], [], [], [], [], [], [], [], [], [some 46, some 47, none, some 48, none, some 49, some 50, none, some 51, some 52, none, some 53], [], [], [], [], [], [], [], [], [some 55], [], [some 57, none, some 54], [some 58, some 59, none, some 60, none, some 61, some 62, none, some 63, some 64, none, some 65], [], [], [], [], [], [], [], [], [some 67, some 69, some 71, some 73], [none, none, some 68], [], [none, none, some 70], [], [none, none, some 72], [], [none, none, some 74], [], [some 76, none, some 77, none, none, some 78, none, none, none, none, none, none, none, none, some 79, some 80, none, none, none, none, some 81, some 82, none, some 83, some 84, some 85, some 86, some 87], [], [], [], [], [], [], [], [], [], [], [], []]
def sh0 (k : Nat) : Nat × Nat := shL.getD k (0, 0)
def rf0 (k j : Nat) : Option Nat := (rfL.getD k []).getD j none
theorem isB_fit {v : Int32} (h : isB v = true) : fits .boolean (.int v) = true := by
  simp [isB] at h
  rcases h with rfl | rfl <;> rfl
abbrev Sg : Type := Nat → Nat → Int32
abbrev Sl : Type := Nat → Nat → Int64
abbrev mk (σ : Sg) (τ : Sl) : Hp := (88, sh0, rf0, σ, τ)
def isSl (b : Nat) : Prop := b = 1 ∨ b = 13 ∨ b = 36 ∨ b = 45 ∨ b = 57
def isCt (b : Nat) : Prop := b = 1 ∨ b = 13
def isSh (t : Nat) : Prop := t = 67 ∨ t = 69 ∨ t = 71 ∨ t = 73
def isLw (w : Nat) : Prop := w = 28 ∨ w = 29
theorem isSl_1 : isSl 1 := by unfold isSl; omega
theorem isSl_13 : isSl 13 := by unfold isSl; omega
theorem isSl_36 : isSl 36 := by unfold isSl; omega
theorem isSl_45 : isSl 45 := by unfold isSl; omega
theorem isSl_57 : isSl 57 := by unfold isSl; omega
theorem isCt_1 : isCt 1 := by unfold isCt; omega
theorem isCt_13 : isCt 13 := by unfold isCt; omega
theorem ct_sl {b : Nat} (h : isCt b) : isSl b := by unfold isCt at h; unfold isSl; omega
theorem sl_sh {b : Nat} (h : isSl b) : sh0 b = (7, 0) := by
  unfold isSl at h
  rcases h with rfl | rfl | rfl | rfl | rfl <;> first | rfl | decide
theorem sl_lt {b : Nat} (h : isSl b) : b < 88 := by
  unfold isSl at h
  rcases h with rfl | rfl | rfl | rfl | rfl <;> first | rfl | decide
theorem sl_sh1 {b : Nat} (h : isSl b) : sh0 (b + 1) = (11, 7) := by
  unfold isSl at h
  rcases h with rfl | rfl | rfl | rfl | rfl <;> first | rfl | decide
theorem sl_lt1 {b : Nat} (h : isSl b) : b + 1 < 88 := by
  unfold isSl at h
  rcases h with rfl | rfl | rfl | rfl | rfl <;> first | rfl | decide
theorem sl_rf0 {b : Nat} (h : isSl b) : rf0 b 0 = some (b + 1) := by
  unfold isSl at h
  rcases h with rfl | rfl | rfl | rfl | rfl <;> first | rfl | decide
theorem sl_sh2 {b : Nat} (h : isSl b) : sh0 (b + 2) = (11, 7) := by
  unfold isSl at h
  rcases h with rfl | rfl | rfl | rfl | rfl <;> first | rfl | decide
theorem sl_lt2 {b : Nat} (h : isSl b) : b + 2 < 88 := by
  unfold isSl at h
  rcases h with rfl | rfl | rfl | rfl | rfl <;> first | rfl | decide
theorem sl_rf1 {b : Nat} (h : isSl b) : rf0 b 1 = some (b + 2) := by
  unfold isSl at h
  rcases h with rfl | rfl | rfl | rfl | rfl <;> first | rfl | decide
theorem sl_sh3 {b : Nat} (h : isSl b) : sh0 (b + 3) = (11, 4) := by
  unfold isSl at h
  rcases h with rfl | rfl | rfl | rfl | rfl <;> first | rfl | decide
theorem sl_lt3 {b : Nat} (h : isSl b) : b + 3 < 88 := by
  unfold isSl at h
  rcases h with rfl | rfl | rfl | rfl | rfl <;> first | rfl | decide
theorem sl_rf3 {b : Nat} (h : isSl b) : rf0 b 3 = some (b + 3) := by
  unfold isSl at h
  rcases h with rfl | rfl | rfl | rfl | rfl <;> first | rfl | decide
theorem sl_sh4 {b : Nat} (h : isSl b) : sh0 (b + 4) = (11, 4) := by
  unfold isSl at h
  rcases h with rfl | rfl | rfl | rfl | rfl <;> first | rfl | decide
theorem sl_lt4 {b : Nat} (h : isSl b) : b + 4 < 88 := by
  unfold isSl at h
  rcases h with rfl | rfl | rfl | rfl | rfl <;> first | rfl | decide
theorem sl_rf5 {b : Nat} (h : isSl b) : rf0 b 5 = some (b + 4) := by
  unfold isSl at h
  rcases h with rfl | rfl | rfl | rfl | rfl <;> first | rfl | decide
theorem sl_sh5 {b : Nat} (h : isSl b) : sh0 (b + 5) = (11, 4) := by
  unfold isSl at h
  rcases h with rfl | rfl | rfl | rfl | rfl <;> first | rfl | decide
theorem sl_lt5 {b : Nat} (h : isSl b) : b + 5 < 88 := by
  unfold isSl at h
  rcases h with rfl | rfl | rfl | rfl | rfl <;> first | rfl | decide
theorem sl_rf6 {b : Nat} (h : isSl b) : rf0 b 6 = some (b + 5) := by
  unfold isSl at h
  rcases h with rfl | rfl | rfl | rfl | rfl <;> first | rfl | decide
theorem sl_sh6 {b : Nat} (h : isSl b) : sh0 (b + 6) = (11, 6) := by
  unfold isSl at h
  rcases h with rfl | rfl | rfl | rfl | rfl <;> first | rfl | decide
theorem sl_lt6 {b : Nat} (h : isSl b) : b + 6 < 88 := by
  unfold isSl at h
  rcases h with rfl | rfl | rfl | rfl | rfl <;> first | rfl | decide
theorem sl_rf8 {b : Nat} (h : isSl b) : rf0 b 8 = some (b + 6) := by
  unfold isSl at h
  rcases h with rfl | rfl | rfl | rfl | rfl <;> first | rfl | decide
theorem sl_sh7 {b : Nat} (h : isSl b) : sh0 (b + 7) = (11, 6) := by
  unfold isSl at h
  rcases h with rfl | rfl | rfl | rfl | rfl <;> first | rfl | decide
theorem sl_lt7 {b : Nat} (h : isSl b) : b + 7 < 88 := by
  unfold isSl at h
  rcases h with rfl | rfl | rfl | rfl | rfl <;> first | rfl | decide
theorem sl_rf9 {b : Nat} (h : isSl b) : rf0 b 9 = some (b + 7) := by
  unfold isSl at h
  rcases h with rfl | rfl | rfl | rfl | rfl <;> first | rfl | decide
theorem sl_sh8 {b : Nat} (h : isSl b) : sh0 (b + 8) = (11, 100) := by
  unfold isSl at h
  rcases h with rfl | rfl | rfl | rfl | rfl <;> first | rfl | decide
theorem sl_lt8 {b : Nat} (h : isSl b) : b + 8 < 88 := by
  unfold isSl at h
  rcases h with rfl | rfl | rfl | rfl | rfl <;> first | rfl | decide
theorem sl_rf11 {b : Nat} (h : isSl b) : rf0 b 11 = some (b + 8) := by
  unfold isSl at h
  rcases h with rfl | rfl | rfl | rfl | rfl <;> first | rfl | decide
theorem ct_sh {b : Nat} (h : isCt b) : sh0 (b + 9) = (2, 0) := by
  unfold isCt at h
  rcases h with rfl | rfl <;> first | rfl | decide
theorem ct_lt {b : Nat} (h : isCt b) : b + 9 < 88 := by
  unfold isCt at h
  rcases h with rfl | rfl <;> first | rfl | decide
theorem ct_rf0 {b : Nat} (h : isCt b) : rf0 (b + 9) 0 = some b := by
  unfold isCt at h
  rcases h with rfl | rfl <;> first | rfl | decide
theorem ct_rf1 {b : Nat} (h : isCt b) : rf0 (b + 9) 1 = some (b + 10) := by
  unfold isCt at h
  rcases h with rfl | rfl <;> first | rfl | decide
theorem co_sh {b : Nat} (h : isCt b) : sh0 (b + 10) = (1, 0) := by
  unfold isCt at h
  rcases h with rfl | rfl <;> first | rfl | decide
theorem co_lt {b : Nat} (h : isCt b) : b + 10 < 88 := by
  unfold isCt at h
  rcases h with rfl | rfl <;> first | rfl | decide
theorem co_rf5 {b : Nat} (h : isCt b) : rf0 (b + 10) 5 = some (b + 11) := by
  unfold isCt at h
  rcases h with rfl | rfl <;> first | rfl | decide
theorem co_sh1 {b : Nat} (h : isCt b) : sh0 (b + 11) = (11, 10) := by
  unfold isCt at h
  rcases h with rfl | rfl <;> first | rfl | decide
theorem co_lt1 {b : Nat} (h : isCt b) : b + 11 < 88 := by
  unfold isCt at h
  rcases h with rfl | rfl <;> first | rfl | decide
theorem sht_sh {t : Nat} (h : isSh t) : sh0 t = (6, 0) := by
  unfold isSh at h
  rcases h with rfl | rfl | rfl | rfl <;> first | rfl | decide
theorem sht_lt {t : Nat} (h : isSh t) : t < 88 := by
  unfold isSh at h
  rcases h with rfl | rfl | rfl | rfl <;> first | rfl | decide
theorem sht_rf2 {t : Nat} (h : isSh t) : rf0 t 2 = some (t + 1) := by
  unfold isSh at h
  rcases h with rfl | rfl | rfl | rfl <;> first | rfl | decide
theorem sht_sh1 {t : Nat} (h : isSh t) : sh0 (t + 1) = (11, 40) := by
  unfold isSh at h
  rcases h with rfl | rfl | rfl | rfl <;> first | rfl | decide
theorem sht_lt1 {t : Nat} (h : isSh t) : t + 1 < 88 := by
  unfold isSh at h
  rcases h with rfl | rfl | rfl | rfl <;> first | rfl | decide
theorem lw_sh {w : Nat} (h : isLw w) : sh0 w = (13, 80) := by
  unfold isLw at h
  rcases h with rfl | rfl <;> first | rfl | decide
theorem lw_lt {w : Nat} (h : isLw w) : w < 88 := by
  unfold isLw at h
  rcases h with rfl | rfl <;> first | rfl | decide
theorem img_i {i : Int32} (h : vp_in i 2) : i.toNatClampNeg = 0 ∨ i.toNatClampNeg = 1 := by
  have := Nat.not_le.mp (fun q => h (Or.inr q))
  omega
theorem img_rf {i : Int32} (h : vp_in i 2) : rf0 34 i.toNatClampNeg = some (36 + 9 * i.toNatClampNeg) := by rcases img_i h with e | e <;> rw [e] <;> rfl
theorem img_sl {i : Int32} (h : vp_in i 2) : isSl (36 + 9 * i.toNatClampNeg) := by unfold isSl; rcases img_i h with e | e <;> rw [e] <;> omega
theorem sht_i {i : Int32} (h : vp_in i 4) : i.toNatClampNeg = 0 ∨ i.toNatClampNeg = 1 ∨ i.toNatClampNeg = 2 ∨ i.toNatClampNeg = 3 := by
  have := Nat.not_le.mp (fun q => h (Or.inr q))
  omega
theorem sht_rf {i : Int32} (h : vp_in i 4) : rf0 66 i.toNatClampNeg = some (67 + 2 * i.toNatClampNeg) := by rcases sht_i h with e | e | e | e <;> rw [e] <;> rfl
theorem sht_is {i : Int32} (h : vp_in i 4) : isSh (67 + 2 * i.toNatClampNeg) := by unfold isSh; rcases sht_i h with e | e | e | e <;> rw [e] <;> omega
theorem s_getI {M : Ms} {kc ks pc pc1 : Nat} {L : List (Option Value)} {st : List Value} {σ : Sg} {τ : Sl} {a ix tag n j : Nat} (hd : decode (mC M) pc = .ok (.getfield ix, 3)) (hp : pc + 3 = pc1) (hf : FL (mY M).cls ix tag j) (ht : sh0 a = (tag, n)) (hn : a < 88) (hk : (hKd tag)[j]? = some 0) : St M kc ks pc1 L (.int (σ a j) :: st) (mk σ τ) kc ks pc L (.ref a :: st) (mk σ τ) := r_getI (h := mk σ τ) hd hp hf ht hn hk
theorem s_getJ {M : Ms} {kc ks pc pc1 : Nat} {L : List (Option Value)} {st : List Value} {σ : Sg} {τ : Sl} {a ix tag n j : Nat} (hd : decode (mC M) pc = .ok (.getfield ix, 3)) (hp : pc + 3 = pc1) (hf : FL (mY M).cls ix tag j) (ht : sh0 a = (tag, n)) (hn : a < 88) (hk : (hKd tag)[j]? = some 1) : St M kc ks pc1 L (.long (τ a j) :: st) (mk σ τ) kc ks pc L (.ref a :: st) (mk σ τ) := r_getJ (h := mk σ τ) hd hp hf ht hn hk
theorem s_getR {M : Ms} {kc ks pc pc1 : Nat} {L : List (Option Value)} {st : List Value} {σ : Sg} {τ : Sl} {a ix tag n j b : Nat} (hd : decode (mC M) pc = .ok (.getfield ix, 3)) (hp : pc + 3 = pc1) (hf : FL (mY M).cls ix tag j) (ht : sh0 a = (tag, n)) (hn : a < 88) (hk : (hKd tag)[j]? = some 2) (hr : rf0 a j = some b) : St M kc ks pc1 L (.ref b :: st) (mk σ τ) kc ks pc L (.ref a :: st) (mk σ τ) := r_getR (h := mk σ τ) hd hp hf ht hn hk hr
theorem s_putI {M : Ms} {kc ks pc pc1 : Nat} {L : List (Option Value)} {st : List Value} {σ : Sg} {τ : Sl} {a ix tag n j : Nat} {x : Int32} (hd : decode (mC M) pc = .ok (.putfield ix, 3)) (hp : pc + 3 = pc1) (hf : FL (mY M).cls ix tag j) (ht : sh0 a = (tag, n)) (hn : a < 88) (hk : (hKd tag)[j]? = some 0) (hg : FW tag j false .int) : St M kc ks pc1 L st (mk (up2 σ a j x) τ) kc ks pc L (.int x :: .ref a :: st) (mk σ τ) := r_putI (h := mk σ τ) (ty := .int) hd hp hf ht hn hk hg rfl rfl
theorem s_putZ {M : Ms} {kc ks pc pc1 : Nat} {L : List (Option Value)} {st : List Value} {σ : Sg} {τ : Sl} {a ix tag n j : Nat} {x : Int32} (hd : decode (mC M) pc = .ok (.putfield ix, 3)) (hp : pc + 3 = pc1) (hf : FL (mY M).cls ix tag j) (ht : sh0 a = (tag, n)) (hn : a < 88) (hk : (hKd tag)[j]? = some 0) (hg : FW tag j false .boolean) (hb : isB x = true) : St M kc ks pc1 L st (mk (up2 σ a j x) τ) kc ks pc L (.int x :: .ref a :: st) (mk σ τ) := r_putI (h := mk σ τ) (ty := .boolean) hd hp hf ht hn hk hg (isB_nar hb) (isB_fit hb)
theorem s_putJ {M : Ms} {kc ks pc pc1 : Nat} {L : List (Option Value)} {st : List Value} {σ : Sg} {τ : Sl} {a ix tag n j : Nat} {x : Int64} (hd : decode (mC M) pc = .ok (.putfield ix, 3)) (hp : pc + 3 = pc1) (hf : FL (mY M).cls ix tag j) (ht : sh0 a = (tag, n)) (hn : a < 88) (hk : (hKd tag)[j]? = some 1) (hg : FW tag j false .long) : St M kc ks pc1 L st (mk σ (up2 τ a j x)) kc ks pc L (.long x :: .ref a :: st) (mk σ τ) := r_putJ (h := mk σ τ) (ty := .long) hd hp hf ht hn hk hg rfl rfl
theorem s_iaload {M : Ms} {kc ks pc pc1 : Nat} {L : List (Option Value)} {st : List Value} {σ : Sg} {τ : Sl} {a n : Nat} {i : Int32} (hd : decode (mC M) pc = .ok (.iaload, 1)) (hp : pc + 1 = pc1) (ht : sh0 a = (11, n)) (hn : a < 88) (hi : vp_in i n) : St M kc ks pc1 L (.int (σ a i.toNatClampNeg) :: st) (mk σ τ) kc ks pc L (.int i :: .ref a :: st) (mk σ τ) := r_iaload (h := mk σ τ) hd hp ht hn hi
theorem s_zaload {M : Ms} {kc ks pc pc1 : Nat} {L : List (Option Value)} {st : List Value} {σ : Sg} {τ : Sl} {a n : Nat} {i : Int32} (hd : decode (mC M) pc = .ok (.baload, 1)) (hp : pc + 1 = pc1) (ht : sh0 a = (12, n)) (hn : a < 88) (hi : vp_in i n) : St M kc ks pc1 L (.int (σ a i.toNatClampNeg) :: st) (mk σ τ) kc ks pc L (.int i :: .ref a :: st) (mk σ τ) := r_zaload (h := mk σ τ) hd hp ht hn hi
theorem s_laload {M : Ms} {kc ks pc pc1 : Nat} {L : List (Option Value)} {st : List Value} {σ : Sg} {τ : Sl} {a n : Nat} {i : Int32} (hd : decode (mC M) pc = .ok (.laload, 1)) (hp : pc + 1 = pc1) (ht : sh0 a = (13, n)) (hn : a < 88) (hi : vp_in i n) : St M kc ks pc1 L (.long (τ a i.toNatClampNeg) :: st) (mk σ τ) kc ks pc L (.int i :: .ref a :: st) (mk σ τ) := r_laload (h := mk σ τ) hd hp ht hn hi
theorem s_aaload14 {M : Ms} {kc ks pc pc1 : Nat} {L : List (Option Value)} {st : List Value} {σ : Sg} {τ : Sl} {a n b : Nat} {i : Int32} (hd : decode (mC M) pc = .ok (.aaload, 1)) (hp : pc + 1 = pc1) (ht : sh0 a = (14, n)) (hn : a < 88) (hi : vp_in i n) (hr : rf0 a i.toNatClampNeg = some b) : St M kc ks pc1 L (.ref b :: st) (mk σ τ) kc ks pc L (.int i :: .ref a :: st) (mk σ τ) := r_aaload14 (h := mk σ τ) hd hp ht hn hi hr
theorem s_aaload15 {M : Ms} {kc ks pc pc1 : Nat} {L : List (Option Value)} {st : List Value} {σ : Sg} {τ : Sl} {a n b : Nat} {i : Int32} (hd : decode (mC M) pc = .ok (.aaload, 1)) (hp : pc + 1 = pc1) (ht : sh0 a = (15, n)) (hn : a < 88) (hi : vp_in i n) (hr : rf0 a i.toNatClampNeg = some b) : St M kc ks pc1 L (.ref b :: st) (mk σ τ) kc ks pc L (.int i :: .ref a :: st) (mk σ τ) := r_aaload15 (h := mk σ τ) hd hp ht hn hi hr
theorem s_iastore {M : Ms} {kc ks pc pc1 : Nat} {L : List (Option Value)} {st : List Value} {σ : Sg} {τ : Sl} {a n : Nat} {i x : Int32} (hd : decode (mC M) pc = .ok (.iastore, 1)) (hp : pc + 1 = pc1) (ht : sh0 a = (11, n)) (hn : a < 88) (hi : vp_in i n) : St M kc ks pc1 L st (mk (up2 σ a i.toNatClampNeg x) τ) kc ks pc L (.int x :: .int i :: .ref a :: st) (mk σ τ) := r_iastore (h := mk σ τ) hd hp ht hn hi
theorem s_zastore {M : Ms} {kc ks pc pc1 : Nat} {L : List (Option Value)} {st : List Value} {σ : Sg} {τ : Sl} {a n : Nat} {i x : Int32} (hd : decode (mC M) pc = .ok (.bastore, 1)) (hp : pc + 1 = pc1) (ht : sh0 a = (12, n)) (hn : a < 88) (hi : vp_in i n) (hx : vp_nar .boolean x = x) : St M kc ks pc1 L st (mk (up2 σ a i.toNatClampNeg x) τ) kc ks pc L (.int x :: .int i :: .ref a :: st) (mk σ τ) := r_zastore (h := mk σ τ) hd hp ht hn hi hx
theorem s_lastore {M : Ms} {kc ks pc pc1 : Nat} {L : List (Option Value)} {st : List Value} {σ : Sg} {τ : Sl} {a n : Nat} {i : Int32} {x : Int64} (hd : decode (mC M) pc = .ok (.lastore, 1)) (hp : pc + 1 = pc1) (ht : sh0 a = (13, n)) (hn : a < 88) (hi : vp_in i n) : St M kc ks pc1 L st (mk σ (up2 τ a i.toNatClampNeg x)) kc ks pc L (.long x :: .int i :: .ref a :: st) (mk σ τ) := r_lastore (h := mk σ τ) hd hp ht hn hi
theorem s_alen11 {M : Ms} {kc ks pc pc1 : Nat} {L : List (Option Value)} {st : List Value} {σ : Sg} {τ : Sl} {a n : Nat} {v : Int32} (hd : decode (mC M) pc = .ok (.arraylength, 1)) (hp : pc + 1 = pc1) (ht : sh0 a = (11, n)) (hn : a < 88) (hv : Int32.ofNat n = v) : St M kc ks pc1 L (.int v :: st) (mk σ τ) kc ks pc L (.ref a :: st) (mk σ τ) := r_alen11 (h := mk σ τ) hd hp ht hn hv
theorem s_alen12 {M : Ms} {kc ks pc pc1 : Nat} {L : List (Option Value)} {st : List Value} {σ : Sg} {τ : Sl} {a n : Nat} {v : Int32} (hd : decode (mC M) pc = .ok (.arraylength, 1)) (hp : pc + 1 = pc1) (ht : sh0 a = (12, n)) (hn : a < 88) (hv : Int32.ofNat n = v) : St M kc ks pc1 L (.int v :: st) (mk σ τ) kc ks pc L (.ref a :: st) (mk σ τ) := r_alen12 (h := mk σ τ) hd hp ht hn hv
theorem s_alen13 {M : Ms} {kc ks pc pc1 : Nat} {L : List (Option Value)} {st : List Value} {σ : Sg} {τ : Sl} {a n : Nat} {v : Int32} (hd : decode (mC M) pc = .ok (.arraylength, 1)) (hp : pc + 1 = pc1) (ht : sh0 a = (13, n)) (hn : a < 88) (hv : Int32.ofNat n = v) : St M kc ks pc1 L (.int v :: st) (mk σ τ) kc ks pc L (.ref a :: st) (mk σ τ) := r_alen13 (h := mk σ τ) hd hp ht hn hv
