/-! each call, as the law makes it: both answer the same, and what holds holds again -/
def CalI (M1 M2 : Ms) (as : List Value) (σ : Sg) (τ : Sl) : Prop := ∃ (r : Int32) (σ1 : Sg) (τ1 : Sl) (σ2 : Sg) (τ2 : Sl), EvD M1 (.ref 0 :: as) (mk σ τ) (some (.int r)) (mk σ1 τ1) ∧ EvD M2 (.ref 75 :: as) (mk σ1 τ1) (some (.int r)) (mk σ2 τ2) ∧ Inv σ2
def CalJ (M1 M2 : Ms) (as : List Value) (σ : Sg) (τ : Sl) : Prop := ∃ (r : Int64) (σ1 : Sg) (τ1 : Sl) (σ2 : Sg) (τ2 : Sl), EvD M1 (.ref 0 :: as) (mk σ τ) (some (.long r)) (mk σ1 τ1) ∧ EvD M2 (.ref 75 :: as) (mk σ1 τ1) (some (.long r)) (mk σ2 τ2) ∧ Inv σ2
theorem ca_feed {σ : Sg} (hI : Inv σ) (τ : Sl) (a1 : Int32) : CalI M_X9_feed M_X10_feed [.int a1] σ τ := by
  obtain ⟨r, σ1, σ2, q1, q2, q3⟩ := op_feed hI a1
  exact ⟨r, σ1, τ, σ2, τ, e_X9_feed a1 σ τ (r, σ1) q1, e_X10_feed a1 σ1 τ (r, σ2) q2, q3⟩
theorem ca_end {σ : Sg} (hI : Inv σ) (τ : Sl) (a1 : Int32) : CalI M_X9_end M_X10_end [.int a1] σ τ := by
  obtain ⟨r, σ1, σ2, q1, q2, q3⟩ := op_end hI a1
  have g1 := e_X9_end a1 σ τ
  rw [Option.some.inj q1] at g1
  have g2 := e_X10_end a1 σ1 τ
  rw [show f_X10_end a1 σ1 = (r, σ2) from Option.some.inj q2] at g2
  exact ⟨r, σ1, τ, σ2, τ, g1, g2, q3⟩
theorem ca_text {σ : Sg} (hI : Inv σ) (τ : Sl) : CalI M_X9_text M_X10_text [] σ τ := by
  obtain ⟨r, σ1, σ2, q1, q2, q3⟩ := op_text hI
  exact ⟨r, σ1, τ, σ2, τ, e_X9_text σ τ (r, σ1) q1, e_X10_text σ1 τ (r, σ2) q2, q3⟩
theorem ca_fault {σ : Sg} (hI : Inv σ) (τ : Sl) : CalI M_X9_fault M_X10_fault [] σ τ := by
  have g := op_fault hI
  refine ⟨f_X9_fault σ, σ, τ, σ, τ, e_X9_fault σ τ, ?_, hI⟩
  rw [g]
  exact e_X10_fault σ τ
theorem ca_rule {σ : Sg} (hI : Inv σ) (τ : Sl) (a1 : Int32) : CalI M_X9_rule M_X10_rule [.int a1] σ τ := by
  obtain ⟨r, σ1, σ2, q1, q2, q3⟩ := op_rule hI a1
  exact ⟨r, σ1, τ, σ2, τ, e_X9_rule a1 σ τ (r, σ1) q1, e_X10_rule a1 σ1 τ (r, σ2) q2, q3⟩
theorem ca_peg {σ : Sg} (hI : Inv σ) (τ : Sl) (a1 : Int32) (a2 : Int32) : CalI M_X9_peg M_X10_peg [.int a1, .int a2] σ τ := by
  obtain ⟨r, σ1, σ2, q1, q2, q3⟩ := op_peg hI a1 a2
  exact ⟨r, σ1, τ, σ2, τ, e_X9_peg a1 a2 σ τ (r, σ1) q1, e_X10_peg a1 a2 σ1 τ (r, σ2) q2, q3⟩
theorem ca_slug {σ : Sg} (hI : Inv σ) (τ : Sl) (a1 : Int32) : CalI M_X9_slug M_X10_slug [.int a1] σ τ := by
  obtain ⟨r, q1, q2⟩ := op_slug hI a1
  exact ⟨r, σ, τ, σ, τ, e_X9_slug a1 σ τ r q1, e_X10_slug a1 σ τ r q2, hI⟩
theorem ca_hedgehog {σ : Sg} (hI : Inv σ) (τ : Sl) (a1 : Int32) (a2 : Int32) : CalI M_X9_hedgehog M_X10_hedgehog [.int a1, .int a2] σ τ := by
  obtain ⟨r, σ1, σ2, q1, q2, q3⟩ := op_hedgehog hI a1 a2
  exact ⟨r, σ1, τ, σ2, τ, e_X9_hedgehog a1 a2 σ τ (r, σ1) q1, e_X10_hedgehog a1 a2 σ1 τ (r, σ2) q2, q3⟩
theorem ca_suit {σ : Sg} (hI : Inv σ) (τ : Sl) (a1 : Int32) (a2 : Int32) : CalI M_X9_suit M_X10_suit [.int a1, .int a2] σ τ := by
  obtain ⟨r, σ1, σ2, q1, q2, q3⟩ := op_suit hI a1 a2
  exact ⟨r, σ1, τ, σ2, τ, e_X9_suit a1 a2 σ τ (r, σ1) q1, e_X10_suit a1 a2 σ1 τ (r, σ2) q2, q3⟩
theorem ca_shift {σ : Sg} (hI : Inv σ) (τ : Sl) (a1 : Int32) (a2 : Int32) : CalI M_X9_shift M_X10_shift [.int a1, .int a2] σ τ := by
  obtain ⟨r, σ1, σ2, q1, q2, q3⟩ := op_shift hI a1 a2
  exact ⟨r, σ1, τ, σ2, τ, e_X9_shift a1 a2 σ τ (r, σ1) q1, e_X10_shift a1 a2 σ1 τ (r, σ2) q2, q3⟩
theorem ca_rag {σ : Sg} (hI : Inv σ) (τ : Sl) (a1 : Int32) (a2 : Int32) : CalI M_X9_rag M_X10_rag [.int a1, .int a2] σ τ := by
  obtain ⟨r, σ1, σ2, q1, q2, q3⟩ := op_rag hI a1 a2
  exact ⟨r, σ1, τ, σ2, τ, e_X9_rag a1 a2 σ τ (r, σ1) q1, e_X10_rag a1 a2 σ1 τ (r, σ2) q2, q3⟩
theorem ca_alter {σ : Sg} (hI : Inv σ) (τ : Sl) (a1 : Int32) (a2 : Int32) (a3 : Int32) : CalI M_X9_alter M_X10_alter [.int a1, .int a2, .int a3] σ τ := by
  obtain ⟨r, σ1, σ2, q1, q2, q3⟩ := op_alter hI a1 a2 a3
  exact ⟨r, σ1, τ, σ2, τ, e_X9_alter a1 a2 a3 σ τ (r, σ1) q1, e_X10_alter a1 a2 a3 σ1 τ (r, σ2) q2, q3⟩
theorem ca_drive {σ : Sg} (hI : Inv σ) (τ : Sl) (a1 : Int32) (a2 : Int32) : CalI M_X9_drive M_X10_drive [.int a1, .int a2] σ τ := by
  obtain ⟨r, σ1, σ2, q1, q2, q3⟩ := op_drive hI a1 a2
  exact ⟨r, σ1, τ, σ2, τ, e_X9_drive a1 a2 σ τ (r, σ1) q1, e_X10_drive a1 a2 σ1 τ (r, σ2) q2, q3⟩
theorem ca_lay {σ : Sg} (hI : Inv σ) (τ : Sl) (a1 : Int32) : CalI M_X9_lay M_X10_lay [.int a1] σ τ := by
  obtain ⟨r, σ1, σ2, q1, q2, q3⟩ := op_lay hI a1
  exact ⟨r, σ1, τ, σ2, τ, e_X9_lay a1 σ τ (r, σ1) q1, e_X10_lay a1 σ1 τ (r, σ2) q2, q3⟩
theorem ca_clear {σ : Sg} (hI : Inv σ) (τ : Sl) (a1 : Int32) : CalI M_X9_clear M_X10_clear [.int a1] σ τ := by
  obtain ⟨r, σ1, σ2, q1, q2, q3⟩ := op_clear hI a1
  exact ⟨r, σ1, τ, σ2, τ, e_X9_clear a1 σ τ (r, σ1) q1, e_X10_clear a1 σ1 τ (r, σ2) q2, q3⟩
theorem ca_sue {σ : Sg} (hI : Inv σ) (τ : Sl) (a1 : Int32) (a2 : Int32) : CalI M_X9_sue M_X10_sue [.int a1, .int a2] σ τ := by
  obtain ⟨r, σ1, σ2, q1, q2, q3⟩ := op_sue hI a1 a2
  exact ⟨r, σ1, τ, σ2, τ, e_X9_sue a1 a2 σ τ (r, σ1) q1, e_X10_sue a1 a2 σ1 τ (r, σ2) q2, q3⟩
theorem ca_drop {σ : Sg} (hI : Inv σ) (τ : Sl) (a1 : Int32) : CalI M_X9_drop M_X10_drop [.int a1] σ τ := by
  obtain ⟨r, σ1, σ2, q1, q2, q3⟩ := op_drop hI a1
  have g1 := e_X9_drop a1 σ τ
  rw [Option.some.inj q1] at g1
  exact ⟨r, σ1, τ, σ2, τ, g1, e_X10_drop a1 σ1 τ (r, σ2) q2, q3⟩
theorem ca_run {σ : Sg} (hI : Inv σ) (τ : Sl) (a1 : Int32) (a2 : Int32) (a3 : Int32) : CalI M_X9_run M_X10_run [.int a1, .int a2, .int a3] σ τ := by
  obtain ⟨r, σ1, σ2, q1, q2, q3⟩ := op_run hI a1 a2 a3
  exact ⟨r, σ1, τ, σ2, τ, e_X9_run a1 a2 a3 σ τ (r, σ1) q1, e_X10_run a1 a2 a3 σ1 τ (r, σ2) q2, q3⟩
theorem ca_way {σ : Sg} (hI : Inv σ) (τ : Sl) (a1 : Int32) (a2 : Int32) (a3 : Int32) : CalI M_X9_way M_X10_way [.int a1, .int a2, .int a3] σ τ := by
  obtain ⟨r, σ1, σ2, q1, q2, q3⟩ := op_way hI a1 a2 a3
  exact ⟨r, σ1, τ, σ2, τ, e_X9_way a1 a2 a3 σ τ (r, σ1) q1, e_X10_way a1 a2 a3 σ1 τ (r, σ2) q2, q3⟩
theorem ca_wins {σ : Sg} (hI : Inv σ) (τ : Sl) (a1 : Int32) : CalI M_X9_wins M_X10_wins [.int a1] σ τ := by
  obtain ⟨r, σ1, σ2, q1, q2, q3⟩ := op_wins hI a1
  exact ⟨r, σ1, τ, σ2, τ, e_X9_wins a1 σ τ (r, σ1) q1, e_X10_wins a1 σ1 τ (r, σ2) q2, q3⟩
theorem ca_share {σ : Sg} (hI : Inv σ) (τ : Sl) (a1 : Int32) (a2 : Int32) : CalI M_X9_share M_X10_share [.int a1, .int a2] σ τ := by
  obtain ⟨r, σ1, σ2, q1, q2, q3⟩ := op_share hI a1 a2
  exact ⟨r, σ1, τ, σ2, τ, e_X9_share a1 a2 σ τ (r, σ1) q1, e_X10_share a1 a2 σ1 τ (r, σ2) q2, q3⟩
theorem ca_first {σ : Sg} (hI : Inv σ) (τ : Sl) (a1 : Int32) (a2 : Int32) : CalI M_X9_first M_X10_first [.int a1, .int a2] σ τ := by
  obtain ⟨r, σ1, σ2, q1, q2, q3⟩ := op_first hI a1 a2
  exact ⟨r, σ1, τ, σ2, τ, e_X9_first a1 a2 σ τ (r, σ1) q1, e_X10_first a1 a2 σ1 τ (r, σ2) q2, q3⟩
theorem ca_kindly {σ : Sg} (hI : Inv σ) (τ : Sl) (a1 : Int32) (a2 : Int32) (a3 : Int32) : CalI M_X9_kindly M_X10_kindly [.int a1, .int a2, .int a3] σ τ := by
  obtain ⟨r, σ1, σ2, q1, q2, q3⟩ := op_kindly hI a1 a2 a3
  exact ⟨r, σ1, τ, σ2, τ, e_X9_kindly a1 a2 a3 σ τ (r, σ1) q1, e_X10_kindly a1 a2 a3 σ1 τ (r, σ2) q2, q3⟩
theorem ca_place {σ : Sg} (hI : Inv σ) (τ : Sl) (a1 : Int32) (a2 : Int32) : CalI M_X9_place M_X10_place [.int a1, .int a2] σ τ := by
  obtain ⟨r, σ1, σ2, q1, q2, q3⟩ := op_place hI a1 a2
  exact ⟨r, σ1, τ, σ2, τ, e_X9_place a1 a2 σ τ (r, σ1) q1, e_X10_place a1 a2 σ1 τ (r, σ2) q2, q3⟩
theorem ca_move {σ : Sg} (hI : Inv σ) (τ : Sl) (a1 : Int32) (a2 : Int32) : CalI M_X9_move M_X10_move [.int a1, .int a2] σ τ := by
  obtain ⟨r, σ1, σ2, q1, q2, q3⟩ := op_move hI a1 a2
  exact ⟨r, σ1, τ, σ2, τ, e_X9_move a1 a2 σ τ (r, σ1) q1, e_X10_move a1 a2 σ1 τ (r, σ2) q2, q3⟩
theorem ca_bribe {σ : Sg} (hI : Inv σ) (τ : Sl) (a1 : Int32) (a2 : Int32) : CalI M_X9_bribe M_X10_bribe [.int a1, .int a2] σ τ := by
  obtain ⟨r, σ1, σ2, q1, q2, q3⟩ := op_bribe hI a1 a2
  exact ⟨r, σ1, τ, σ2, τ, e_X9_bribe a1 a2 σ τ (r, σ1) q1, e_X10_bribe a1 a2 σ1 τ (r, σ2) q2, q3⟩
theorem ca_need {σ : Sg} (hI : Inv σ) (τ : Sl) (a1 : Int32) (a2 : Int32) : CalI M_X9_need M_X10_need [.int a1, .int a2] σ τ := by
  obtain ⟨r, σ1, σ2, q1, q2, q3⟩ := op_need hI a1 a2
  exact ⟨r, σ1, τ, σ2, τ, e_X9_need a1 a2 σ τ (r, σ1) q1, e_X10_need a1 a2 σ1 τ (r, σ2) q2, q3⟩
theorem ca_swap {σ : Sg} (hI : Inv σ) (τ : Sl) (a1 : Int32) (a2 : Int32) : CalI M_X9_swap M_X10_swap [.int a1, .int a2] σ τ := by
  obtain ⟨r, σ1, σ2, q1, q2, q3⟩ := op_swap hI a1 a2
  exact ⟨r, σ1, τ, σ2, τ, e_X9_swap a1 a2 σ τ (r, σ1) q1, e_X10_swap a1 a2 σ1 τ (r, σ2) q2, q3⟩
theorem ca_pull {σ : Sg} (hI : Inv σ) (τ : Sl) (a1 : Int32) (a2 : Int32) : CalI M_X9_pull M_X10_pull [.int a1, .int a2] σ τ := by
  obtain ⟨r, σ1, σ2, q1, q2, q3⟩ := op_pull hI a1 a2
  exact ⟨r, σ1, τ, σ2, τ, e_X9_pull a1 a2 σ τ (r, σ1) q1, e_X10_pull a1 a2 σ1 τ (r, σ2) q2, q3⟩
theorem ca_luck {σ : Sg} (hI : Inv σ) (τ : Sl) (a1 : Int32) (a2 : Int32) (a3 : Int32) (a4 : Int32) (a5 : Int32) : CalJ M_X9_luck M_X10_luck [.int a1, .int a2, .int a3, .int a4, .int a5] σ τ := by
  obtain ⟨r, τ1, σ2, q1, q2, q3⟩ := op_luck hI τ a1 a2 a3 a4 a5
  exact ⟨r, σ, τ1, σ2, τ1, e_X9_luck a1 a2 a3 a4 a5 σ τ (r, τ1) q1, e_X10_luck a1 a2 a3 a4 a5 σ τ1 (r, σ2) q2, q3⟩
theorem ca_mean {σ : Sg} (hI : Inv σ) (τ : Sl) (a1 : Int32) (a2 : Int32) (a3 : Int32) (a4 : Int32) : CalJ M_X9_mean M_X10_mean [.int a1, .int a2, .int a3, .int a4] σ τ := by
  obtain ⟨r, τ1, σ2, q1, q2, q3⟩ := op_mean hI τ a1 a2 a3 a4
  exact ⟨r, σ, τ1, σ2, τ1, e_X9_mean a1 a2 a3 a4 σ τ (r, τ1) q1, e_X10_mean a1 a2 a3 a4 σ τ1 (r, σ2) q2, q3⟩
theorem ca_see {σ : Sg} (hI : Inv σ) (τ : Sl) (a1 : Int32) (a2 : Int32) (a3 : Int32) : CalI M_X9_see M_X10_see [.int a1, .int a2, .int a3] σ τ := by
  obtain ⟨r, σ1, σ2, q1, q2, q3⟩ := op_see hI a1 a2 a3
  exact ⟨r, σ1, τ, σ2, τ, e_X9_see a1 a2 a3 σ τ (r, σ1) q1, e_X10_see a1 a2 a3 σ1 τ (r, σ2) q2, q3⟩
theorem ca_forget {σ : Sg} (hI : Inv σ) (τ : Sl) (a1 : Int32) : CalI M_X9_forget M_X10_forget [.int a1] σ τ := by
  obtain ⟨r, σ1, σ2, q1, q2, q3⟩ := op_forget hI a1
  have g1 := e_X9_forget a1 σ τ
  rw [Option.some.inj q1] at g1
  have g2 := e_X10_forget a1 σ1 τ
  rw [show f_X10_forget a1 σ1 = (r, σ2) from Option.some.inj q2] at g2
  exact ⟨r, σ1, τ, σ2, τ, g1, g2, q3⟩
theorem ca_kinds {σ : Sg} (hI : Inv σ) (τ : Sl) (a1 : Int32) : CalI M_X9_kinds M_X10_kinds [.int a1] σ τ := by
  obtain ⟨r, σ1, σ2, q1, q2, q3⟩ := op_kinds hI a1
  exact ⟨r, σ1, τ, σ2, τ, e_X9_kinds a1 σ τ (r, σ1) q1, e_X10_kinds a1 σ1 τ (r, σ2) q2, q3⟩
theorem ca_speeds {σ : Sg} (hI : Inv σ) (τ : Sl) (a1 : Int32) : CalI M_X9_speeds M_X10_speeds [.int a1] σ τ := by
  obtain ⟨r, σ1, σ2, q1, q2, q3⟩ := op_speeds hI a1
  exact ⟨r, σ1, τ, σ2, τ, e_X9_speeds a1 σ τ (r, σ1) q1, e_X10_speeds a1 σ1 τ (r, σ2) q2, q3⟩
theorem ca_ask {σ : Sg} (hI : Inv σ) (τ : Sl) (a1 : Int32) (a2 : Int32) : CalI M_X9_ask M_X10_ask [.int a1, .int a2] σ τ := by
  obtain ⟨r, σ1, σ2, q1, q2, q3⟩ := op_ask hI a1 a2
  exact ⟨r, σ1, τ, σ2, τ, e_X9_ask a1 a2 σ τ (r, σ1) q1, e_X10_ask a1 a2 σ1 τ (r, σ2) q2, q3⟩
theorem ca_drift {σ : Sg} (hI : Inv σ) (τ : Sl) (a1 : Int32) (a2 : Int32) (a3 : Int32) : CalI M_X9_drift M_X10_drift [.int a1, .int a2, .int a3] σ τ := by
  obtain ⟨r, σ1, σ2, q1, q2, q3⟩ := op_drift hI a1 a2 a3
  exact ⟨r, σ1, τ, σ2, τ, e_X9_drift a1 a2 a3 σ τ (r, σ1) q1, e_X10_drift a1 a2 a3 σ1 τ (r, σ2) q2, q3⟩
theorem ca_keep {σ : Sg} (hI : Inv σ) (τ : Sl) (a1 : Int32) : CalI M_X9_keep M_X10_keep [.int a1] σ τ := by
  obtain ⟨r, σ1, σ2, q1, q2, q3⟩ := op_keep hI a1
  exact ⟨r, σ1, τ, σ2, τ, e_X9_keep a1 σ τ (r, σ1) q1, e_X10_keep a1 σ1 τ (r, σ2) q2, q3⟩
theorem ca_back {σ : Sg} (hI : Inv σ) (τ : Sl) (a1 : Int32) : CalI M_X9_back M_X10_back [.int a1] σ τ := by
  obtain ⟨r, σ1, σ2, q1, q2, q3⟩ := op_back hI a1
  exact ⟨r, σ1, τ, σ2, τ, e_X9_back a1 σ τ (r, σ1) q1, e_X10_back a1 σ1 τ (r, σ2) q2, q3⟩
theorem ca_sheet {σ : Sg} (hI : Inv σ) (τ : Sl) (a1 : Int32) (a2 : Int32) (a3 : Int32) : CalI M_X9_sheet M_X10_sheet [.int a1, .int a2, .int a3] σ τ := by
  obtain ⟨r, σ1, σ2, q1, q2, q3⟩ := op_sheet hI a1 a2 a3
  exact ⟨r, σ1, τ, σ2, τ, e_X9_sheet a1 a2 a3 σ τ (r, σ1) q1, e_X10_sheet a1 a2 a3 σ1 τ (r, σ2) q2, q3⟩
theorem ca_write {σ : Sg} (hI : Inv σ) (τ : Sl) (a1 : Int32) (a2 : Int32) (a3 : Int32) : CalI M_X9_write M_X10_write [.int a1, .int a2, .int a3] σ τ := by
  obtain ⟨r, σ1, σ2, q1, q2, q3⟩ := op_write hI a1 a2 a3
  exact ⟨r, σ1, τ, σ2, τ, e_X9_write a1 a2 a3 σ τ (r, σ1) q1, e_X10_write a1 a2 a3 σ1 τ (r, σ2) q2, q3⟩
theorem ca_read {σ : Sg} (hI : Inv σ) (τ : Sl) (a1 : Int32) (a2 : Int32) (a3 : Int32) (a4 : Int32) : CalI M_X9_read M_X10_read [.int a1, .int a2, .int a3, .int a4] σ τ := by
  obtain ⟨r, σ1, σ2, q1, q2, q3⟩ := op_read hI a1 a2 a3 a4
  exact ⟨r, σ1, τ, σ2, τ, e_X9_read a1 a2 a3 a4 σ τ (r, σ1) q1, e_X10_read a1 a2 a3 a4 σ1 τ (r, σ2) q2, q3⟩
theorem ca_torn {σ : Sg} (hI : Inv σ) (τ : Sl) : CalI M_X9_torn M_X10_torn [] σ τ := by
  have g := op_torn hI
  refine ⟨f_X9_torn σ, σ, τ, σ, τ, e_X9_torn σ τ, ?_, hI⟩
  rw [g]
  exact e_X10_torn σ τ
theorem ca_count {σ : Sg} (hI : Inv σ) (τ : Sl) (a1 : Int32) : CalI M_X9_count M_X10_count [.int a1] σ τ := by
  obtain ⟨r, q1, q2⟩ := op_count hI a1
  exact ⟨r, σ, τ, σ, τ, e_X9_count a1 σ τ r q1, e_X10_count a1 σ τ r q2, hI⟩
