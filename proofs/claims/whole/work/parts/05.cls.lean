/-- kinds of the fields of class number tag: 0 int, 1 long, 2 reference -/
def hKd : Nat → List Nat
  | 0 => [2, 2, 0, 0, 2]
  | 1 => [0, 0, 0, 0, 0, 2]
  | 2 => [2, 2]
  | 3 => [1, 1, 2, 2]
  | 4 => [2, 0, 2, 0, 0, 0, 0, 0]
  | 5 => [2, 2, 2, 0]
  | 6 => [0, 0, 2]
  | 7 => [2, 2, 0, 2, 0, 2, 2, 0, 2, 2, 0, 2]
  | 8 => [2, 0]
  | 9 => [2, 2, 2, 2, 2, 2, 2, 2, 2, 2, 2, 0, 2, 0]
  | 10 => [2, 0, 2, 0, 0, 2, 0, 0, 0, 0, 0, 0, 0, 0, 2, 2, 0, 0, 0, 0, 2, 2, 0, 2, 2, 2, 2, 2, 0]
  | _ => []
theorem hKd_lt {tag j kd : Nat} (h : (hKd tag)[j]? = some kd) : tag < 11 := by
  rcases Nat.lt_or_ge tag 11 with q | q
  · exact q
  · obtain ⟨t, rfl⟩ : ∃ t, tag = t + 11 := ⟨tag - 11, by omega⟩
    simp [hKd] at h
def nestW : List Cond := [(Cond.methodLinkNest "HedgehogLots$Court" (11 : Nat) ({ cls := "HedgehogLots$Course", name := "<init>", desc := "()V" } : MethodName) "HedgehogLots"), (Cond.methodLinkNest "HedgehogLots" (42 : Nat) ({ cls := "HedgehogLots$Odds", name := "<init>", desc := "()V" } : MethodName) "HedgehogLots"), (Cond.methodLinkNest "HedgehogLots" (49 : Nat) ({ cls := "HedgehogLots$Seen", name := "<init>", desc := "()V" } : MethodName) "HedgehogLots"), (Cond.methodLinkNest "HedgehogLots" (64 : Nat) ({ cls := "HedgehogLots$Tape", name := "<init>", desc := "()V" } : MethodName) "HedgehogLots"), (Cond.methodLinkNest "HedgehogLots" (88 : Nat) ({ cls := "HedgehogLots$Sheet", name := "<init>", desc := "()V" } : MethodName) "HedgehogLots"), (Cond.methodLinkNest "HedgehogLots$Slope" (65 : Nat) ({ cls := "HedgehogLots", name := "isRag", desc := "(I)Z" } : MethodName) "HedgehogLots")]
theorem lay0 : ∀ w ∈ u_ws RX0 TX0 5, w ∈ TB := fun w hw => by
  obtain ⟨k, hk, rfl⟩ := List.mem_map.mp hw
  have hk := List.mem_range.mp hk
  match k, hk with
  | 0, _ => exact q169
  | 1, _ => exact q171
  | 2, _ => exact q173
  | 3, _ => exact q175
  | 4, _ => exact q177
  | n + 5, h => omega
theorem dcl0 : ∀ j, j < 5 → (TX0 j).1 = RX0 := by decide +kernel
theorem lay1 : ∀ w ∈ u_ws RX1 TX1 6, w ∈ TB := fun w hw => by
  obtain ⟨k, hk, rfl⟩ := List.mem_map.mp hw
  have hk := List.mem_range.mp hk
  match k, hk with
  | 0, _ => exact q136
  | 1, _ => exact q138
  | 2, _ => exact q140
  | 3, _ => exact q142
  | 4, _ => exact q144
  | 5, _ => exact q146
  | n + 6, h => omega
theorem dcl1 : ∀ j, j < 6 → (TX1 j).1 = RX1 := by decide +kernel
theorem lay2 : ∀ w ∈ u_ws RX2 TX2 2, w ∈ TB := fun w hw => by
  obtain ⟨k, hk, rfl⟩ := List.mem_map.mp hw
  have hk := List.mem_range.mp hk
  match k, hk with
  | 0, _ => exact q153
  | 1, _ => exact q155
  | n + 2, h => omega
theorem dcl2 : ∀ j, j < 2 → (TX2 j).1 = RX2 := by decide +kernel
theorem lay3 : ∀ w ∈ u_ws RX3 TX3 4, w ∈ TB := fun w hw => by
  obtain ⟨k, hk, rfl⟩ := List.mem_map.mp hw
  have hk := List.mem_range.mp hk
  match k, hk with
  | 0, _ => exact q192
  | 1, _ => exact q194
  | 2, _ => exact q196
  | 3, _ => exact q198
  | n + 4, h => omega
theorem dcl3 : ∀ j, j < 4 → (TX3 j).1 = RX3 := by decide +kernel
theorem lay4 : ∀ w ∈ u_ws RX4 TX4 8, w ∈ TB := fun w hw => by
  obtain ⟨k, hk, rfl⟩ := List.mem_map.mp hw
  have hk := List.mem_range.mp hk
  match k, hk with
  | 0, _ => exact q257
  | 1, _ => exact q259
  | 2, _ => exact q261
  | 3, _ => exact q263
  | 4, _ => exact q265
  | 5, _ => exact q267
  | 6, _ => exact q269
  | 7, _ => exact q271
  | n + 8, h => omega
theorem dcl4 : ∀ j, j < 8 → (TX4 j).1 = RX4 := by decide +kernel
theorem lay5 : ∀ w ∈ u_ws RX5 TX5 4, w ∈ TB := fun w hw => by
  obtain ⟨k, hk, rfl⟩ := List.mem_map.mp hw
  have hk := List.mem_range.mp hk
  match k, hk with
  | 0, _ => exact q213
  | 1, _ => exact q215
  | 2, _ => exact q217
  | 3, _ => exact q219
  | n + 4, h => omega
theorem dcl5 : ∀ j, j < 4 → (TX5 j).1 = RX5 := by decide +kernel
theorem lay6 : ∀ w ∈ u_ws RX6 TX6 3, w ∈ TB := fun w hw => by
  obtain ⟨k, hk, rfl⟩ := List.mem_map.mp hw
  have hk := List.mem_range.mp hk
  match k, hk with
  | 0, _ => exact q286
  | 1, _ => exact q288
  | 2, _ => exact q290
  | n + 3, h => omega
theorem dcl6 : ∀ j, j < 3 → (TX6 j).1 = RX6 := by decide +kernel
theorem lay7 : ∀ w ∈ u_ws RX7 TX7 12, w ∈ TB := fun w hw => by
  obtain ⟨k, hk, rfl⟩ := List.mem_map.mp hw
  have hk := List.mem_range.mp hk
  match k, hk with
  | 0, _ => exact q81
  | 1, _ => exact q83
  | 2, _ => exact q85
  | 3, _ => exact q87
  | 4, _ => exact q89
  | 5, _ => exact q91
  | 6, _ => exact q93
  | 7, _ => exact q95
  | 8, _ => exact q97
  | 9, _ => exact q99
  | 10, _ => exact q101
  | 11, _ => exact q103
  | n + 12, h => omega
theorem dcl7 : ∀ j, j < 12 → (TX7 j).1 = RX7 := by decide +kernel
theorem lay8 : ∀ w ∈ u_ws RX8 TX8 2, w ∈ TB := fun w hw => by
  obtain ⟨k, hk, rfl⟩ := List.mem_map.mp hw
  have hk := List.mem_range.mp hk
  match k, hk with
  | 0, _ => exact q233
  | 1, _ => exact q235
  | n + 2, h => omega
theorem dcl8 : ∀ j, j < 2 → (TX8 j).1 = RX8 := by decide +kernel
theorem lay9 : ∀ w ∈ u_ws RX9 TX9 14, w ∈ TB := fun w hw => by
  obtain ⟨k, hk, rfl⟩ := List.mem_map.mp hw
  have hk := List.mem_range.mp hk
  match k, hk with
  | 0, _ => exact q307
  | 1, _ => exact q309
  | 2, _ => exact q311
  | 3, _ => exact q313
  | 4, _ => exact q315
  | 5, _ => exact q317
  | 6, _ => exact q319
  | 7, _ => exact q321
  | 8, _ => exact q323
  | 9, _ => exact q325
  | 10, _ => exact q327
  | 11, _ => exact q329
  | 12, _ => exact q331
  | 13, _ => exact q333
  | n + 14, h => omega
theorem dcl9 : ∀ j, j < 14 → (TX9 j).1 = RX9 := by decide +kernel
theorem lay10 : ∀ w ∈ u_ws RX10 TX10 29, w ∈ TB := fun w hw => by
  obtain ⟨k, hk, rfl⟩ := List.mem_map.mp hw
  have hk := List.mem_range.mp hk
  match k, hk with
  | 0, _ => exact q1016
  | 1, _ => exact q1018
  | 2, _ => exact q1020
  | 3, _ => exact q1022
  | 4, _ => exact q1024
  | 5, _ => exact q1026
  | 6, _ => exact q1028
  | 7, _ => exact q1030
  | 8, _ => exact q1032
  | 9, _ => exact q1034
  | 10, _ => exact q1036
  | 11, _ => exact q1038
  | 12, _ => exact q1040
  | 13, _ => exact q1042
  | 14, _ => exact q1044
  | 15, _ => exact q1046
  | 16, _ => exact q1048
  | 17, _ => exact q1050
  | 18, _ => exact q1052
  | 19, _ => exact q1054
  | 20, _ => exact q1056
  | 21, _ => exact q1058
  | 22, _ => exact q1060
  | 23, _ => exact q1062
  | 24, _ => exact q1064
  | 25, _ => exact q1066
  | 26, _ => exact q1068
  | 27, _ => exact q1070
  | 28, _ => exact q1072
  | n + 29, h => omega
theorem dcl10 : ∀ j, j < 29 → (TX10 j).1 = RX10 := by decide +kernel
theorem clsOk : ∀ (tag : Nat) (r : vw_C), vwCl[tag]? = some r → (∀ w ∈ u_ws r.1 r.2.1 r.2.2, w ∈ TB) ∧ (∃ ty0 : Nat → FieldType, ∀ k, k < r.2.2 → parseFieldDescriptor (r.2.1 k).2.2.1 = some (ty0 k)) ∧ (∀ a, a < r.2.2 → ∀ b, b < r.2.2 → a ≠ b → (r.2.1 a).2.1 ≠ (r.2.1 b).2.1) ∧ (∀ j, j < r.2.2 → (r.2.1 j).1 = r.1) := by
  intro tag r h
  match tag, h with
  | 0, h => cases h; exact ⟨lay0, ⟨tyX0, tyX0_ok⟩, nmX0, dcl0⟩
  | 1, h => cases h; exact ⟨lay1, ⟨tyX1, tyX1_ok⟩, nmX1, dcl1⟩
  | 2, h => cases h; exact ⟨lay2, ⟨tyX2, tyX2_ok⟩, nmX2, dcl2⟩
  | 3, h => cases h; exact ⟨lay3, ⟨tyX3, tyX3_ok⟩, nmX3, dcl3⟩
  | 4, h => cases h; exact ⟨lay4, ⟨tyX4, tyX4_ok⟩, nmX4, dcl4⟩
  | 5, h => cases h; exact ⟨lay5, ⟨tyX5, tyX5_ok⟩, nmX5, dcl5⟩
  | 6, h => cases h; exact ⟨lay6, ⟨tyX6, tyX6_ok⟩, nmX6, dcl6⟩
  | 7, h => cases h; exact ⟨lay7, ⟨tyX7, tyX7_ok⟩, nmX7, dcl7⟩
  | 8, h => cases h; exact ⟨lay8, ⟨tyX8, tyX8_ok⟩, nmX8, dcl8⟩
  | 9, h => cases h; exact ⟨lay9, ⟨tyX9, tyX9_ok⟩, nmX9, dcl9⟩
  | 10, h => cases h; exact ⟨lay10, ⟨tyX10, tyX10_ok⟩, nmX10, dcl10⟩
  | n + 11, h => simp at h
