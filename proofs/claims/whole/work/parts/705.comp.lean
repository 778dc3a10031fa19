/-! ALL CALLS: the two new objects, computed -/
theorem in_10 : I10 Q1.2 := by
  unfold I10
  decide +kernel
theorem in_11 : I11 Q1.2 := by
  unfold I11
  decide +kernel
theorem in_12 : I12 Q1.2 := by
  unfold I12
  decide +kernel
theorem in_13 : I13 Q1.2 := by
  unfold I13
  decide +kernel
theorem in_14 : I14 Q1.2 := by
  unfold I14
  decide +kernel
theorem in_15 : I15 Q1.2 := by
  unfold I15
  decide +kernel
theorem in_16 : I16 Q1.2 := by
  unfold I16
  decide +kernel
theorem in_17 : I17 Q1.2 := by
  unfold I17
  decide +kernel
theorem in_18 : I18 Q1.1 := by
  unfold I18
  decide +kernel
theorem in_19 : WA Q1.1 16 ∧ WB Q1.2 16 := by
  unfold WA WB
  decide +kernel
theorem in_23 : In1 Q1.1 Q1.2 0 (fun _ => none) (fun _ => []) (fun _ => none) (w0 Q1.2) 0 (fun _ => 0) := in_22 ⟨in_7, in_8⟩ in_5 in_6 in_10 in_11 in_12 in_13 in_14 in_15 (in_20 in_16 in_17 in_18 in_19)
