/-! the nest's words -/
def nF : List (String × Nat × String × String × String × String) := [(RX4, 56, "ComeIfShe$Party", "size", "I", "ComeIfShe"), (RX3, 41, "ComeIfShe$Party", "size", "I", "ComeIfShe"), (RX3, 27, "ComeIfShe$Party", "list", "I", "ComeIfShe"), (RX4, 74, "ComeIfShe$Party", "list", "I", "ComeIfShe"), (RX4, 236, "ComeIfShe$Party", "told", "I", "ComeIfShe"), (RX4, 68, "ComeIfShe$Party", "kinds", "[I", "ComeIfShe"), (RX4, 71, "ComeIfShe$Party", "costs", "[I", "ComeIfShe"), (RX4, 109, "ComeIfShe$Tape", "length", "I", "ComeIfShe"), (RX4, 102, "ComeIfShe$Tape", "fault", "I", "ComeIfShe"), (RX4, 205, "ComeIfShe$Sheet", "bits", "I", "ComeIfShe"), (RX4, 195, "ComeIfShe$Sheet", "size", "I", "ComeIfShe"), (RX4, 211, "ComeIfShe$Sheet", "numbers", "[J", "ComeIfShe"), (RX2, 69, "ComeIfShe", "LISTS_WITH", "[J", "ComeIfShe")]
def nM : List (String × Nat × MethodName × String) := [(RX0, 63, yX4_othersOn, "ComeIfShe"), (RX2, 73, yX4_isOn, "ComeIfShe"), (RX2, 83, yX4_oneIf, "ComeIfShe"), (RX0, 56, yX4_isOn, "ComeIfShe"), (RX0, 79, yX4_oneIf, "ComeIfShe")]
theorem nf_0 : (RX4, 56, "ComeIfShe$Party", "size", "I", "ComeIfShe") ∈ nF := List.mem_of_getElem? (i := 0) rfl
theorem nf_1 : (RX3, 41, "ComeIfShe$Party", "size", "I", "ComeIfShe") ∈ nF := List.mem_of_getElem? (i := 1) rfl
theorem nf_2 : (RX3, 27, "ComeIfShe$Party", "list", "I", "ComeIfShe") ∈ nF := List.mem_of_getElem? (i := 2) rfl
theorem nf_3 : (RX4, 74, "ComeIfShe$Party", "list", "I", "ComeIfShe") ∈ nF := List.mem_of_getElem? (i := 3) rfl
theorem nf_4 : (RX4, 236, "ComeIfShe$Party", "told", "I", "ComeIfShe") ∈ nF := List.mem_of_getElem? (i := 4) rfl
theorem nf_5 : (RX4, 68, "ComeIfShe$Party", "kinds", "[I", "ComeIfShe") ∈ nF := List.mem_of_getElem? (i := 5) rfl
theorem nf_6 : (RX4, 71, "ComeIfShe$Party", "costs", "[I", "ComeIfShe") ∈ nF := List.mem_of_getElem? (i := 6) rfl
theorem nf_7 : (RX4, 109, "ComeIfShe$Tape", "length", "I", "ComeIfShe") ∈ nF := List.mem_of_getElem? (i := 7) rfl
theorem nf_8 : (RX4, 102, "ComeIfShe$Tape", "fault", "I", "ComeIfShe") ∈ nF := List.mem_of_getElem? (i := 8) rfl
theorem nf_9 : (RX4, 205, "ComeIfShe$Sheet", "bits", "I", "ComeIfShe") ∈ nF := List.mem_of_getElem? (i := 9) rfl
theorem nf_10 : (RX4, 195, "ComeIfShe$Sheet", "size", "I", "ComeIfShe") ∈ nF := List.mem_of_getElem? (i := 10) rfl
theorem nf_11 : (RX4, 211, "ComeIfShe$Sheet", "numbers", "[J", "ComeIfShe") ∈ nF := List.mem_of_getElem? (i := 11) rfl
theorem nf_12 : (RX2, 69, "ComeIfShe", "LISTS_WITH", "[J", "ComeIfShe") ∈ nF := List.mem_of_getElem? (i := 12) rfl
theorem nm_0 : (RX0, 63, yX4_othersOn, "ComeIfShe") ∈ nM := List.mem_of_getElem? (i := 0) rfl
theorem nm_1 : (RX2, 73, yX4_isOn, "ComeIfShe") ∈ nM := List.mem_of_getElem? (i := 1) rfl
theorem nm_2 : (RX2, 83, yX4_oneIf, "ComeIfShe") ∈ nM := List.mem_of_getElem? (i := 2) rfl
theorem nm_3 : (RX0, 56, yX4_isOn, "ComeIfShe") ∈ nM := List.mem_of_getElem? (i := 3) rfl
theorem nm_4 : (RX0, 79, yX4_oneIf, "ComeIfShe") ∈ nM := List.mem_of_getElem? (i := 4) rfl
theorem nF_in : ∀ q ∈ nF, Cond.fieldLinkNest q.1 q.2.1 q.2.2.1 q.2.2.2.1 q.2.2.2.2.1 q.2.2.2.2.2 ∈ lw_tbl := by
  intro q hq
  simp only [nF, List.mem_cons, List.not_mem_nil, or_false] at hq
  rcases hq with rfl | rfl | rfl | rfl | rfl | rfl | rfl | rfl | rfl | rfl | rfl | rfl | rfl
  · exact List.mem_of_getElem? (i := 81) (by decide +kernel)
  · exact List.mem_of_getElem? (i := 82) (by decide +kernel)
  · exact List.mem_of_getElem? (i := 83) (by decide +kernel)
  · exact List.mem_of_getElem? (i := 84) (by decide +kernel)
  · exact List.mem_of_getElem? (i := 87) (by decide +kernel)
  · exact List.mem_of_getElem? (i := 89) (by decide +kernel)
  · exact List.mem_of_getElem? (i := 91) (by decide +kernel)
  · exact List.mem_of_getElem? (i := 119) (by decide +kernel)
  · exact List.mem_of_getElem? (i := 122) (by decide +kernel)
  · exact List.mem_of_getElem? (i := 162) (by decide +kernel)
  · exact List.mem_of_getElem? (i := 164) (by decide +kernel)
  · exact List.mem_of_getElem? (i := 166) (by decide +kernel)
  · exact List.mem_of_getElem? (i := 298) (by decide +kernel)
theorem nM_in : ∀ q ∈ nM, Cond.methodLinkNest q.1 q.2.1 q.2.2.1 q.2.2.2 ∈ lw_tbl := by
  intro q hq
  simp only [nM, List.mem_cons, List.not_mem_nil, or_false] at hq
  rcases hq with rfl | rfl | rfl | rfl | rfl
  · exact List.mem_of_getElem? (i := 236) (by decide +kernel)
  · exact List.mem_of_getElem? (i := 300) (by decide +kernel)
  · exact List.mem_of_getElem? (i := 308) (by decide +kernel)
  · exact List.mem_of_getElem? (i := 367) (by decide +kernel)
  · exact List.mem_of_getElem? (i := 380) (by decide +kernel)
