-- what the program checks of every method: written by wip/tools/m19.py
theorem xmo_0 : xmt_0.all xmo = true := by decide +kernel
theorem xmo_1 : xmt_1.all xmo = true := by decide +kernel
theorem xmo_2 : xmt_2.all xmo = true := by decide +kernel
theorem xmo_3 : xmt_3.all xmo = true := by decide +kernel
theorem xmo_4 : xmt_4.all xmo = true := by decide +kernel
theorem xmo_5 : xmt_5.all xmo = true := by decide +kernel
theorem xmo_6 : xmt_6.all xmo = true := by decide +kernel
theorem xmo_7 : xmt_7.all xmo = true := by decide +kernel
theorem xmo_8 : xmt_8.all xmo = true := by decide +kernel
theorem xmo_9 : xmt_9.all xmo = true := by decide +kernel
theorem xmo_10 : xmt_10.all xmo = true := by decide +kernel
theorem xmo_11 : xmt_11.all xmo = true := by decide +kernel
theorem xmt_ok : ∀ q ∈ xmt, xmo q = true := by
  unfold xmt
  intro q hq
  simp only [List.mem_append] at hq
  rcases hq with h | h | h | h | h | h | h | h | h | h | h | h
  · exact List.all_eq_true.mp xmo_0 q h
  · exact List.all_eq_true.mp xmo_1 q h
  · exact List.all_eq_true.mp xmo_2 q h
  · exact List.all_eq_true.mp xmo_3 q h
  · exact List.all_eq_true.mp xmo_4 q h
  · exact List.all_eq_true.mp xmo_5 q h
  · exact List.all_eq_true.mp xmo_6 q h
  · exact List.all_eq_true.mp xmo_7 q h
  · exact List.all_eq_true.mp xmo_8 q h
  · exact List.all_eq_true.mp xmo_9 q h
  · exact List.all_eq_true.mp xmo_10 q h
  · exact List.all_eq_true.mp xmo_11 q h
