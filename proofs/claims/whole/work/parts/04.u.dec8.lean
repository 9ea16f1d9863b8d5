theorem dkl_0 : cdl_0.all (pdecb code) = true := by decide +kernel
theorem dkl_1 : cdl_1.all (pdecb code) = true := by decide +kernel
theorem dkl_2 : cdl_2.all (pdecb code) = true := by decide +kernel
theorem dkl_3 : cdl_3.all (pdecb code) = true := by decide +kernel
theorem dkl_4 : cdl_4.all (pdecb code) = true := by decide +kernel
theorem dkl_5 : cdl_5.all (pdecb code) = true := by decide +kernel
theorem dkl_6 : cdl_6.all (pdecb code) = true := by decide +kernel
theorem dkl_7 : cdl_7.all (pdecb code) = true := by decide +kernel
theorem dkl_8 : cdl_8.all (pdecb code) = true := by decide +kernel
theorem dkl_9 : cdl_9.all (pdecb code) = true := by decide +kernel
theorem dkl_10 : cdl_10.all (pdecb code) = true := by decide +kernel
theorem dkl_11 : cdl_11.all (pdecb code) = true := by decide +kernel
theorem dkl_12 : cdl_12.all (pdecb code) = true := by decide +kernel
theorem dkl_13 : cdl_13.all (pdecb code) = true := by decide +kernel
theorem dk_law : ∀ q ∈ cd_law, pdec code q.1 q.2.1 q.2.2 := by
  intro q hq
  unfold cd_law at hq
  simp only [List.mem_append] at hq
  rcases hq with h | h | h | h | h | h | h | h | h | h | h | h | h | h
  · exact pdec_all dkl_0 q h
  · exact pdec_all dkl_1 q h
  · exact pdec_all dkl_2 q h
  · exact pdec_all dkl_3 q h
  · exact pdec_all dkl_4 q h
  · exact pdec_all dkl_5 q h
  · exact pdec_all dkl_6 q h
  · exact pdec_all dkl_7 q h
  · exact pdec_all dkl_8 q h
  · exact pdec_all dkl_9 q h
  · exact pdec_all dkl_10 q h
  · exact pdec_all dkl_11 q h
  · exact pdec_all dkl_12 q h
  · exact pdec_all dkl_13 q h
