/-! every instruction of the code tables is what the bytes hold -/
def pdecb (cc : ByteArray) (q : Nat × Instr × Nat) : Bool := decide (decode cc q.1 = .ok (q.2.1, q.2.2)) && (match q.2.1 with
  | .tableswitch .. => true
  | .lookupswitch .. => true
  | i => decide (q.2.2 = pilen i))
theorem pdec_of {cc : ByteArray} {q : Nat × Instr × Nat} (h : pdecb cc q = true) : pdec cc q.1 q.2.1 q.2.2 := by
  unfold pdecb at h
  rw [Bool.and_eq_true] at h
  refine ⟨of_decide_eq_true h.1, ?_⟩
  have h2 := h.2
  split
  · trivial
  · trivial
  · rename_i i hn1 hn2
    split at h2
    · rename_i he; exact absurd he (hn1 _ _ _ _)
    · rename_i he; exact absurd he (hn2 _ _)
    · exact of_decide_eq_true h2
theorem pdec_all {cc : ByteArray} {cd : List (Nat × Instr × Nat)} (h : cd.all (pdecb cc) = true) : ∀ q ∈ cd, pdec cc q.1 q.2.1 q.2.2 := fun q hq => pdec_of (List.all_eq_true.mp h q hq)
theorem dk_0 : cd_0.all (pdecb prog_2_method_1_code) = true := by decide +kernel
theorem dk_1 : cd_1.all (pdecb prog_2_method_2_code) = true := by decide +kernel
theorem dk_2 : cd_2.all (pdecb prog_2_method_3_code) = true := by decide +kernel
theorem dk_3 : cd_3.all (pdecb prog_3_method_1_code) = true := by decide +kernel
theorem dk_4 : cd_4.all (pdecb prog_3_method_2_code) = true := by decide +kernel
theorem dk_5 : cd_5.all (pdecb prog_3_method_3_code) = true := by decide +kernel
theorem dk_6 : cd_6.all (pdecb prog_3_method_4_code) = true := by decide +kernel
theorem dk_7 : cd_7.all (pdecb prog_3_method_5_code) = true := by decide +kernel
theorem dk_8 : cd_8.all (pdecb prog_4_method_1_code) = true := by decide +kernel
theorem dk_9 : cd_9.all (pdecb prog_4_method_2_code) = true := by decide +kernel
theorem dk_10 : cd_10.all (pdecb prog_4_method_3_code) = true := by decide +kernel
theorem dk_11 : cd_11.all (pdecb prog_4_method_4_code) = true := by decide +kernel
theorem dk_12 : cd_12.all (pdecb prog_4_method_5_code) = true := by decide +kernel
theorem dk_13 : cd_13.all (pdecb prog_4_method_6_code) = true := by decide +kernel
theorem dk_14 : cd_14.all (pdecb prog_4_method_7_code) = true := by decide +kernel
theorem dk_15 : cd_15.all (pdecb prog_5_method_1_code) = true := by decide +kernel
theorem dk_16 : cd_16.all (pdecb prog_5_method_2_code) = true := by decide +kernel
theorem dk_17 : cd_17.all (pdecb prog_5_method_3_code) = true := by decide +kernel
theorem dk_18 : cd_18.all (pdecb prog_5_method_4_code) = true := by decide +kernel
theorem dk_19 : cd_19.all (pdecb prog_5_method_5_code) = true := by decide +kernel
theorem dk_20 : cd_20.all (pdecb prog_5_method_6_code) = true := by decide +kernel
theorem dk_21 : cd_21.all (pdecb prog_5_method_7_code) = true := by decide +kernel
theorem dk_22 : cd_22.all (pdecb prog_5_method_8_code) = true := by decide +kernel
theorem dk_23 : cd_23.all (pdecb prog_5_method_9_code) = true := by decide +kernel
theorem dk_24 : cd_24.all (pdecb prog_5_method_10_code) = true := by decide +kernel
theorem dk_25 : cd_25.all (pdecb prog_5_method_11_code) = true := by decide +kernel
theorem dk_26 : cd_26.all (pdecb prog_5_method_12_code) = true := by decide +kernel
theorem dk_27 : cd_27.all (pdecb prog_5_method_13_code) = true := by decide +kernel
theorem dk_28 : cd_28.all (pdecb prog_5_method_14_code) = true := by decide +kernel
theorem dk_29 : cd_29.all (pdecb prog_6_method_1_code) = true := by decide +kernel
theorem dk_30 : cd_30.all (pdecb prog_7_method_1_code) = true := by decide +kernel
theorem dk_31 : cd_31.all (pdecb prog_7_method_2_code) = true := by decide +kernel
theorem dk_32 : cd_32.all (pdecb prog_7_method_3_code) = true := by decide +kernel
theorem dk_33 : cd_33.all (pdecb prog_7_method_4_code) = true := by decide +kernel
theorem dk_34 : cd_34.all (pdecb prog_7_method_5_code) = true := by decide +kernel
theorem dk_35 : cd_35.all (pdecb prog_7_method_6_code) = true := by decide +kernel
theorem dk_36 : cd_36.all (pdecb prog_7_method_7_code) = true := by decide +kernel
theorem dk_37 : cd_37.all (pdecb prog_7_method_8_code) = true := by decide +kernel
theorem dk_38 : cd_38.all (pdecb prog_7_method_9_code) = true := by decide +kernel
theorem dk_39 : cd_39.all (pdecb prog_7_method_10_code) = true := by decide +kernel
theorem dk_40 : cd_40.all (pdecb prog_7_method_11_code) = true := by decide +kernel
theorem dk_41 : cd_41.all (pdecb prog_7_method_12_code) = true := by decide +kernel
theorem dk_42 : cd_42.all (pdecb prog_7_method_13_code) = true := by decide +kernel
theorem dk_43 : cd_43.all (pdecb prog_7_method_14_code) = true := by decide +kernel
theorem dk_44 : cd_44.all (pdecb prog_7_method_15_code) = true := by decide +kernel
theorem dk_45 : cd_45.all (pdecb prog_7_method_16_code) = true := by decide +kernel
theorem dk_46 : cd_46.all (pdecb prog_7_method_17_code) = true := by decide +kernel
theorem dk_47 : cd_47.all (pdecb prog_7_method_18_code) = true := by decide +kernel
theorem dk_48 : cd_48.all (pdecb prog_7_method_19_code) = true := by decide +kernel
theorem dk_49 : cd_49.all (pdecb prog_7_method_20_code) = true := by decide +kernel
theorem dk_50 : cd_50.all (pdecb prog_7_method_21_code) = true := by decide +kernel
theorem dk_51 : cd_51.all (pdecb prog_7_method_22_code) = true := by decide +kernel
theorem dk_52 : cd_52.all (pdecb prog_8_method_1_code) = true := by decide +kernel
theorem dk_53 : cd_53.all (pdecb prog_8_method_2_code) = true := by decide +kernel
theorem dk_54 : cd_54.all (pdecb prog_8_method_3_code) = true := by decide +kernel
theorem dk_55 : cd_55.all (pdecb prog_8_method_4_code) = true := by decide +kernel
theorem dk_56 : cd_56.all (pdecb prog_8_method_5_code) = true := by decide +kernel
theorem dk_57 : cd_57.all (pdecb prog_8_method_6_code) = true := by decide +kernel
theorem dk_58 : cd_58.all (pdecb prog_8_method_7_code) = true := by decide +kernel
theorem dk_59 : cd_59.all (pdecb prog_8_method_8_code) = true := by decide +kernel
theorem dk_60 : cd_60.all (pdecb prog_8_method_9_code) = true := by decide +kernel
theorem dk_61 : cd_61.all (pdecb prog_8_method_10_code) = true := by decide +kernel
theorem dk_62 : cd_62.all (pdecb prog_8_method_11_code) = true := by decide +kernel
theorem dk_63 : cd_63.all (pdecb prog_8_method_12_code) = true := by decide +kernel
theorem dk_64 : cd_64.all (pdecb prog_8_method_13_code) = true := by decide +kernel
theorem dk_65 : cd_65.all (pdecb prog_8_method_14_code) = true := by decide +kernel
theorem dk_66 : cd_66.all (pdecb prog_8_method_15_code) = true := by decide +kernel
theorem dk_67 : cd_67.all (pdecb prog_8_method_16_code) = true := by decide +kernel
theorem dk_68 : cd_68.all (pdecb prog_8_method_17_code) = true := by decide +kernel
theorem dk_69 : cd_69.all (pdecb prog_8_method_18_code) = true := by decide +kernel
theorem dk_70 : cd_70.all (pdecb prog_8_method_19_code) = true := by decide +kernel
theorem dk_71 : cd_71.all (pdecb prog_8_method_20_code) = true := by decide +kernel
theorem dk_72 : cd_72.all (pdecb prog_8_method_21_code) = true := by decide +kernel
theorem dk_73 : cd_73.all (pdecb prog_9_method_1_code) = true := by decide +kernel
theorem dk_74 : cd_74.all (pdecb prog_9_method_2_code) = true := by decide +kernel
theorem dk_75 : cd_75.all (pdecb prog_9_method_3_code) = true := by decide +kernel
theorem dk_76 : cd_76.all (pdecb prog_9_method_4_code) = true := by decide +kernel
theorem dk_77 : cd_77.all (pdecb prog_9_method_5_code) = true := by decide +kernel
theorem dk_78 : cd_78.all (pdecb prog_9_method_6_code) = true := by decide +kernel
theorem dk_79 : cd_79.all (pdecb prog_9_method_7_code) = true := by decide +kernel
theorem dk_80 : cd_80.all (pdecb prog_9_method_8_code) = true := by decide +kernel
theorem dk_81 : cd_81.all (pdecb prog_9_method_9_code) = true := by decide +kernel
theorem dk_82 : cd_82.all (pdecb prog_9_method_10_code) = true := by decide +kernel
theorem dk_83 : cd_83.all (pdecb prog_9_method_11_code) = true := by decide +kernel
theorem dk_84 : cd_84.all (pdecb prog_9_method_12_code) = true := by decide +kernel
theorem dk_85 : cd_85.all (pdecb prog_9_method_13_code) = true := by decide +kernel
theorem dk_86 : cd_86.all (pdecb prog_9_method_14_code) = true := by decide +kernel
theorem dk_87 : cd_87.all (pdecb prog_9_method_15_code) = true := by decide +kernel
theorem dk_88 : cd_88.all (pdecb prog_9_method_16_code) = true := by decide +kernel
theorem dk_89 : cd_89.all (pdecb prog_9_method_17_code) = true := by decide +kernel
theorem dk_90 : cd_90.all (pdecb prog_9_method_18_code) = true := by decide +kernel
theorem dk_91 : cd_91.all (pdecb prog_9_method_19_code) = true := by decide +kernel
theorem dk_92 : cd_92.all (pdecb prog_9_method_20_code) = true := by decide +kernel
theorem dk_93 : cd_93.all (pdecb prog_9_method_21_code) = true := by decide +kernel
theorem dk_94 : cd_94.all (pdecb prog_10_method_1_code) = true := by decide +kernel
theorem dk_95 : cd_95.all (pdecb prog_10_method_2_code) = true := by decide +kernel
theorem dk_96 : cd_96.all (pdecb prog_10_method_3_code) = true := by decide +kernel
theorem dk_97 : cd_97.all (pdecb prog_10_method_4_code) = true := by decide +kernel
theorem dk_98 : cd_98.all (pdecb prog_10_method_5_code) = true := by decide +kernel
theorem dk_99 : cd_99.all (pdecb prog_10_method_6_code) = true := by decide +kernel
