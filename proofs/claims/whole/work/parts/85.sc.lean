/-! the JDK's methods of constant texts: words and codes -/
theorem jd_c0 : Cond.code yJ0_coder_7d493 cJ0_coder_7d493 1 (some .byte) ∈ pm_w := by decide +kernel
theorem jd_c1 : Cond.code yJ0_length_8abf5 cJ0_length_8abf5 1 (some .int) ∈ pm_w := by decide +kernel
theorem jd_c2 : Cond.code yJ0_charAt_5068e cJ0_charAt_5068e 2 (some .char) ∈ pm_w := by decide +kernel
theorem jd_c3 : Cond.code yJ0_isLatin1_aae02 cJ0_isLatin1_aae02 1 (some .boolean) ∈ pm_w := by decide +kernel
theorem jd_c4 : Cond.code yJ2_charAt_3b067 cJ2_charAt_3b067 2 (some .char) ∈ pm_w := by decide +kernel
theorem jd_f0 : Cond.fieldLink "java/lang/String" 9 "java/lang/String" "value" "[B" ∈ pm_w := by decide +kernel
theorem jd_f1 : Cond.fieldLink "java/lang/String" 15 "java/lang/String" "coder" "B" ∈ pm_w := by decide +kernel
theorem jd_f2 : Cond.fieldLink "java/lang/String" 38 "java/lang/String" "COMPACT_STRINGS" "Z" ∈ pm_w := by decide +kernel
theorem jd_m0 : Cond.methodLink "java/lang/String" 335 yJ0_coder_7d493 ∈ pm_w := by decide +kernel
theorem jd_m1 : Cond.methodLink "java/lang/String" 492 yJ0_isLatin1_aae02 ∈ pm_w := by decide +kernel
theorem jd_i0 : Cond.instanceMethod yJ0_coder_7d493 ∈ pm_w := by decide +kernel
theorem jd_i1 : Cond.instanceMethod yJ0_length_8abf5 ∈ pm_w := by decide +kernel
theorem jd_i2 : Cond.instanceMethod yJ0_charAt_5068e ∈ pm_w := by decide +kernel
theorem jd_i3 : Cond.instanceMethod yJ0_isLatin1_aae02 ∈ pm_w := by decide +kernel
theorem jd_s2 : Cond.static yJ2_charAt_3b067 ∈ pm_w := by decide +kernel
