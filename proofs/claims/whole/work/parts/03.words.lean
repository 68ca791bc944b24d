theorem m_0 : (.code y_PB_isWhole b_PB_isWhole 1 (some .boolean) : Cond) ∈ BIG := List.mem_filter.mpr ⟨inT1 (List.mem_of_getElem? (i := 109) rfl), by rfl⟩
theorem m_1 : (.methodLink R_PB 38 y_PB_isWhole : Cond) ∈ BIG := List.mem_filter.mpr ⟨inT1 (List.mem_of_getElem? (i := 107) (by decide +kernel)), by rfl⟩
theorem m_2 : (.static y_PB_isWhole : Cond) ∈ BIG := List.mem_filter.mpr ⟨inT1 (List.mem_of_getElem? (i := 108) (by decide +kernel)), by rfl⟩
theorem m_3 : (.initialized R_PB : Cond) ∈ BIG := List.mem_filter.mpr ⟨inT1 (List.mem_of_getElem? (i := 1) (by decide +kernel)), by rfl⟩
theorem m_4 : (.fieldLink R_Real 45 R_Real "infinity" "J" : Cond) ∈ BIG := List.mem_filter.mpr ⟨inT4 (List.mem_of_getElem? (i := 191) (by decide +kernel)), by rfl⟩
theorem m_5 : (.fieldLink R_Real 31 R_Real "fractionBits" "I" : Cond) ∈ BIG := List.mem_filter.mpr ⟨inT4 (List.mem_of_getElem? (i := 192) (by decide +kernel)), by rfl⟩
theorem m_6 : (.fieldLink R_Real 41 R_Real "signBit" "J" : Cond) ∈ BIG := List.mem_filter.mpr ⟨inT4 (List.mem_of_getElem? (i := 190) (by decide +kernel)), by rfl⟩
theorem m_7 : (.code y_Real_magnitude b_Real_magnitude 3 (some .long) : Cond) ∈ BIG := List.mem_filter.mpr ⟨inT1 (List.mem_of_getElem? (i := 223) rfl), by rfl⟩
theorem m_8 : (.methodLink R_Real 48 y_Real_magnitude : Cond) ∈ BIG := List.mem_filter.mpr ⟨inT1 (List.mem_of_getElem? (i := 219) (by decide +kernel)), by rfl⟩
theorem m_9 : (.instanceMethod y_Real_magnitude : Cond) ∈ BIG := List.mem_filter.mpr ⟨inT1 (List.mem_of_getElem? (i := 221) (by decide +kernel)), by rfl⟩
theorem m_10 : (.selects R_Real y_Real_magnitude y_Real_magnitude : Cond) ∈ BIG := List.mem_filter.mpr ⟨inT0 (List.mem_of_getElem? (i := 1) (by decide +kernel)), by rfl⟩
theorem m_11 : (.initialized R_Real : Cond) ∈ BIG := List.mem_filter.mpr ⟨inT1 (List.mem_of_getElem? (i := 13) (by decide +kernel)), by rfl⟩
theorem m_12 : (.code y_Real_isNegative b_Real_isNegative 3 (some .boolean) : Cond) ∈ BIG := List.mem_filter.mpr ⟨inT2 (List.mem_of_getElem? (i := 3) rfl), by rfl⟩
theorem m_13 : (.methodLink R_Real 52 y_Real_isNegative : Cond) ∈ BIG := List.mem_filter.mpr ⟨inT2 (List.mem_of_getElem? (i := 0) (by decide +kernel)), by rfl⟩
theorem m_14 : (.instanceMethod y_Real_isNegative : Cond) ∈ BIG := List.mem_filter.mpr ⟨inT2 (List.mem_of_getElem? (i := 1) (by decide +kernel)), by rfl⟩
theorem m_15 : (.selects R_Real y_Real_isNegative y_Real_isNegative : Cond) ∈ BIG := List.mem_filter.mpr ⟨inT2 (List.mem_of_getElem? (i := 2) (by decide +kernel)), by rfl⟩
theorem m_16 : (.fieldLink R_Real 35 R_Real "topExponent" "I" : Cond) ∈ BIG := List.mem_filter.mpr ⟨inT4 (List.mem_of_getElem? (i := 193) (by decide +kernel)), by rfl⟩
theorem m_17 : (.code y_Real_exponent b_Real_exponent 3 (some .int) : Cond) ∈ BIG := List.mem_filter.mpr ⟨inT2 (List.mem_of_getElem? (i := 20) rfl), by rfl⟩
theorem m_18 : (.methodLink R_Real 56 y_Real_exponent : Cond) ∈ BIG := List.mem_filter.mpr ⟨inT2 (List.mem_of_getElem? (i := 17) (by decide +kernel)), by rfl⟩
theorem m_19 : (.instanceMethod y_Real_exponent : Cond) ∈ BIG := List.mem_filter.mpr ⟨inT2 (List.mem_of_getElem? (i := 19) (by decide +kernel)), by rfl⟩
theorem m_20 : (.selects R_Real y_Real_exponent y_Real_exponent : Cond) ∈ BIG := List.mem_filter.mpr ⟨inT0 (List.mem_of_getElem? (i := 5) (by decide +kernel)), by rfl⟩
theorem m_21 : (.code y_Real_fraction b_Real_fraction 3 (some .long) : Cond) ∈ BIG := List.mem_filter.mpr ⟨inT2 (List.mem_of_getElem? (i := 24) rfl), by rfl⟩
theorem m_22 : (.methodLink R_Real 60 y_Real_fraction : Cond) ∈ BIG := List.mem_filter.mpr ⟨inT2 (List.mem_of_getElem? (i := 21) (by decide +kernel)), by rfl⟩
theorem m_23 : (.instanceMethod y_Real_fraction : Cond) ∈ BIG := List.mem_filter.mpr ⟨inT2 (List.mem_of_getElem? (i := 23) (by decide +kernel)), by rfl⟩
theorem m_24 : (.selects R_Real y_Real_fraction y_Real_fraction : Cond) ∈ BIG := List.mem_filter.mpr ⟨inT0 (List.mem_of_getElem? (i := 6) (by decide +kernel)), by rfl⟩
theorem m_25 : (.fieldLink R_Real 38 R_Real "lowestPower" "I" : Cond) ∈ BIG := List.mem_filter.mpr ⟨inT4 (List.mem_of_getElem? (i := 194) (by decide +kernel)), by rfl⟩
theorem m_26 : (.methodLink R_Real 63 Lib.Math.max.name : Cond) ∈ BIG := List.mem_filter.mpr ⟨inT2 (List.mem_of_getElem? (i := 29) (by decide +kernel)), by rfl⟩
theorem m_27 : (.static Lib.Math.max.name : Cond) ∈ BIG := List.mem_filter.mpr ⟨inT2 (List.mem_of_getElem? (i := 30) (by decide +kernel)), by rfl⟩
theorem m_28 : (.initialized "java/lang/Math" : Cond) ∈ BIG := List.mem_filter.mpr ⟨inT1 (List.mem_of_getElem? (i := 14) (by decide +kernel)), by rfl⟩
theorem m_29 : (.code Lib.Math.max.name Lib.Math.max.code 2 (some .int) : Cond) ∈ BIG := List.mem_filter.mpr ⟨inT2 (List.mem_of_getElem? (i := 31) rfl), by rfl⟩
theorem m_30 : (.code y_Real_isNan b_Real_isNan 3 (some .boolean) : Cond) ∈ BIG := List.mem_filter.mpr ⟨inT1 (List.mem_of_getElem? (i := 218) rfl), by rfl⟩
theorem m_31 : (.methodLink R_Real 69 y_Real_isNan : Cond) ∈ BIG := List.mem_filter.mpr ⟨inT2 (List.mem_of_getElem? (i := 52) (by decide +kernel)), by rfl⟩
theorem m_32 : (.instanceMethod y_Real_isNan : Cond) ∈ BIG := List.mem_filter.mpr ⟨inT1 (List.mem_of_getElem? (i := 216) (by decide +kernel)), by rfl⟩
theorem m_33 : (.selects R_Real y_Real_isNan y_Real_isNan : Cond) ∈ BIG := List.mem_filter.mpr ⟨inT1 (List.mem_of_getElem? (i := 217) (by decide +kernel)), by rfl⟩
theorem m_34 : (.code y_Real_signed b_Real_signed 4 (some .long) : Cond) ∈ BIG := List.mem_filter.mpr ⟨inT2 (List.mem_of_getElem? (i := 8) rfl), by rfl⟩
theorem m_35 : (.methodLink R_Real 76 y_Real_signed : Cond) ∈ BIG := List.mem_filter.mpr ⟨inT2 (List.mem_of_getElem? (i := 5) (by decide +kernel)), by rfl⟩
theorem m_36 : (.instanceMethod y_Real_signed : Cond) ∈ BIG := List.mem_filter.mpr ⟨inT2 (List.mem_of_getElem? (i := 7) (by decide +kernel)), by rfl⟩
theorem m_37 : (.selects R_Real y_Real_signed y_Real_signed : Cond) ∈ BIG := List.mem_filter.mpr ⟨inT0 (List.mem_of_getElem? (i := 3) (by decide +kernel)), by rfl⟩
theorem m_38 : (.code y_Real_nan b_Real_nan 1 (some .long) : Cond) ∈ BIG := List.mem_filter.mpr ⟨inT1 (List.mem_of_getElem? (i := 227) rfl), by rfl⟩
theorem m_39 : (.methodLink R_Real 72 y_Real_nan : Cond) ∈ BIG := List.mem_filter.mpr ⟨inT2 (List.mem_of_getElem? (i := 4) (by decide +kernel)), by rfl⟩
theorem m_40 : (.instanceMethod y_Real_nan : Cond) ∈ BIG := List.mem_filter.mpr ⟨inT1 (List.mem_of_getElem? (i := 225) (by decide +kernel)), by rfl⟩
theorem m_41 : (.selects R_Real y_Real_nan y_Real_nan : Cond) ∈ BIG := List.mem_filter.mpr ⟨inT1 (List.mem_of_getElem? (i := 226) (by decide +kernel)), by rfl⟩
theorem m_42 : (.code y_Real_isInfinite b_Real_isInfinite 3 (some .boolean) : Cond) ∈ BIG := List.mem_filter.mpr ⟨inT1 (List.mem_of_getElem? (i := 235) rfl), by rfl⟩
theorem m_43 : (.methodLink R_Real 80 y_Real_isInfinite : Cond) ∈ BIG := List.mem_filter.mpr ⟨inT1 (List.mem_of_getElem? (i := 232) (by decide +kernel)), by rfl⟩
theorem m_44 : (.instanceMethod y_Real_isInfinite : Cond) ∈ BIG := List.mem_filter.mpr ⟨inT1 (List.mem_of_getElem? (i := 233) (by decide +kernel)), by rfl⟩
theorem m_45 : (.selects R_Real y_Real_isInfinite y_Real_isInfinite : Cond) ∈ BIG := List.mem_filter.mpr ⟨inT1 (List.mem_of_getElem? (i := 234) (by decide +kernel)), by rfl⟩
theorem m_46 : (.code y_Real_jammed b_Real_jammed 3 (some .long) : Cond) ∈ BIG := List.mem_filter.mpr ⟨inT2 (List.mem_of_getElem? (i := 37) rfl), by rfl⟩
theorem m_47 : (.methodLink R_Real 99 y_Real_jammed : Cond) ∈ BIG := List.mem_filter.mpr ⟨inT2 (List.mem_of_getElem? (i := 35) (by decide +kernel)), by rfl⟩
theorem m_48 : (.static y_Real_jammed : Cond) ∈ BIG := List.mem_filter.mpr ⟨inT2 (List.mem_of_getElem? (i := 36) (by decide +kernel)), by rfl⟩
theorem m_49 : (.code y_PB_leadingZeros b_PB_leadingZeros 6 (some .int) : Cond) ∈ BIG := List.mem_filter.mpr ⟨inT2 (List.mem_of_getElem? (i := 44) rfl), by rfl⟩
theorem m_50 : (.static y_PB_leadingZeros : Cond) ∈ BIG := List.mem_filter.mpr ⟨inT2 (List.mem_of_getElem? (i := 43) (by decide +kernel)), by rfl⟩
theorem m_51 : (.code y_Real_nearest b_Real_nearest 10 (some .long) : Cond) ∈ BIG := List.mem_filter.mpr ⟨inT2 (List.mem_of_getElem? (i := 47) rfl), by rfl⟩
theorem m_52 : (.methodLink R_Real 140 y_Real_nearest : Cond) ∈ BIG := List.mem_filter.mpr ⟨inT2 (List.mem_of_getElem? (i := 45) (by decide +kernel)), by rfl⟩
theorem m_53 : (.static y_Real_nearest : Cond) ∈ BIG := List.mem_filter.mpr ⟨inT2 (List.mem_of_getElem? (i := 46) (by decide +kernel)), by rfl⟩
theorem m_54 : (.code y_Real_significand b_Real_significand 3 (some .long) : Cond) ∈ BIG := List.mem_filter.mpr ⟨inT2 (List.mem_of_getElem? (i := 16) rfl), by rfl⟩
theorem m_55 : (.methodLink R_Real 113 y_Real_significand : Cond) ∈ BIG := List.mem_filter.mpr ⟨inT2 (List.mem_of_getElem? (i := 13) (by decide +kernel)), by rfl⟩
theorem m_56 : (.instanceMethod y_Real_significand : Cond) ∈ BIG := List.mem_filter.mpr ⟨inT2 (List.mem_of_getElem? (i := 14) (by decide +kernel)), by rfl⟩
theorem m_57 : (.selects R_Real y_Real_significand y_Real_significand : Cond) ∈ BIG := List.mem_filter.mpr ⟨inT2 (List.mem_of_getElem? (i := 15) (by decide +kernel)), by rfl⟩
theorem m_58 : (.code y_Real_power b_Real_power 3 (some .int) : Cond) ∈ BIG := List.mem_filter.mpr ⟨inT2 (List.mem_of_getElem? (i := 28) rfl), by rfl⟩
theorem m_59 : (.methodLink R_Real 116 y_Real_power : Cond) ∈ BIG := List.mem_filter.mpr ⟨inT2 (List.mem_of_getElem? (i := 25) (by decide +kernel)), by rfl⟩
theorem m_60 : (.instanceMethod y_Real_power : Cond) ∈ BIG := List.mem_filter.mpr ⟨inT2 (List.mem_of_getElem? (i := 26) (by decide +kernel)), by rfl⟩
theorem m_61 : (.selects R_Real y_Real_power y_Real_power : Cond) ∈ BIG := List.mem_filter.mpr ⟨inT2 (List.mem_of_getElem? (i := 27) (by decide +kernel)), by rfl⟩
theorem m_62 : (.code y_Real_shiftedDown b_Real_shiftedDown 3 (some .long) : Cond) ∈ BIG := List.mem_filter.mpr ⟨inT2 (List.mem_of_getElem? (i := 34) rfl), by rfl⟩
theorem m_63 : (.methodLink R_Real 128 y_Real_shiftedDown : Cond) ∈ BIG := List.mem_filter.mpr ⟨inT2 (List.mem_of_getElem? (i := 32) (by decide +kernel)), by rfl⟩
theorem m_64 : (.static y_Real_shiftedDown : Cond) ∈ BIG := List.mem_filter.mpr ⟨inT2 (List.mem_of_getElem? (i := 33) (by decide +kernel)), by rfl⟩
theorem m_65 : (.code y_Real_rounded b_Real_rounded 13 (some .long) : Cond) ∈ BIG := List.mem_filter.mpr ⟨inT2 (List.mem_of_getElem? (i := 41) rfl), by rfl⟩
theorem m_66 : (.methodLink R_Real 106 y_Real_rounded : Cond) ∈ BIG := List.mem_filter.mpr ⟨inT2 (List.mem_of_getElem? (i := 38) (by decide +kernel)), by rfl⟩
theorem m_67 : (.instanceMethod y_Real_rounded : Cond) ∈ BIG := List.mem_filter.mpr ⟨inT2 (List.mem_of_getElem? (i := 40) (by decide +kernel)), by rfl⟩
theorem m_68 : (.selects R_Real y_Real_rounded y_Real_rounded : Cond) ∈ BIG := List.mem_filter.mpr ⟨inT0 (List.mem_of_getElem? (i := 7) (by decide +kernel)), by rfl⟩
theorem m_69 : (.code y_Real_infiniteSum b_Real_infiniteSum 5 (some .long) : Cond) ∈ BIG := List.mem_filter.mpr ⟨inT1 (List.mem_of_getElem? (i := 239) rfl), by rfl⟩
theorem m_70 : (.methodLink R_Real 83 y_Real_infiniteSum : Cond) ∈ BIG := List.mem_filter.mpr ⟨inT1 (List.mem_of_getElem? (i := 236) (by decide +kernel)), by rfl⟩
theorem m_71 : (.instanceMethod y_Real_infiniteSum : Cond) ∈ BIG := List.mem_filter.mpr ⟨inT1 (List.mem_of_getElem? (i := 238) (by decide +kernel)), by rfl⟩
theorem m_72 : (.selects R_Real y_Real_infiniteSum y_Real_infiniteSum : Cond) ∈ BIG := List.mem_filter.mpr ⟨inT0 (List.mem_of_getElem? (i := 2) (by decide +kernel)), by rfl⟩
theorem m_73 : (.code y_Real_orderedSum b_Real_orderedSum 13 (some .long) : Cond) ∈ BIG := List.mem_filter.mpr ⟨inT2 (List.mem_of_getElem? (i := 12) rfl), by rfl⟩
theorem m_74 : (.methodLink R_Real 87 y_Real_orderedSum : Cond) ∈ BIG := List.mem_filter.mpr ⟨inT2 (List.mem_of_getElem? (i := 9) (by decide +kernel)), by rfl⟩
theorem m_75 : (.instanceMethod y_Real_orderedSum : Cond) ∈ BIG := List.mem_filter.mpr ⟨inT2 (List.mem_of_getElem? (i := 11) (by decide +kernel)), by rfl⟩
theorem m_76 : (.selects R_Real y_Real_orderedSum y_Real_orderedSum : Cond) ∈ BIG := List.mem_filter.mpr ⟨inT0 (List.mem_of_getElem? (i := 4) (by decide +kernel)), by rfl⟩
theorem m_77 : (.code y_Real_alignment b_Real_alignment 3 (some .int) : Cond) ∈ BIG := List.mem_filter.mpr ⟨inT2 (List.mem_of_getElem? (i := 68) rfl), by rfl⟩
theorem m_78 : (.methodLink R_Real 132 y_Real_alignment : Cond) ∈ BIG := List.mem_filter.mpr ⟨inT2 (List.mem_of_getElem? (i := 65) (by decide +kernel)), by rfl⟩
theorem m_79 : (.instanceMethod y_Real_alignment : Cond) ∈ BIG := List.mem_filter.mpr ⟨inT2 (List.mem_of_getElem? (i := 67) (by decide +kernel)), by rfl⟩
theorem m_80 : (.selects R_Real y_Real_alignment y_Real_alignment : Cond) ∈ BIG := List.mem_filter.mpr ⟨inT0 (List.mem_of_getElem? (i := 9) (by decide +kernel)), by rfl⟩
theorem m_81 : (.constantLong R_Real 138 (4294967295) : Cond) ∈ BIG := List.mem_filter.mpr ⟨inT2 (List.mem_of_getElem? (i := 72) (by decide +kernel)), by rfl⟩
theorem m_82 : (.code y_Real_isZero b_Real_isZero 3 (some .boolean) : Cond) ∈ BIG := List.mem_filter.mpr ⟨inT2 (List.mem_of_getElem? (i := 60) rfl), by rfl⟩
theorem m_83 : (.methodLink R_Real 90 y_Real_isZero : Cond) ∈ BIG := List.mem_filter.mpr ⟨inT2 (List.mem_of_getElem? (i := 57) (by decide +kernel)), by rfl⟩
theorem m_84 : (.instanceMethod y_Real_isZero : Cond) ∈ BIG := List.mem_filter.mpr ⟨inT2 (List.mem_of_getElem? (i := 58) (by decide +kernel)), by rfl⟩
theorem m_85 : (.selects R_Real y_Real_isZero y_Real_isZero : Cond) ∈ BIG := List.mem_filter.mpr ⟨inT2 (List.mem_of_getElem? (i := 59) (by decide +kernel)), by rfl⟩
theorem m_86 : (.code y_Real_aligned b_Real_aligned 3 (some .long) : Cond) ∈ BIG := List.mem_filter.mpr ⟨inT2 (List.mem_of_getElem? (i := 64) rfl), by rfl⟩
theorem m_87 : (.methodLink R_Real 93 y_Real_aligned : Cond) ∈ BIG := List.mem_filter.mpr ⟨inT2 (List.mem_of_getElem? (i := 61) (by decide +kernel)), by rfl⟩
theorem m_88 : (.instanceMethod y_Real_aligned : Cond) ∈ BIG := List.mem_filter.mpr ⟨inT2 (List.mem_of_getElem? (i := 63) (by decide +kernel)), by rfl⟩
theorem m_89 : (.selects R_Real y_Real_aligned y_Real_aligned : Cond) ∈ BIG := List.mem_filter.mpr ⟨inT0 (List.mem_of_getElem? (i := 8) (by decide +kernel)), by rfl⟩
theorem m_90 : (.code y_Real_highProduct b_Real_highProduct 16 (some .long) : Cond) ∈ BIG := List.mem_filter.mpr ⟨inT2 (List.mem_of_getElem? (i := 71) rfl), by rfl⟩
theorem m_91 : (.methodLink R_Real 96 y_Real_highProduct : Cond) ∈ BIG := List.mem_filter.mpr ⟨inT2 (List.mem_of_getElem? (i := 69) (by decide +kernel)), by rfl⟩
theorem m_92 : (.static y_Real_highProduct : Cond) ∈ BIG := List.mem_filter.mpr ⟨inT2 (List.mem_of_getElem? (i := 70) (by decide +kernel)), by rfl⟩
theorem m_93 : (.code y_Real_alignedPower b_Real_alignedPower 3 (some .int) : Cond) ∈ BIG := List.mem_filter.mpr ⟨inT2 (List.mem_of_getElem? (i := 76) rfl), by rfl⟩
theorem m_94 : (.methodLink R_Real 103 y_Real_alignedPower : Cond) ∈ BIG := List.mem_filter.mpr ⟨inT2 (List.mem_of_getElem? (i := 73) (by decide +kernel)), by rfl⟩
theorem m_95 : (.instanceMethod y_Real_alignedPower : Cond) ∈ BIG := List.mem_filter.mpr ⟨inT2 (List.mem_of_getElem? (i := 75) (by decide +kernel)), by rfl⟩
theorem m_96 : (.selects R_Real y_Real_alignedPower y_Real_alignedPower : Cond) ∈ BIG := List.mem_filter.mpr ⟨inT0 (List.mem_of_getElem? (i := 10) (by decide +kernel)), by rfl⟩
theorem m_97 : (.code y_Real_dividedSignificands b_Real_dividedSignificands 11 (some .long) : Cond) ∈ BIG := List.mem_filter.mpr ⟨inT2 (List.mem_of_getElem? (i := 83) rfl), by rfl⟩
theorem m_98 : (.methodLink R_Real 110 y_Real_dividedSignificands : Cond) ∈ BIG := List.mem_filter.mpr ⟨inT2 (List.mem_of_getElem? (i := 81) (by decide +kernel)), by rfl⟩
theorem m_99 : (.static y_Real_dividedSignificands : Cond) ∈ BIG := List.mem_filter.mpr ⟨inT2 (List.mem_of_getElem? (i := 82) (by decide +kernel)), by rfl⟩
theorem m_100 : (.methodLink R_Real 119 Lib.Math.min.name : Cond) ∈ BIG := List.mem_filter.mpr ⟨inT2 (List.mem_of_getElem? (i := 88) (by decide +kernel)), by rfl⟩
theorem m_101 : (.static Lib.Math.min.name : Cond) ∈ BIG := List.mem_filter.mpr ⟨inT2 (List.mem_of_getElem? (i := 89) (by decide +kernel)), by rfl⟩
theorem m_102 : (.code Lib.Math.min.name Lib.Math.min.code 2 (some .int) : Cond) ∈ BIG := List.mem_filter.mpr ⟨inT2 (List.mem_of_getElem? (i := 90) rfl), by rfl⟩
theorem m_103 : (.constantLong R_Real 122 (-9223372036854775808) : Cond) ∈ BIG := List.mem_filter.mpr ⟨inT2 (List.mem_of_getElem? (i := 111) (by decide +kernel)), by rfl⟩
theorem m_104 : (.constantLong R_Real 124 (4611686018427387904) : Cond) ∈ BIG := List.mem_filter.mpr ⟨inT2 (List.mem_of_getElem? (i := 112) (by decide +kernel)), by rfl⟩
theorem m_105 : (.constantLong R_Real 126 (9223372036854775807) : Cond) ∈ BIG := List.mem_filter.mpr ⟨inT2 (List.mem_of_getElem? (i := 120) (by decide +kernel)), by rfl⟩
theorem m_106 : (.constantLong R_SD 42 (2) : Cond) ∈ BIG := List.mem_filter.mpr ⟨inT3 (List.mem_of_getElem? (i := 47) (by decide +kernel)), by rfl⟩
theorem m_107 : (.constantLong R_SD 51 (1000000000000000000) : Cond) ∈ BIG := List.mem_filter.mpr ⟨inT3 (List.mem_of_getElem? (i := 51) (by decide +kernel)), by rfl⟩
theorem m_108 : (.constantLong R_SD 55 (100000000000000000) : Cond) ∈ BIG := List.mem_filter.mpr ⟨inT3 (List.mem_of_getElem? (i := 53) (by decide +kernel)), by rfl⟩
theorem m_109 : (.constantLong R_SD 53 (10000000000000000) : Cond) ∈ BIG := List.mem_filter.mpr ⟨inT3 (List.mem_of_getElem? (i := 52) (by decide +kernel)), by rfl⟩
theorem m_110 : (.code y_SD_nearer b_SD_nearer 10 (some .long) : Cond) ∈ BIG := List.mem_filter.mpr ⟨inT3 (List.mem_of_getElem? (i := 56) rfl), by rfl⟩
theorem m_111 : (.methodLink R_SD 57 y_SD_nearer : Cond) ∈ BIG := List.mem_filter.mpr ⟨inT3 (List.mem_of_getElem? (i := 54) (by decide +kernel)), by rfl⟩
theorem m_112 : (.static y_SD_nearer : Cond) ∈ BIG := List.mem_filter.mpr ⟨inT3 (List.mem_of_getElem? (i := 55) (by decide +kernel)), by rfl⟩
theorem m_113 : (.initialized R_SD : Cond) ∈ BIG := List.mem_filter.mpr ⟨inT1 (List.mem_of_getElem? (i := 3) (by decide +kernel)), by rfl⟩
theorem m_114 : (.constantLong R_SD 60 (10) : Cond) ∈ BIG := List.mem_filter.mpr ⟨inT3 (List.mem_of_getElem? (i := 57) (by decide +kernel)), by rfl⟩
theorem m_115 : (.methodLink R_SD 62 Lib.MathLoose.max_long.x : Cond) ∈ BIG := List.mem_filter.mpr ⟨inT3 (List.mem_of_getElem? (i := 58) (by decide +kernel)), by rfl⟩
theorem m_116 : (.static Lib.MathLoose.max_long.x : Cond) ∈ BIG := List.mem_filter.mpr ⟨inT2 (List.mem_of_getElem? (i := 127) (by decide +kernel)), by rfl⟩
theorem m_117 : (.code Lib.MathLoose.max_long.x Lib.MathLoose.max_long.code 4 (some .long) : Cond) ∈ BIG := List.mem_filter.mpr ⟨inT2 (List.mem_of_getElem? (i := 128) rfl), by rfl⟩
theorem m_118 : (.constantLong R_BW 46 (5) : Cond) ∈ BIG := List.mem_filter.mpr ⟨inT3 (List.mem_of_getElem? (i := 30) (by decide +kernel)), by rfl⟩
theorem m_119 : (.constantLong R_BW 56 (4294967295) : Cond) ∈ BIG := List.mem_filter.mpr ⟨inT3 (List.mem_of_getElem? (i := 26) (by decide +kernel)), by rfl⟩
theorem m_120 : (.constantLong R_Lt 62 (10) : Cond) ∈ BIG := List.mem_filter.mpr ⟨inT2 (List.mem_of_getElem? (i := 171) (by decide +kernel)), by rfl⟩
theorem m_121 : (.constantLong R_Md 26 (9221120237041090560) : Cond) ∈ BIG := List.mem_filter.mpr ⟨inT4 (List.mem_of_getElem? (i := 9) (by decide +kernel)), by rfl⟩
theorem m_122 : (.constantLong R_Md 24 (2143289344) : Cond) ∈ BIG := List.mem_filter.mpr ⟨inT4 (List.mem_of_getElem? (i := 8) (by decide +kernel)), by rfl⟩
theorem m_123 : (.constantLong R_Md 40 (-9223372036854775808) : Cond) ∈ BIG := List.mem_filter.mpr ⟨inT4 (List.mem_of_getElem? (i := 19) (by decide +kernel)), by rfl⟩
theorem m_124 : (.constantLong R_Md 36 (2147483648) : Cond) ∈ BIG := List.mem_filter.mpr ⟨inT4 (List.mem_of_getElem? (i := 18) (by decide +kernel)), by rfl⟩
theorem m_125 : (.constantLong R_Md 30 (9218868437227405312) : Cond) ∈ BIG := List.mem_filter.mpr ⟨inT4 (List.mem_of_getElem? (i := 14) (by decide +kernel)), by rfl⟩
theorem m_126 : (.constantLong R_Md 28 (2139095040) : Cond) ∈ BIG := List.mem_filter.mpr ⟨inT4 (List.mem_of_getElem? (i := 13) (by decide +kernel)), by rfl⟩
theorem m_127 : (.code y_Md_sign b_Md_sign 2 (some .long) : Cond) ∈ BIG := List.mem_filter.mpr ⟨inT4 (List.mem_of_getElem? (i := 17) rfl), by rfl⟩
theorem m_128 : (.methodLink R_Md 32 y_Md_sign : Cond) ∈ BIG := List.mem_filter.mpr ⟨inT4 (List.mem_of_getElem? (i := 15) (by decide +kernel)), by rfl⟩
theorem m_129 : (.static y_Md_sign : Cond) ∈ BIG := List.mem_filter.mpr ⟨inT4 (List.mem_of_getElem? (i := 16) (by decide +kernel)), by rfl⟩
theorem m_130 : (.initialized R_Md : Cond) ∈ BIG := List.mem_filter.mpr ⟨inT1 (List.mem_of_getElem? (i := 5) (by decide +kernel)), by rfl⟩
theorem m_131 : (.code y_Md_length b_Md_length 5 (some .int) : Cond) ∈ BIG := List.mem_filter.mpr ⟨inT4 (List.mem_of_getElem? (i := 25) rfl), by rfl⟩
theorem m_132 : (.methodLink R_Md 76 y_Md_length : Cond) ∈ BIG := List.mem_filter.mpr ⟨inT4 (List.mem_of_getElem? (i := 23) (by decide +kernel)), by rfl⟩
theorem m_133 : (.static y_Md_length : Cond) ∈ BIG := List.mem_filter.mpr ⟨inT4 (List.mem_of_getElem? (i := 24) (by decide +kernel)), by rfl⟩
theorem m_134 : (.methodLink R_Md 80 Lib.Math.max.name : Cond) ∈ BIG := List.mem_filter.mpr ⟨inT4 (List.mem_of_getElem? (i := 26) (by decide +kernel)), by rfl⟩
theorem m_135 : (.code y_Md_far b_Md_far 2 (some .long) : Cond) ∈ BIG := List.mem_filter.mpr ⟨inT4 (List.mem_of_getElem? (i := 12) rfl), by rfl⟩
theorem m_136 : (.methodLink R_Md 86 y_Md_far : Cond) ∈ BIG := List.mem_filter.mpr ⟨inT4 (List.mem_of_getElem? (i := 10) (by decide +kernel)), by rfl⟩
theorem m_137 : (.static y_Md_far : Cond) ∈ BIG := List.mem_filter.mpr ⟨inT4 (List.mem_of_getElem? (i := 11) (by decide +kernel)), by rfl⟩
theorem m_138 : (.constantLong R_Md 117 (65535) : Cond) ∈ BIG := List.mem_filter.mpr ⟨inT4 (List.mem_of_getElem? (i := 44) (by decide +kernel)), by rfl⟩
theorem m_139 : (.constantLong R_Rs 84 (9218868437227405311) : Cond) ∈ BIG := List.mem_filter.mpr ⟨inT4 (List.mem_of_getElem? (i := 82) (by decide +kernel)), by rfl⟩
theorem m_140 : (.constantLong R_Rs 82 (2139095039) : Cond) ∈ BIG := List.mem_filter.mpr ⟨inT4 (List.mem_of_getElem? (i := 81) (by decide +kernel)), by rfl⟩
theorem m_141 : (.methodLink R_PB 84 y_Real_isNan : Cond) ∈ BIG := List.mem_filter.mpr ⟨inT1 (List.mem_of_getElem? (i := 215) (by decide +kernel)), by rfl⟩
theorem m_142 : (.methodLink R_PB 132 y_Real_nan : Cond) ∈ BIG := List.mem_filter.mpr ⟨inT1 (List.mem_of_getElem? (i := 224) (by decide +kernel)), by rfl⟩
theorem m_143 : (.code y_Real_sum b_Real_sum 5 (some .long) : Cond) ∈ BIG := List.mem_filter.mpr ⟨inT1 (List.mem_of_getElem? (i := 231) rfl), by rfl⟩
theorem m_144 : (.methodLink R_PB 136 y_Real_sum : Cond) ∈ BIG := List.mem_filter.mpr ⟨inT1 (List.mem_of_getElem? (i := 228) (by decide +kernel)), by rfl⟩
theorem m_145 : (.instanceMethod y_Real_sum : Cond) ∈ BIG := List.mem_filter.mpr ⟨inT1 (List.mem_of_getElem? (i := 229) (by decide +kernel)), by rfl⟩
theorem m_146 : (.selects R_Real y_Real_sum y_Real_sum : Cond) ∈ BIG := List.mem_filter.mpr ⟨inT1 (List.mem_of_getElem? (i := 230) (by decide +kernel)), by rfl⟩
theorem m_147 : (.code y_Real_negate b_Real_negate 3 (some .long) : Cond) ∈ BIG := List.mem_filter.mpr ⟨inT2 (List.mem_of_getElem? (i := 51) rfl), by rfl⟩
theorem m_148 : (.methodLink R_PB 59 y_Real_negate : Cond) ∈ BIG := List.mem_filter.mpr ⟨inT2 (List.mem_of_getElem? (i := 48) (by decide +kernel)), by rfl⟩
theorem m_149 : (.instanceMethod y_Real_negate : Cond) ∈ BIG := List.mem_filter.mpr ⟨inT2 (List.mem_of_getElem? (i := 49) (by decide +kernel)), by rfl⟩
theorem m_150 : (.selects R_Real y_Real_negate y_Real_negate : Cond) ∈ BIG := List.mem_filter.mpr ⟨inT2 (List.mem_of_getElem? (i := 50) (by decide +kernel)), by rfl⟩
theorem m_151 : (.code y_Real_product b_Real_product 12 (some .long) : Cond) ∈ BIG := List.mem_filter.mpr ⟨inT2 (List.mem_of_getElem? (i := 56) rfl), by rfl⟩
theorem m_152 : (.methodLink R_PB 140 y_Real_product : Cond) ∈ BIG := List.mem_filter.mpr ⟨inT2 (List.mem_of_getElem? (i := 53) (by decide +kernel)), by rfl⟩
theorem m_153 : (.instanceMethod y_Real_product : Cond) ∈ BIG := List.mem_filter.mpr ⟨inT2 (List.mem_of_getElem? (i := 54) (by decide +kernel)), by rfl⟩
theorem m_154 : (.selects R_Real y_Real_product y_Real_product : Cond) ∈ BIG := List.mem_filter.mpr ⟨inT2 (List.mem_of_getElem? (i := 55) (by decide +kernel)), by rfl⟩
theorem m_155 : (.code y_Real_quotient b_Real_quotient 7 (some .long) : Cond) ∈ BIG := List.mem_filter.mpr ⟨inT2 (List.mem_of_getElem? (i := 80) rfl), by rfl⟩
theorem m_156 : (.methodLink R_PB 143 y_Real_quotient : Cond) ∈ BIG := List.mem_filter.mpr ⟨inT2 (List.mem_of_getElem? (i := 77) (by decide +kernel)), by rfl⟩
theorem m_157 : (.instanceMethod y_Real_quotient : Cond) ∈ BIG := List.mem_filter.mpr ⟨inT2 (List.mem_of_getElem? (i := 78) (by decide +kernel)), by rfl⟩
theorem m_158 : (.selects R_Real y_Real_quotient y_Real_quotient : Cond) ∈ BIG := List.mem_filter.mpr ⟨inT2 (List.mem_of_getElem? (i := 79) (by decide +kernel)), by rfl⟩
theorem m_159 : (.code y_Real_remainder b_Real_remainder 10 (some .long) : Cond) ∈ BIG := List.mem_filter.mpr ⟨inT2 (List.mem_of_getElem? (i := 87) rfl), by rfl⟩
theorem m_160 : (.methodLink R_PB 146 y_Real_remainder : Cond) ∈ BIG := List.mem_filter.mpr ⟨inT2 (List.mem_of_getElem? (i := 84) (by decide +kernel)), by rfl⟩
theorem m_161 : (.instanceMethod y_Real_remainder : Cond) ∈ BIG := List.mem_filter.mpr ⟨inT2 (List.mem_of_getElem? (i := 85) (by decide +kernel)), by rfl⟩
theorem m_162 : (.selects R_Real y_Real_remainder y_Real_remainder : Cond) ∈ BIG := List.mem_filter.mpr ⟨inT2 (List.mem_of_getElem? (i := 86) (by decide +kernel)), by rfl⟩
theorem m_163 : (.code y_Real_toLong b_Real_toLong 6 (some .long) : Cond) ∈ BIG := List.mem_filter.mpr ⟨inT2 (List.mem_of_getElem? (i := 119) rfl), by rfl⟩
theorem m_164 : (.methodLink R_PB 149 y_Real_toLong : Cond) ∈ BIG := List.mem_filter.mpr ⟨inT2 (List.mem_of_getElem? (i := 116) (by decide +kernel)), by rfl⟩
theorem m_165 : (.instanceMethod y_Real_toLong : Cond) ∈ BIG := List.mem_filter.mpr ⟨inT2 (List.mem_of_getElem? (i := 117) (by decide +kernel)), by rfl⟩
theorem m_166 : (.selects R_Real y_Real_toLong y_Real_toLong : Cond) ∈ BIG := List.mem_filter.mpr ⟨inT2 (List.mem_of_getElem? (i := 118) (by decide +kernel)), by rfl⟩
theorem m_167 : (.constantLong R_PB 152 (-2147483648) : Cond) ∈ BIG := List.mem_filter.mpr ⟨inT2 (List.mem_of_getElem? (i := 121) (by decide +kernel)), by rfl⟩
theorem m_168 : (.constantLong R_PB 154 (2147483647) : Cond) ∈ BIG := List.mem_filter.mpr ⟨inT2 (List.mem_of_getElem? (i := 122) (by decide +kernel)), by rfl⟩
theorem m_169 : (.methodLink R_PB 156 Lib.MathLoose.min_long.x : Cond) ∈ BIG := List.mem_filter.mpr ⟨inT2 (List.mem_of_getElem? (i := 123) (by decide +kernel)), by rfl⟩
theorem m_170 : (.static Lib.MathLoose.min_long.x : Cond) ∈ BIG := List.mem_filter.mpr ⟨inT2 (List.mem_of_getElem? (i := 124) (by decide +kernel)), by rfl⟩
theorem m_171 : (.code Lib.MathLoose.min_long.x Lib.MathLoose.min_long.code 4 (some .long) : Cond) ∈ BIG := List.mem_filter.mpr ⟨inT2 (List.mem_of_getElem? (i := 125) rfl), by rfl⟩
theorem m_172 : (.methodLink R_PB 161 Lib.MathLoose.max_long.x : Cond) ∈ BIG := List.mem_filter.mpr ⟨inT2 (List.mem_of_getElem? (i := 126) (by decide +kernel)), by rfl⟩
theorem m_173 : (.code y_PB_wholeOf b_PB_wholeOf 3 (some .long) : Cond) ∈ BIG := List.mem_filter.mpr ⟨inT1 (List.mem_of_getElem? (i := 179) rfl), by rfl⟩
theorem m_174 : (.methodLink R_PB 41 y_PB_wholeOf : Cond) ∈ BIG := List.mem_filter.mpr ⟨inT1 (List.mem_of_getElem? (i := 177) (by decide +kernel)), by rfl⟩
theorem m_175 : (.static y_PB_wholeOf : Cond) ∈ BIG := List.mem_filter.mpr ⟨inT1 (List.mem_of_getElem? (i := 178) (by decide +kernel)), by rfl⟩
theorem m_176 : (.fieldLink R_Lt 13 R_Lt "length" "I" : Cond) ∈ BIG := List.mem_filter.mpr ⟨inT1 (List.mem_of_getElem? (i := 34) (by decide +kernel)), by rfl⟩
theorem m_177 : (.fieldLink R_Lt 17 R_Lt "taken" "I" : Cond) ∈ BIG := List.mem_filter.mpr ⟨inT1 (List.mem_of_getElem? (i := 35) (by decide +kernel)), by rfl⟩
theorem m_178 : (.fieldLink R_Lt 9 R_Lt "row" "[C" : Cond) ∈ BIG := List.mem_filter.mpr ⟨inT1 (List.mem_of_getElem? (i := 33) (by decide +kernel)), by rfl⟩
theorem m_179 : (.constantLong R_Lt 60 (48) : Cond) ∈ BIG := List.mem_filter.mpr ⟨inT2 (List.mem_of_getElem? (i := 176) (by decide +kernel)), by rfl⟩
theorem m_180 : (.code y_Lt_digitCount b_Lt_digitCount 5 (some .int) : Cond) ∈ BIG := List.mem_filter.mpr ⟨inT2 (List.mem_of_getElem? (i := 170) rfl), by rfl⟩
theorem m_181 : (.methodLink R_Lt 33 y_Lt_digitCount : Cond) ∈ BIG := List.mem_filter.mpr ⟨inT2 (List.mem_of_getElem? (i := 168) (by decide +kernel)), by rfl⟩
theorem m_182 : (.static y_Lt_digitCount : Cond) ∈ BIG := List.mem_filter.mpr ⟨inT2 (List.mem_of_getElem? (i := 169) (by decide +kernel)), by rfl⟩
theorem m_183 : (.initialized R_Lt : Cond) ∈ BIG := List.mem_filter.mpr ⟨inT1 (List.mem_of_getElem? (i := 2) (by decide +kernel)), by rfl⟩
theorem m_184 : (.code y_Lt_putDigits b_Lt_putDigits 7 none : Cond) ∈ BIG := List.mem_filter.mpr ⟨inT2 (List.mem_of_getElem? (i := 175) rfl), by rfl⟩
theorem m_185 : (.methodLink R_Lt 37 y_Lt_putDigits : Cond) ∈ BIG := List.mem_filter.mpr ⟨inT2 (List.mem_of_getElem? (i := 172) (by decide +kernel)), by rfl⟩
theorem m_186 : (.instanceMethod y_Lt_putDigits : Cond) ∈ BIG := List.mem_filter.mpr ⟨inT2 (List.mem_of_getElem? (i := 174) (by decide +kernel)), by rfl⟩
theorem m_187 : (.selects R_Lt y_Lt_putDigits y_Lt_putDigits : Cond) ∈ BIG := List.mem_filter.mpr ⟨inT0 (List.mem_of_getElem? (i := 11) (by decide +kernel)), by rfl⟩
theorem m_188 : (.code y_Lt_put_i b_Lt_put_i 2 none : Cond) ∈ BIG := List.mem_filter.mpr ⟨inT2 (List.mem_of_getElem? (i := 167) rfl), by rfl⟩
theorem m_189 : (.methodLink R_Lt 29 y_Lt_put_i : Cond) ∈ BIG := List.mem_filter.mpr ⟨inT2 (List.mem_of_getElem? (i := 164) (by decide +kernel)), by rfl⟩
theorem m_190 : (.instanceMethod y_Lt_put_i : Cond) ∈ BIG := List.mem_filter.mpr ⟨inT2 (List.mem_of_getElem? (i := 165) (by decide +kernel)), by rfl⟩
theorem m_191 : (.selects R_Lt y_Lt_put_i y_Lt_put_i : Cond) ∈ BIG := List.mem_filter.mpr ⟨inT2 (List.mem_of_getElem? (i := 166) (by decide +kernel)), by rfl⟩
theorem m_192 : (.code y_Lt_powerOfTen b_Lt_powerOfTen 4 (some .long) : Cond) ∈ BIG := List.mem_filter.mpr ⟨inT3 (List.mem_of_getElem? (i := 81) rfl), by rfl⟩
theorem m_193 : (.methodLink R_Lt 49 y_Lt_powerOfTen : Cond) ∈ BIG := List.mem_filter.mpr ⟨inT3 (List.mem_of_getElem? (i := 79) (by decide +kernel)), by rfl⟩
theorem m_194 : (.static y_Lt_powerOfTen : Cond) ∈ BIG := List.mem_filter.mpr ⟨inT3 (List.mem_of_getElem? (i := 80) (by decide +kernel)), by rfl⟩
theorem m_195 : (.code y_Lt_putWhole b_Lt_putWhole 3 none : Cond) ∈ BIG := List.mem_filter.mpr ⟨inT2 (List.mem_of_getElem? (i := 163) rfl), by rfl⟩
theorem m_196 : (.methodLink R_Lt 45 y_Lt_putWhole : Cond) ∈ BIG := List.mem_filter.mpr ⟨inT3 (List.mem_of_getElem? (i := 82) (by decide +kernel)), by rfl⟩
theorem m_197 : (.instanceMethod y_Lt_putWhole : Cond) ∈ BIG := List.mem_filter.mpr ⟨inT2 (List.mem_of_getElem? (i := 161) (by decide +kernel)), by rfl⟩
theorem m_198 : (.selects R_Lt y_Lt_putWhole y_Lt_putWhole : Cond) ∈ BIG := List.mem_filter.mpr ⟨inT2 (List.mem_of_getElem? (i := 162) (by decide +kernel)), by rfl⟩
theorem m_199 : (.methodLink R_BW 29 Lib.Math.min.name : Cond) ∈ BIG := List.mem_filter.mpr ⟨inT3 (List.mem_of_getElem? (i := 22) (by decide +kernel)), by rfl⟩
theorem m_200 : (.fieldLink R_BW 48 R_BW "used" "I" : Cond) ∈ BIG := List.mem_filter.mpr ⟨inT1 (List.mem_of_getElem? (i := 57) (by decide +kernel)), by rfl⟩
theorem m_201 : (.fieldLink R_BW 11 R_BW "limbs" "[J" : Cond) ∈ BIG := List.mem_filter.mpr ⟨inT1 (List.mem_of_getElem? (i := 56) (by decide +kernel)), by rfl⟩
theorem m_202 : (.code y_BW_slice b_BW_slice 3 (some .long) : Cond) ∈ BIG := List.mem_filter.mpr ⟨inT3 (List.mem_of_getElem? (i := 25) rfl), by rfl⟩
theorem m_203 : (.methodLink R_BW 52 y_BW_slice : Cond) ∈ BIG := List.mem_filter.mpr ⟨inT3 (List.mem_of_getElem? (i := 23) (by decide +kernel)), by rfl⟩
theorem m_204 : (.static y_BW_slice : Cond) ∈ BIG := List.mem_filter.mpr ⟨inT3 (List.mem_of_getElem? (i := 24) (by decide +kernel)), by rfl⟩
theorem m_205 : (.initialized R_BW : Cond) ∈ BIG := List.mem_filter.mpr ⟨inT1 (List.mem_of_getElem? (i := 4) (by decide +kernel)), by rfl⟩
theorem m_206 : (.fieldLink R_BW 15 R_BW "lost" "Z" : Cond) ∈ BIG := List.mem_filter.mpr ⟨inT1 (List.mem_of_getElem? (i := 58) (by decide +kernel)), by rfl⟩
theorem m_207 : (.methodLink R_BW 19 Lib.Math.max.name : Cond) ∈ BIG := List.mem_filter.mpr ⟨inT3 (List.mem_of_getElem? (i := 17) (by decide +kernel)), by rfl⟩
theorem m_208 : (.code y_BW_place b_BW_place 5 none : Cond) ∈ BIG := List.mem_filter.mpr ⟨inT3 (List.mem_of_getElem? (i := 21) rfl), by rfl⟩
theorem m_209 : (.methodLink R_BW 25 y_BW_place : Cond) ∈ BIG := List.mem_filter.mpr ⟨inT3 (List.mem_of_getElem? (i := 18) (by decide +kernel)), by rfl⟩
theorem m_210 : (.instanceMethod y_BW_place : Cond) ∈ BIG := List.mem_filter.mpr ⟨inT3 (List.mem_of_getElem? (i := 20) (by decide +kernel)), by rfl⟩
theorem m_211 : (.selects R_BW y_BW_place y_BW_place : Cond) ∈ BIG := List.mem_filter.mpr ⟨inT0 (List.mem_of_getElem? (i := 13) (by decide +kernel)), by rfl⟩
theorem m_212 : (.code y_BW_bitsFrom b_BW_bitsFrom 6 (some .long) : Cond) ∈ BIG := List.mem_filter.mpr ⟨inT3 (List.mem_of_getElem? (i := 42) rfl), by rfl⟩
theorem m_213 : (.methodLink R_BW 43 y_BW_bitsFrom : Cond) ∈ BIG := List.mem_filter.mpr ⟨inT3 (List.mem_of_getElem? (i := 39) (by decide +kernel)), by rfl⟩
theorem m_214 : (.instanceMethod y_BW_bitsFrom : Cond) ∈ BIG := List.mem_filter.mpr ⟨inT3 (List.mem_of_getElem? (i := 41) (by decide +kernel)), by rfl⟩
theorem m_215 : (.selects R_BW y_BW_bitsFrom y_BW_bitsFrom : Cond) ∈ BIG := List.mem_filter.mpr ⟨inT0 (List.mem_of_getElem? (i := 16) (by decide +kernel)), by rfl⟩
theorem m_216 : (.code y_BW_powerOfFive b_BW_powerOfFive 4 (some .long) : Cond) ∈ BIG := List.mem_filter.mpr ⟨inT3 (List.mem_of_getElem? (i := 29) rfl), by rfl⟩
theorem m_217 : (.methodLink R_BW 32 y_BW_powerOfFive : Cond) ∈ BIG := List.mem_filter.mpr ⟨inT3 (List.mem_of_getElem? (i := 27) (by decide +kernel)), by rfl⟩
theorem m_218 : (.static y_BW_powerOfFive : Cond) ∈ BIG := List.mem_filter.mpr ⟨inT3 (List.mem_of_getElem? (i := 28) (by decide +kernel)), by rfl⟩
theorem m_219 : (.code y_BW_divide b_BW_divide 8 none : Cond) ∈ BIG := List.mem_filter.mpr ⟨inT3 (List.mem_of_getElem? (i := 38) rfl), by rfl⟩
theorem m_220 : (.methodLink R_BW 40 y_BW_divide : Cond) ∈ BIG := List.mem_filter.mpr ⟨inT3 (List.mem_of_getElem? (i := 35) (by decide +kernel)), by rfl⟩
theorem m_221 : (.instanceMethod y_BW_divide : Cond) ∈ BIG := List.mem_filter.mpr ⟨inT3 (List.mem_of_getElem? (i := 37) (by decide +kernel)), by rfl⟩
theorem m_222 : (.selects R_BW y_BW_divide y_BW_divide : Cond) ∈ BIG := List.mem_filter.mpr ⟨inT0 (List.mem_of_getElem? (i := 15) (by decide +kernel)), by rfl⟩
theorem m_223 : (.code y_BW_multiply b_BW_multiply 8 none : Cond) ∈ BIG := List.mem_filter.mpr ⟨inT3 (List.mem_of_getElem? (i := 34) rfl), by rfl⟩
theorem m_224 : (.methodLink R_BW 36 y_BW_multiply : Cond) ∈ BIG := List.mem_filter.mpr ⟨inT3 (List.mem_of_getElem? (i := 31) (by decide +kernel)), by rfl⟩
theorem m_225 : (.instanceMethod y_BW_multiply : Cond) ∈ BIG := List.mem_filter.mpr ⟨inT3 (List.mem_of_getElem? (i := 33) (by decide +kernel)), by rfl⟩
theorem m_226 : (.selects R_BW y_BW_multiply y_BW_multiply : Cond) ∈ BIG := List.mem_filter.mpr ⟨inT0 (List.mem_of_getElem? (i := 14) (by decide +kernel)), by rfl⟩
theorem m_227 : (.fieldLink R_SD 16 R_SD "digits" "J" : Cond) ∈ BIG := List.mem_filter.mpr ⟨inT1 (List.mem_of_getElem? (i := 68) (by decide +kernel)), by rfl⟩
theorem m_228 : (.fieldLink R_SD 20 R_SD "power" "I" : Cond) ∈ BIG := List.mem_filter.mpr ⟨inT1 (List.mem_of_getElem? (i := 69) (by decide +kernel)), by rfl⟩
theorem m_229 : (.constantLong R_SD 30 (661971961083) : Cond) ∈ BIG := List.mem_filter.mpr ⟨inT3 (List.mem_of_getElem? (i := 11) (by decide +kernel)), by rfl⟩
theorem m_230 : (.constantLong R_SD 32 (4) : Cond) ∈ BIG := List.mem_filter.mpr ⟨inT3 (List.mem_of_getElem? (i := 12) (by decide +kernel)), by rfl⟩
theorem m_231 : (.fieldLink R_SD 10 R_SD "big" "LPrimitiveBits$BigWhole;" : Cond) ∈ BIG := List.mem_filter.mpr ⟨inT1 (List.mem_of_getElem? (i := 67) (by decide +kernel)), by rfl⟩
theorem m_232 : (.code y_BW_floor b_BW_floor 7 (some .long) : Cond) ∈ BIG := List.mem_filter.mpr ⟨inT3 (List.mem_of_getElem? (i := 16) rfl), by rfl⟩
theorem m_233 : (.methodLink R_SD 34 y_BW_floor : Cond) ∈ BIG := List.mem_filter.mpr ⟨inT3 (List.mem_of_getElem? (i := 13) (by decide +kernel)), by rfl⟩
theorem m_234 : (.instanceMethod y_BW_floor : Cond) ∈ BIG := List.mem_filter.mpr ⟨inT3 (List.mem_of_getElem? (i := 14) (by decide +kernel)), by rfl⟩
theorem m_235 : (.selects R_BW y_BW_floor y_BW_floor : Cond) ∈ BIG := List.mem_filter.mpr ⟨inT3 (List.mem_of_getElem? (i := 15) (by decide +kernel)), by rfl⟩
theorem m_236 : (.code y_BW_isExact b_BW_isExact 1 (some .boolean) : Cond) ∈ BIG := List.mem_filter.mpr ⟨inT3 (List.mem_of_getElem? (i := 46) rfl), by rfl⟩
theorem m_237 : (.methodLink R_SD 38 y_BW_isExact : Cond) ∈ BIG := List.mem_filter.mpr ⟨inT3 (List.mem_of_getElem? (i := 43) (by decide +kernel)), by rfl⟩
theorem m_238 : (.instanceMethod y_BW_isExact : Cond) ∈ BIG := List.mem_filter.mpr ⟨inT3 (List.mem_of_getElem? (i := 44) (by decide +kernel)), by rfl⟩
theorem m_239 : (.selects R_BW y_BW_isExact y_BW_isExact : Cond) ∈ BIG := List.mem_filter.mpr ⟨inT3 (List.mem_of_getElem? (i := 45) (by decide +kernel)), by rfl⟩
theorem m_240 : (.code y_SD_fewestDigits b_SD_fewestDigits 14 (some .long) : Cond) ∈ BIG := List.mem_filter.mpr ⟨inT3 (List.mem_of_getElem? (i := 50) rfl), by rfl⟩
theorem m_241 : (.methodLink R_SD 44 y_SD_fewestDigits : Cond) ∈ BIG := List.mem_filter.mpr ⟨inT3 (List.mem_of_getElem? (i := 48) (by decide +kernel)), by rfl⟩
theorem m_242 : (.static y_SD_fewestDigits : Cond) ∈ BIG := List.mem_filter.mpr ⟨inT3 (List.mem_of_getElem? (i := 49) (by decide +kernel)), by rfl⟩
theorem m_243 : (.code y_SD_dropZeros b_SD_dropZeros 2 none : Cond) ∈ BIG := List.mem_filter.mpr ⟨inT3 (List.mem_of_getElem? (i := 62) rfl), by rfl⟩
theorem m_244 : (.methodLink R_SD 48 y_SD_dropZeros : Cond) ∈ BIG := List.mem_filter.mpr ⟨inT3 (List.mem_of_getElem? (i := 59) (by decide +kernel)), by rfl⟩
theorem m_245 : (.instanceMethod y_SD_dropZeros : Cond) ∈ BIG := List.mem_filter.mpr ⟨inT3 (List.mem_of_getElem? (i := 61) (by decide +kernel)), by rfl⟩
theorem m_246 : (.selects R_SD y_SD_dropZeros y_SD_dropZeros : Cond) ∈ BIG := List.mem_filter.mpr ⟨inT0 (List.mem_of_getElem? (i := 17) (by decide +kernel)), by rfl⟩
theorem m_247 : (.fieldLink R_Md 20 R_Md "thrown" "I" : Cond) ∈ BIG := List.mem_filter.mpr ⟨inT3 (List.mem_of_getElem? (i := 178) (by decide +kernel)), by rfl⟩
theorem m_248 : (.constantLong R_Md 42 (4294967295) : Cond) ∈ BIG := List.mem_filter.mpr ⟨inT4 (List.mem_of_getElem? (i := 0) (by decide +kernel)), by rfl⟩
theorem m_249 : (.fieldLink R_Md 61 R_Md "m2" "J" : Cond) ∈ BIG := List.mem_filter.mpr ⟨inT3 (List.mem_of_getElem? (i := 180) (by decide +kernel)), by rfl⟩
theorem m_250 : (.fieldLink R_Md 64 R_Md "e2" "I" : Cond) ∈ BIG := List.mem_filter.mpr ⟨inT3 (List.mem_of_getElem? (i := 182) (by decide +kernel)), by rfl⟩
theorem m_251 : (.fieldLink R_Md 67 R_Md "minus2" "Z" : Cond) ∈ BIG := List.mem_filter.mpr ⟨inT3 (List.mem_of_getElem? (i := 184) (by decide +kernel)), by rfl⟩
theorem m_252 : (.fieldLink R_Md 70 R_Md "nan2" "Z" : Cond) ∈ BIG := List.mem_filter.mpr ⟨inT3 (List.mem_of_getElem? (i := 186) (by decide +kernel)), by rfl⟩
theorem m_253 : (.fieldLink R_Md 73 R_Md "far2" "Z" : Cond) ∈ BIG := List.mem_filter.mpr ⟨inT3 (List.mem_of_getElem? (i := 188) (by decide +kernel)), by rfl⟩
theorem m_254 : (.fieldLink R_Md 44 R_Md "m1" "J" : Cond) ∈ BIG := List.mem_filter.mpr ⟨inT3 (List.mem_of_getElem? (i := 179) (by decide +kernel)), by rfl⟩
theorem m_255 : (.fieldLink R_Md 48 R_Md "e1" "I" : Cond) ∈ BIG := List.mem_filter.mpr ⟨inT3 (List.mem_of_getElem? (i := 181) (by decide +kernel)), by rfl⟩
theorem m_256 : (.fieldLink R_Md 51 R_Md "minus1" "Z" : Cond) ∈ BIG := List.mem_filter.mpr ⟨inT3 (List.mem_of_getElem? (i := 183) (by decide +kernel)), by rfl⟩
theorem m_257 : (.fieldLink R_Md 55 R_Md "nan1" "Z" : Cond) ∈ BIG := List.mem_filter.mpr ⟨inT3 (List.mem_of_getElem? (i := 185) (by decide +kernel)), by rfl⟩
theorem m_258 : (.fieldLink R_Md 58 R_Md "far1" "Z" : Cond) ∈ BIG := List.mem_filter.mpr ⟨inT3 (List.mem_of_getElem? (i := 187) (by decide +kernel)), by rfl⟩
theorem m_259 : (.code y_Md_nan b_Md_nan 1 (some .long) : Cond) ∈ BIG := List.mem_filter.mpr ⟨inT4 (List.mem_of_getElem? (i := 7) rfl), by rfl⟩
theorem m_260 : (.methodLink R_Md 89 y_Md_nan : Cond) ∈ BIG := List.mem_filter.mpr ⟨inT4 (List.mem_of_getElem? (i := 5) (by decide +kernel)), by rfl⟩
theorem m_261 : (.static y_Md_nan : Cond) ∈ BIG := List.mem_filter.mpr ⟨inT4 (List.mem_of_getElem? (i := 6) (by decide +kernel)), by rfl⟩
theorem m_262 : (.code y_Md_round b_Md_round 16 (some .long) : Cond) ∈ BIG := List.mem_filter.mpr ⟨inT4 (List.mem_of_getElem? (i := 22) rfl), by rfl⟩
theorem m_263 : (.methodLink R_Md 93 y_Md_round : Cond) ∈ BIG := List.mem_filter.mpr ⟨inT4 (List.mem_of_getElem? (i := 20) (by decide +kernel)), by rfl⟩
theorem m_264 : (.static y_Md_round : Cond) ∈ BIG := List.mem_filter.mpr ⟨inT4 (List.mem_of_getElem? (i := 21) (by decide +kernel)), by rfl⟩
theorem m_265 : (.constantLong R_Md 97 (134217727) : Cond) ∈ BIG := List.mem_filter.mpr ⟨inT4 (List.mem_of_getElem? (i := 31) (by decide +kernel)), by rfl⟩
theorem m_266 : (.constantLong R_Md 99 (2) : Cond) ∈ BIG := List.mem_filter.mpr ⟨inT4 (List.mem_of_getElem? (i := 40) (by decide +kernel)), by rfl⟩
theorem m_267 : (.code y_Md_apart b_Md_apart 16 none : Cond) ∈ BIG := List.mem_filter.mpr ⟨inT3 (List.mem_of_getElem? (i := 239) rfl), by rfl⟩
theorem m_268 : (.methodLink R_Md 101 y_Md_apart : Cond) ∈ BIG := List.mem_filter.mpr ⟨inT3 (List.mem_of_getElem? (i := 236) (by decide +kernel)), by rfl⟩
theorem m_269 : (.instanceMethod y_Md_apart : Cond) ∈ BIG := List.mem_filter.mpr ⟨inT3 (List.mem_of_getElem? (i := 238) (by decide +kernel)), by rfl⟩
theorem m_270 : (.selects R_Md y_Md_apart y_Md_apart : Cond) ∈ BIG := List.mem_filter.mpr ⟨inT0 (List.mem_of_getElem? (i := 21) (by decide +kernel)), by rfl⟩
theorem m_271 : (.code y_Md_add b_Md_add 18 (some .long) : Cond) ∈ BIG := List.mem_filter.mpr ⟨inT4 (List.mem_of_getElem? (i := 4) rfl), by rfl⟩
theorem m_272 : (.methodLink R_Md 105 y_Md_add : Cond) ∈ BIG := List.mem_filter.mpr ⟨inT4 (List.mem_of_getElem? (i := 1) (by decide +kernel)), by rfl⟩
theorem m_273 : (.instanceMethod y_Md_add : Cond) ∈ BIG := List.mem_filter.mpr ⟨inT4 (List.mem_of_getElem? (i := 3) (by decide +kernel)), by rfl⟩
theorem m_274 : (.selects R_Md y_Md_add y_Md_add : Cond) ∈ BIG := List.mem_filter.mpr ⟨inT0 (List.mem_of_getElem? (i := 22) (by decide +kernel)), by rfl⟩
theorem m_275 : (.code y_Md_times b_Md_times 22 (some .long) : Cond) ∈ BIG := List.mem_filter.mpr ⟨inT4 (List.mem_of_getElem? (i := 30) rfl), by rfl⟩
theorem m_276 : (.methodLink R_Md 108 y_Md_times : Cond) ∈ BIG := List.mem_filter.mpr ⟨inT4 (List.mem_of_getElem? (i := 27) (by decide +kernel)), by rfl⟩
theorem m_277 : (.instanceMethod y_Md_times : Cond) ∈ BIG := List.mem_filter.mpr ⟨inT4 (List.mem_of_getElem? (i := 29) (by decide +kernel)), by rfl⟩
theorem m_278 : (.selects R_Md y_Md_times y_Md_times : Cond) ∈ BIG := List.mem_filter.mpr ⟨inT0 (List.mem_of_getElem? (i := 23) (by decide +kernel)), by rfl⟩
theorem m_279 : (.code y_Md_over b_Md_over 12 (some .long) : Cond) ∈ BIG := List.mem_filter.mpr ⟨inT4 (List.mem_of_getElem? (i := 35) rfl), by rfl⟩
theorem m_280 : (.methodLink R_Md 111 y_Md_over : Cond) ∈ BIG := List.mem_filter.mpr ⟨inT4 (List.mem_of_getElem? (i := 32) (by decide +kernel)), by rfl⟩
theorem m_281 : (.instanceMethod y_Md_over : Cond) ∈ BIG := List.mem_filter.mpr ⟨inT4 (List.mem_of_getElem? (i := 34) (by decide +kernel)), by rfl⟩
theorem m_282 : (.selects R_Md y_Md_over y_Md_over : Cond) ∈ BIG := List.mem_filter.mpr ⟨inT0 (List.mem_of_getElem? (i := 24) (by decide +kernel)), by rfl⟩
theorem m_283 : (.code y_Md_rest b_Md_rest 7 (some .long) : Cond) ∈ BIG := List.mem_filter.mpr ⟨inT4 (List.mem_of_getElem? (i := 39) rfl), by rfl⟩
theorem m_284 : (.methodLink R_Md 114 y_Md_rest : Cond) ∈ BIG := List.mem_filter.mpr ⟨inT4 (List.mem_of_getElem? (i := 36) (by decide +kernel)), by rfl⟩
theorem m_285 : (.instanceMethod y_Md_rest : Cond) ∈ BIG := List.mem_filter.mpr ⟨inT4 (List.mem_of_getElem? (i := 38) (by decide +kernel)), by rfl⟩
theorem m_286 : (.selects R_Md y_Md_rest y_Md_rest : Cond) ∈ BIG := List.mem_filter.mpr ⟨inT0 (List.mem_of_getElem? (i := 25) (by decide +kernel)), by rfl⟩
theorem m_287 : (.code y_Md_cut b_Md_cut 3 (some .long) : Cond) ∈ BIG := List.mem_filter.mpr ⟨inT4 (List.mem_of_getElem? (i := 43) rfl), by rfl⟩
theorem m_288 : (.methodLink R_Md 119 y_Md_cut : Cond) ∈ BIG := List.mem_filter.mpr ⟨inT4 (List.mem_of_getElem? (i := 41) (by decide +kernel)), by rfl⟩
theorem m_289 : (.static y_Md_cut : Cond) ∈ BIG := List.mem_filter.mpr ⟨inT4 (List.mem_of_getElem? (i := 42) (by decide +kernel)), by rfl⟩
theorem m_290 : (.code y_Md_fails b_Md_fails 2 (some .long) : Cond) ∈ BIG := List.mem_filter.mpr ⟨inT3 (List.mem_of_getElem? (i := 231) rfl), by rfl⟩
theorem m_291 : (.methodLink R_Md 123 y_Md_fails : Cond) ∈ BIG := List.mem_filter.mpr ⟨inT3 (List.mem_of_getElem? (i := 228) (by decide +kernel)), by rfl⟩
theorem m_292 : (.instanceMethod y_Md_fails : Cond) ∈ BIG := List.mem_filter.mpr ⟨inT3 (List.mem_of_getElem? (i := 230) (by decide +kernel)), by rfl⟩
theorem m_293 : (.selects R_Md y_Md_fails y_Md_fails : Cond) ∈ BIG := List.mem_filter.mpr ⟨inT0 (List.mem_of_getElem? (i := 19) (by decide +kernel)), by rfl⟩
theorem m_294 : (.code y_Md_whole b_Md_whole 9 (some .long) : Cond) ∈ BIG := List.mem_filter.mpr ⟨inT4 (List.mem_of_getElem? (i := 48) rfl), by rfl⟩
theorem m_295 : (.methodLink R_Md 131 y_Md_whole : Cond) ∈ BIG := List.mem_filter.mpr ⟨inT4 (List.mem_of_getElem? (i := 45) (by decide +kernel)), by rfl⟩
theorem m_296 : (.instanceMethod y_Md_whole : Cond) ∈ BIG := List.mem_filter.mpr ⟨inT4 (List.mem_of_getElem? (i := 47) (by decide +kernel)), by rfl⟩
theorem m_297 : (.selects R_Md y_Md_whole y_Md_whole : Cond) ∈ BIG := List.mem_filter.mpr ⟨inT0 (List.mem_of_getElem? (i := 26) (by decide +kernel)), by rfl⟩
theorem m_298 : (.code y_Md_broken b_Md_broken 7 (some .long) : Cond) ∈ BIG := List.mem_filter.mpr ⟨inT3 (List.mem_of_getElem? (i := 235) rfl), by rfl⟩
theorem m_299 : (.methodLink R_Md 127 y_Md_broken : Cond) ∈ BIG := List.mem_filter.mpr ⟨inT3 (List.mem_of_getElem? (i := 232) (by decide +kernel)), by rfl⟩
theorem m_300 : (.instanceMethod y_Md_broken : Cond) ∈ BIG := List.mem_filter.mpr ⟨inT3 (List.mem_of_getElem? (i := 234) (by decide +kernel)), by rfl⟩
theorem m_301 : (.selects R_Md y_Md_broken y_Md_broken : Cond) ∈ BIG := List.mem_filter.mpr ⟨inT0 (List.mem_of_getElem? (i := 20) (by decide +kernel)), by rfl⟩
theorem m_302 : (.constantLong R_Md 139 (2147483647) : Cond) ∈ BIG := List.mem_filter.mpr ⟨inT4 (List.mem_of_getElem? (i := 63) (by decide +kernel)), by rfl⟩
theorem m_303 : (.constantLong R_Md 135 (9223372036854775807) : Cond) ∈ BIG := List.mem_filter.mpr ⟨inT4 (List.mem_of_getElem? (i := 62) (by decide +kernel)), by rfl⟩
theorem m_304 : (.code y_Md_towards b_Md_towards 7 (some .long) : Cond) ∈ BIG := List.mem_filter.mpr ⟨inT4 (List.mem_of_getElem? (i := 61) rfl), by rfl⟩
theorem m_305 : (.methodLink R_Md 143 y_Md_towards : Cond) ∈ BIG := List.mem_filter.mpr ⟨inT4 (List.mem_of_getElem? (i := 58) (by decide +kernel)), by rfl⟩
theorem m_306 : (.instanceMethod y_Md_towards : Cond) ∈ BIG := List.mem_filter.mpr ⟨inT4 (List.mem_of_getElem? (i := 60) (by decide +kernel)), by rfl⟩
theorem m_307 : (.selects R_Md y_Md_towards y_Md_towards : Cond) ∈ BIG := List.mem_filter.mpr ⟨inT0 (List.mem_of_getElem? (i := 27) (by decide +kernel)), by rfl⟩
theorem m_308 : (.constantLong R_Md 141 (4611686018427387904) : Cond) ∈ BIG := List.mem_filter.mpr ⟨inT4 (List.mem_of_getElem? (i := 57) (by decide +kernel)), by rfl⟩
theorem m_309 : (.fieldLink R_Md 16 R_Md "letters" "[I" : Cond) ∈ BIG := List.mem_filter.mpr ⟨inT3 (List.mem_of_getElem? (i := 175) (by decide +kernel)), by rfl⟩
theorem m_310 : (.fieldLink R_Md 146 R_Md "laid" "I" : Cond) ∈ BIG := List.mem_filter.mpr ⟨inT3 (List.mem_of_getElem? (i := 176) (by decide +kernel)), by rfl⟩
theorem m_311 : (.fieldLink R_Rs 13 R_Rs "written" "[I" : Cond) ∈ BIG := List.mem_filter.mpr ⟨inT3 (List.mem_of_getElem? (i := 103) (by decide +kernel)), by rfl⟩
theorem m_312 : (.fieldLink R_Rs 168 R_Rs "laid" "I" : Cond) ∈ BIG := List.mem_filter.mpr ⟨inT3 (List.mem_of_getElem? (i := 104) (by decide +kernel)), by rfl⟩
theorem m_313 : (.constantLong R_Rs 212 (255) : Cond) ∈ BIG := List.mem_filter.mpr ⟨inT4 (List.mem_of_getElem? (i := 88) (by decide +kernel)), by rfl⟩
theorem m_314 : (.code y_Rs_lay b_Rs_lay 2 none : Cond) ∈ BIG := List.mem_filter.mpr ⟨inT4 (List.mem_of_getElem? (i := 92) rfl), by rfl⟩
theorem m_315 : (.methodLink R_Rs 197 y_Rs_lay : Cond) ∈ BIG := List.mem_filter.mpr ⟨inT4 (List.mem_of_getElem? (i := 89) (by decide +kernel)), by rfl⟩
theorem m_316 : (.instanceMethod y_Rs_lay : Cond) ∈ BIG := List.mem_filter.mpr ⟨inT4 (List.mem_of_getElem? (i := 91) (by decide +kernel)), by rfl⟩
theorem m_317 : (.selects R_Rs y_Rs_lay y_Rs_lay : Cond) ∈ BIG := List.mem_filter.mpr ⟨inT0 (List.mem_of_getElem? (i := 29) (by decide +kernel)), by rfl⟩
theorem m_318 : (.initialized R_Rs : Cond) ∈ BIG := List.mem_filter.mpr ⟨inT1 (List.mem_of_getElem? (i := 6) (by decide +kernel)), by rfl⟩
theorem m_319 : (.code y_Rs_trimmed b_Rs_trimmed 3 (some .int) : Cond) ∈ BIG := List.mem_filter.mpr ⟨inT4 (List.mem_of_getElem? (i := 124) rfl), by rfl⟩
theorem m_320 : (.methodLink R_Rs 51 y_Rs_trimmed : Cond) ∈ BIG := List.mem_filter.mpr ⟨inT4 (List.mem_of_getElem? (i := 122) (by decide +kernel)), by rfl⟩
theorem m_321 : (.static y_Rs_trimmed : Cond) ∈ BIG := List.mem_filter.mpr ⟨inT4 (List.mem_of_getElem? (i := 123) (by decide +kernel)), by rfl⟩
theorem m_322 : (.constantLong R_Rs 49 (65535) : Cond) ∈ BIG := List.mem_filter.mpr ⟨inT4 (List.mem_of_getElem? (i := 121) (by decide +kernel)), by rfl⟩
theorem m_323 : (.code y_Rs_grow b_Rs_grow 9 (some .int) : Cond) ∈ BIG := List.mem_filter.mpr ⟨inT4 (List.mem_of_getElem? (i := 130) rfl), by rfl⟩
theorem m_324 : (.methodLink R_Rs 55 y_Rs_grow : Cond) ∈ BIG := List.mem_filter.mpr ⟨inT4 (List.mem_of_getElem? (i := 128) (by decide +kernel)), by rfl⟩
theorem m_325 : (.static y_Rs_grow : Cond) ∈ BIG := List.mem_filter.mpr ⟨inT4 (List.mem_of_getElem? (i := 129) (by decide +kernel)), by rfl⟩
theorem m_326 : (.fieldLink R_Rs 22 R_Rs "five" "[I" : Cond) ∈ BIG := List.mem_filter.mpr ⟨inT3 (List.mem_of_getElem? (i := 109) (by decide +kernel)), by rfl⟩
theorem m_327 : (.code y_Rs_set b_Rs_set 4 (some .int) : Cond) ∈ BIG := List.mem_filter.mpr ⟨inT4 (List.mem_of_getElem? (i := 120) rfl), by rfl⟩
theorem m_328 : (.methodLink R_Rs 158 y_Rs_set : Cond) ∈ BIG := List.mem_filter.mpr ⟨inT4 (List.mem_of_getElem? (i := 118) (by decide +kernel)), by rfl⟩
theorem m_329 : (.static y_Rs_set : Cond) ∈ BIG := List.mem_filter.mpr ⟨inT4 (List.mem_of_getElem? (i := 119) (by decide +kernel)), by rfl⟩
theorem m_330 : (.fieldLink R_Rs 171 R_Rs "fiveMany" "I" : Cond) ∈ BIG := List.mem_filter.mpr ⟨inT3 (List.mem_of_getElem? (i := 115) (by decide +kernel)), by rfl⟩
theorem m_331 : (.fieldLink R_Rs 19 R_Rs "b" "[I" : Cond) ∈ BIG := List.mem_filter.mpr ⟨inT3 (List.mem_of_getElem? (i := 108) (by decide +kernel)), by rfl⟩
theorem m_332 : (.fieldLink R_Rs 72 R_Rs "bMany" "I" : Cond) ∈ BIG := List.mem_filter.mpr ⟨inT3 (List.mem_of_getElem? (i := 114) (by decide +kernel)), by rfl⟩
theorem m_333 : (.fieldLink R_Rs 59 R_Rs "twos" "I" : Cond) ∈ BIG := List.mem_filter.mpr ⟨inT3 (List.mem_of_getElem? (i := 118) (by decide +kernel)), by rfl⟩
theorem m_334 : (.code y_Rs_fives b_Rs_fives 5 (some .int) : Cond) ∈ BIG := List.mem_filter.mpr ⟨inT4 (List.mem_of_getElem? (i := 127) rfl), by rfl⟩
theorem m_335 : (.methodLink R_Rs 162 y_Rs_fives : Cond) ∈ BIG := List.mem_filter.mpr ⟨inT4 (List.mem_of_getElem? (i := 125) (by decide +kernel)), by rfl⟩
theorem m_336 : (.static y_Rs_fives : Cond) ∈ BIG := List.mem_filter.mpr ⟨inT4 (List.mem_of_getElem? (i := 126) (by decide +kernel)), by rfl⟩
theorem m_337 : (.fieldLink R_Rs 69 R_Rs "leftMany" "I" : Cond) ∈ BIG := List.mem_filter.mpr ⟨inT3 (List.mem_of_getElem? (i := 116) (by decide +kernel)), by rfl⟩
theorem m_338 : (.fieldLink R_Rs 28 R_Rs "right" "[I" : Cond) ∈ BIG := List.mem_filter.mpr ⟨inT3 (List.mem_of_getElem? (i := 111) (by decide +kernel)), by rfl⟩
theorem m_339 : (.code y_Rs_times b_Rs_times 14 (some .int) : Cond) ∈ BIG := List.mem_filter.mpr ⟨inT4 (List.mem_of_getElem? (i := 138) rfl), by rfl⟩
theorem m_340 : (.methodLink R_Rs 75 y_Rs_times : Cond) ∈ BIG := List.mem_filter.mpr ⟨inT4 (List.mem_of_getElem? (i := 135) (by decide +kernel)), by rfl⟩
theorem m_341 : (.instanceMethod y_Rs_times : Cond) ∈ BIG := List.mem_filter.mpr ⟨inT4 (List.mem_of_getElem? (i := 137) (by decide +kernel)), by rfl⟩
theorem m_342 : (.selects R_Rs y_Rs_times y_Rs_times : Cond) ∈ BIG := List.mem_filter.mpr ⟨inT0 (List.mem_of_getElem? (i := 35) (by decide +kernel)), by rfl⟩
theorem m_343 : (.fieldLink R_Rs 79 R_Rs "rightMany" "I" : Cond) ∈ BIG := List.mem_filter.mpr ⟨inT3 (List.mem_of_getElem? (i := 117) (by decide +kernel)), by rfl⟩
theorem m_344 : (.fieldLink R_Rs 25 R_Rs "left" "[I" : Cond) ∈ BIG := List.mem_filter.mpr ⟨inT3 (List.mem_of_getElem? (i := 110) (by decide +kernel)), by rfl⟩
theorem m_345 : (.code y_Rs_shifted b_Rs_shifted 6 (some .int) : Cond) ∈ BIG := List.mem_filter.mpr ⟨inT4 (List.mem_of_getElem? (i := 145) rfl), by rfl⟩
theorem m_346 : (.methodLink R_Rs 65 y_Rs_shifted : Cond) ∈ BIG := List.mem_filter.mpr ⟨inT4 (List.mem_of_getElem? (i := 143) (by decide +kernel)), by rfl⟩
theorem m_347 : (.static y_Rs_shifted : Cond) ∈ BIG := List.mem_filter.mpr ⟨inT4 (List.mem_of_getElem? (i := 144) (by decide +kernel)), by rfl⟩
theorem m_348 : (.fieldLink R_Rs 62 R_Rs "aMany" "I" : Cond) ∈ BIG := List.mem_filter.mpr ⟨inT3 (List.mem_of_getElem? (i := 113) (by decide +kernel)), by rfl⟩
theorem m_349 : (.fieldLink R_Rs 16 R_Rs "a" "[I" : Cond) ∈ BIG := List.mem_filter.mpr ⟨inT3 (List.mem_of_getElem? (i := 107) (by decide +kernel)), by rfl⟩
theorem m_350 : (.code y_Rs_compare b_Rs_compare 6 (some .int) : Cond) ∈ BIG := List.mem_filter.mpr ⟨inT4 (List.mem_of_getElem? (i := 142) rfl), by rfl⟩
theorem m_351 : (.methodLink R_Rs 96 y_Rs_compare : Cond) ∈ BIG := List.mem_filter.mpr ⟨inT4 (List.mem_of_getElem? (i := 139) (by decide +kernel)), by rfl⟩
theorem m_352 : (.instanceMethod y_Rs_compare : Cond) ∈ BIG := List.mem_filter.mpr ⟨inT4 (List.mem_of_getElem? (i := 141) (by decide +kernel)), by rfl⟩
theorem m_353 : (.selects R_Rs y_Rs_compare y_Rs_compare : Cond) ∈ BIG := List.mem_filter.mpr ⟨inT0 (List.mem_of_getElem? (i := 36) (by decide +kernel)), by rfl⟩
theorem m_354 : (.code y_Rs_scale b_Rs_scale 2 none : Cond) ∈ BIG := List.mem_filter.mpr ⟨inT4 (List.mem_of_getElem? (i := 117) rfl), by rfl⟩
theorem m_355 : (.methodLink R_Rs 174 y_Rs_scale : Cond) ∈ BIG := List.mem_filter.mpr ⟨inT4 (List.mem_of_getElem? (i := 114) (by decide +kernel)), by rfl⟩
theorem m_356 : (.instanceMethod y_Rs_scale : Cond) ∈ BIG := List.mem_filter.mpr ⟨inT4 (List.mem_of_getElem? (i := 116) (by decide +kernel)), by rfl⟩
theorem m_357 : (.selects R_Rs y_Rs_scale y_Rs_scale : Cond) ∈ BIG := List.mem_filter.mpr ⟨inT0 (List.mem_of_getElem? (i := 33) (by decide +kernel)), by rfl⟩
theorem m_358 : (.code y_Rs_compareDigits b_Rs_compareDigits 6 (some .int) : Cond) ∈ BIG := List.mem_filter.mpr ⟨inT4 (List.mem_of_getElem? (i := 134) rfl), by rfl⟩
theorem m_359 : (.methodLink R_Rs 178 y_Rs_compareDigits : Cond) ∈ BIG := List.mem_filter.mpr ⟨inT4 (List.mem_of_getElem? (i := 131) (by decide +kernel)), by rfl⟩
theorem m_360 : (.instanceMethod y_Rs_compareDigits : Cond) ∈ BIG := List.mem_filter.mpr ⟨inT4 (List.mem_of_getElem? (i := 133) (by decide +kernel)), by rfl⟩
theorem m_361 : (.selects R_Rs y_Rs_compareDigits y_Rs_compareDigits : Cond) ∈ BIG := List.mem_filter.mpr ⟨inT0 (List.mem_of_getElem? (i := 34) (by decide +kernel)), by rfl⟩
theorem m_362 : (.constantLong R_Rs 86 (2) : Cond) ∈ BIG := List.mem_filter.mpr ⟨inT4 (List.mem_of_getElem? (i := 150) (by decide +kernel)), by rfl⟩
theorem m_363 : (.code y_Rs_mantissa b_Rs_mantissa 6 (some .long) : Cond) ∈ BIG := List.mem_filter.mpr ⟨inT4 (List.mem_of_getElem? (i := 105) rfl), by rfl⟩
theorem m_364 : (.methodLink R_Rs 88 y_Rs_mantissa : Cond) ∈ BIG := List.mem_filter.mpr ⟨inT4 (List.mem_of_getElem? (i := 103) (by decide +kernel)), by rfl⟩
theorem m_365 : (.static y_Rs_mantissa : Cond) ∈ BIG := List.mem_filter.mpr ⟨inT4 (List.mem_of_getElem? (i := 104) (by decide +kernel)), by rfl⟩
theorem m_366 : (.code y_Rs_exponent b_Rs_exponent 4 (some .int) : Cond) ∈ BIG := List.mem_filter.mpr ⟨inT4 (List.mem_of_getElem? (i := 109) rfl), by rfl⟩
theorem m_367 : (.methodLink R_Rs 92 y_Rs_exponent : Cond) ∈ BIG := List.mem_filter.mpr ⟨inT4 (List.mem_of_getElem? (i := 107) (by decide +kernel)), by rfl⟩
theorem m_368 : (.static y_Rs_exponent : Cond) ∈ BIG := List.mem_filter.mpr ⟨inT4 (List.mem_of_getElem? (i := 108) (by decide +kernel)), by rfl⟩
theorem m_369 : (.code y_Rs_above b_Rs_above 4 (some .int) : Cond) ∈ BIG := List.mem_filter.mpr ⟨inT4 (List.mem_of_getElem? (i := 158) rfl), by rfl⟩
theorem m_370 : (.methodLink R_Rs 104 y_Rs_above : Cond) ∈ BIG := List.mem_filter.mpr ⟨inT4 (List.mem_of_getElem? (i := 155) (by decide +kernel)), by rfl⟩
theorem m_371 : (.instanceMethod y_Rs_above : Cond) ∈ BIG := List.mem_filter.mpr ⟨inT4 (List.mem_of_getElem? (i := 157) (by decide +kernel)), by rfl⟩
theorem m_372 : (.selects R_Rs y_Rs_above y_Rs_above : Cond) ∈ BIG := List.mem_filter.mpr ⟨inT0 (List.mem_of_getElem? (i := 39) (by decide +kernel)), by rfl⟩
theorem m_373 : (.constantLong R_Rs 182 (10) : Cond) ∈ BIG := List.mem_filter.mpr ⟨inT4 (List.mem_of_getElem? (i := 106) (by decide +kernel)), by rfl⟩
theorem m_374 : (.code y_Rs_tens b_Rs_tens 7 (some .int) : Cond) ∈ BIG := List.mem_filter.mpr ⟨inT4 (List.mem_of_getElem? (i := 113) rfl), by rfl⟩
theorem m_375 : (.methodLink R_Rs 184 y_Rs_tens : Cond) ∈ BIG := List.mem_filter.mpr ⟨inT4 (List.mem_of_getElem? (i := 110) (by decide +kernel)), by rfl⟩
theorem m_376 : (.instanceMethod y_Rs_tens : Cond) ∈ BIG := List.mem_filter.mpr ⟨inT4 (List.mem_of_getElem? (i := 112) (by decide +kernel)), by rfl⟩
theorem m_377 : (.selects R_Rs y_Rs_tens y_Rs_tens : Cond) ∈ BIG := List.mem_filter.mpr ⟨inT0 (List.mem_of_getElem? (i := 32) (by decide +kernel)), by rfl⟩
theorem m_378 : (.fieldLink R_Rs 127 R_Rs "power" "I" : Cond) ∈ BIG := List.mem_filter.mpr ⟨inT3 (List.mem_of_getElem? (i := 119) (by decide +kernel)), by rfl⟩
theorem m_379 : (.code y_Rs_most b_Rs_most 12 (some .long) : Cond) ∈ BIG := List.mem_filter.mpr ⟨inT4 (List.mem_of_getElem? (i := 149) rfl), by rfl⟩
theorem m_380 : (.methodLink R_Rs 187 y_Rs_most : Cond) ∈ BIG := List.mem_filter.mpr ⟨inT4 (List.mem_of_getElem? (i := 146) (by decide +kernel)), by rfl⟩
theorem m_381 : (.instanceMethod y_Rs_most : Cond) ∈ BIG := List.mem_filter.mpr ⟨inT4 (List.mem_of_getElem? (i := 148) (by decide +kernel)), by rfl⟩
theorem m_382 : (.selects R_Rs y_Rs_most y_Rs_most : Cond) ∈ BIG := List.mem_filter.mpr ⟨inT0 (List.mem_of_getElem? (i := 37) (by decide +kernel)), by rfl⟩
theorem m_383 : (.code y_Rs_isRead b_Rs_isRead 9 (some .boolean) : Cond) ∈ BIG := List.mem_filter.mpr ⟨inT4 (List.mem_of_getElem? (i := 154) rfl), by rfl⟩
theorem m_384 : (.methodLink R_Rs 191 y_Rs_isRead : Cond) ∈ BIG := List.mem_filter.mpr ⟨inT4 (List.mem_of_getElem? (i := 151) (by decide +kernel)), by rfl⟩
theorem m_385 : (.instanceMethod y_Rs_isRead : Cond) ∈ BIG := List.mem_filter.mpr ⟨inT4 (List.mem_of_getElem? (i := 153) (by decide +kernel)), by rfl⟩
theorem m_386 : (.selects R_Rs y_Rs_isRead y_Rs_isRead : Cond) ∈ BIG := List.mem_filter.mpr ⟨inT0 (List.mem_of_getElem? (i := 38) (by decide +kernel)), by rfl⟩
theorem m_387 : (.constantLong R_Rs 195 (48) : Cond) ∈ BIG := List.mem_filter.mpr ⟨inT4 (List.mem_of_getElem? (i := 167) (by decide +kernel)), by rfl⟩
theorem m_388 : (.code y_Rs_shortest b_Rs_shortest 16 (some .long) : Cond) ∈ BIG := List.mem_filter.mpr ⟨inT4 (List.mem_of_getElem? (i := 102) rfl), by rfl⟩
theorem m_389 : (.methodLink R_Rs 200 y_Rs_shortest : Cond) ∈ BIG := List.mem_filter.mpr ⟨inT4 (List.mem_of_getElem? (i := 99) (by decide +kernel)), by rfl⟩
theorem m_390 : (.instanceMethod y_Rs_shortest : Cond) ∈ BIG := List.mem_filter.mpr ⟨inT4 (List.mem_of_getElem? (i := 101) (by decide +kernel)), by rfl⟩
theorem m_391 : (.selects R_Rs y_Rs_shortest y_Rs_shortest : Cond) ∈ BIG := List.mem_filter.mpr ⟨inT0 (List.mem_of_getElem? (i := 31) (by decide +kernel)), by rfl⟩
theorem m_392 : (.code y_Rs_in b_Rs_in 3 (some .boolean) : Cond) ∈ BIG := List.mem_filter.mpr ⟨inT4 (List.mem_of_getElem? (i := 162) rfl), by rfl⟩
theorem m_393 : (.methodLink R_Rs 38 y_Rs_in : Cond) ∈ BIG := List.mem_filter.mpr ⟨inT4 (List.mem_of_getElem? (i := 160) (by decide +kernel)), by rfl⟩
theorem m_394 : (.static y_Rs_in : Cond) ∈ BIG := List.mem_filter.mpr ⟨inT4 (List.mem_of_getElem? (i := 161) (by decide +kernel)), by rfl⟩
theorem m_395 : (.code y_Rs_layDigits b_Rs_layDigits 10 none : Cond) ∈ BIG := List.mem_filter.mpr ⟨inT4 (List.mem_of_getElem? (i := 166) rfl), by rfl⟩
theorem m_396 : (.methodLink R_Rs 205 y_Rs_layDigits : Cond) ∈ BIG := List.mem_filter.mpr ⟨inT4 (List.mem_of_getElem? (i := 163) (by decide +kernel)), by rfl⟩
theorem m_397 : (.instanceMethod y_Rs_layDigits : Cond) ∈ BIG := List.mem_filter.mpr ⟨inT4 (List.mem_of_getElem? (i := 165) (by decide +kernel)), by rfl⟩
theorem m_398 : (.selects R_Rs y_Rs_layDigits y_Rs_layDigits : Cond) ∈ BIG := List.mem_filter.mpr ⟨inT0 (List.mem_of_getElem? (i := 40) (by decide +kernel)), by rfl⟩
theorem m_399 : (.code y_Rs_layNumber b_Rs_layNumber 3 none : Cond) ∈ BIG := List.mem_filter.mpr ⟨inT4 (List.mem_of_getElem? (i := 171) rfl), by rfl⟩
theorem m_400 : (.methodLink R_Rs 209 y_Rs_layNumber : Cond) ∈ BIG := List.mem_filter.mpr ⟨inT4 (List.mem_of_getElem? (i := 168) (by decide +kernel)), by rfl⟩
theorem m_401 : (.instanceMethod y_Rs_layNumber : Cond) ∈ BIG := List.mem_filter.mpr ⟨inT4 (List.mem_of_getElem? (i := 170) (by decide +kernel)), by rfl⟩
theorem m_402 : (.selects R_Rs y_Rs_layNumber y_Rs_layNumber : Cond) ∈ BIG := List.mem_filter.mpr ⟨inT0 (List.mem_of_getElem? (i := 41) (by decide +kernel)), by rfl⟩
theorem m_403 : (.constantLong R_Rs 203 (9) : Cond) ∈ BIG := List.mem_filter.mpr ⟨inT4 (List.mem_of_getElem? (i := 159) (by decide +kernel)), by rfl⟩
theorem m_404 : (.fieldLink R_Rs 34 R_Rs "thrown" "I" : Cond) ∈ BIG := List.mem_filter.mpr ⟨inT3 (List.mem_of_getElem? (i := 106) (by decide +kernel)), by rfl⟩
theorem m_405 : (.fieldLink R_Rs 214 R_Rs "gone" "I" : Cond) ∈ BIG := List.mem_filter.mpr ⟨inT3 (List.mem_of_getElem? (i := 105) (by decide +kernel)), by rfl⟩
theorem m_406 : (.constantLong R_Rs 219 (9223372036854775807) : Cond) ∈ BIG := List.mem_filter.mpr ⟨inT4 (List.mem_of_getElem? (i := 77) (by decide +kernel)), by rfl⟩
theorem m_407 : (.constantLong R_Rs 217 (2147483647) : Cond) ∈ BIG := List.mem_filter.mpr ⟨inT4 (List.mem_of_getElem? (i := 76) (by decide +kernel)), by rfl⟩
theorem m_408 : (.code y_Rs_greatest b_Rs_greatest 1 (some .long) : Cond) ∈ BIG := List.mem_filter.mpr ⟨inT4 (List.mem_of_getElem? (i := 80) rfl), by rfl⟩
theorem m_409 : (.methodLink R_Rs 100 y_Rs_greatest : Cond) ∈ BIG := List.mem_filter.mpr ⟨inT4 (List.mem_of_getElem? (i := 78) (by decide +kernel)), by rfl⟩
theorem m_410 : (.static y_Rs_greatest : Cond) ∈ BIG := List.mem_filter.mpr ⟨inT4 (List.mem_of_getElem? (i := 79) (by decide +kernel)), by rfl⟩
theorem m_411 : (.code y_Rs_layDecimal b_Rs_layDecimal 10 none : Cond) ∈ BIG := List.mem_filter.mpr ⟨inT4 (List.mem_of_getElem? (i := 98) rfl), by rfl⟩
theorem m_412 : (.methodLink R_Rs 231 y_Rs_layDecimal : Cond) ∈ BIG := List.mem_filter.mpr ⟨inT4 (List.mem_of_getElem? (i := 95) (by decide +kernel)), by rfl⟩
theorem m_413 : (.instanceMethod y_Rs_layDecimal : Cond) ∈ BIG := List.mem_filter.mpr ⟨inT4 (List.mem_of_getElem? (i := 97) (by decide +kernel)), by rfl⟩
theorem m_414 : (.selects R_Rs y_Rs_layDecimal y_Rs_layDecimal : Cond) ∈ BIG := List.mem_filter.mpr ⟨inT0 (List.mem_of_getElem? (i := 30) (by decide +kernel)), by rfl⟩
theorem m_415 : (.constantLong R_Rs 229 (3157552) : Cond) ∈ BIG := List.mem_filter.mpr ⟨inT4 (List.mem_of_getElem? (i := 94) (by decide +kernel)), by rfl⟩
theorem m_416 : (.code y_Rs_layWord b_Rs_layWord 5 none : Cond) ∈ BIG := List.mem_filter.mpr ⟨inT4 (List.mem_of_getElem? (i := 87) rfl), by rfl⟩
theorem m_417 : (.methodLink R_Rs 223 y_Rs_layWord : Cond) ∈ BIG := List.mem_filter.mpr ⟨inT4 (List.mem_of_getElem? (i := 84) (by decide +kernel)), by rfl⟩
theorem m_418 : (.instanceMethod y_Rs_layWord : Cond) ∈ BIG := List.mem_filter.mpr ⟨inT4 (List.mem_of_getElem? (i := 86) (by decide +kernel)), by rfl⟩
theorem m_419 : (.selects R_Rs y_Rs_layWord y_Rs_layWord : Cond) ∈ BIG := List.mem_filter.mpr ⟨inT0 (List.mem_of_getElem? (i := 28) (by decide +kernel)), by rfl⟩
theorem m_420 : (.constantLong R_Rs 227 (5291279215216915577) : Cond) ∈ BIG := List.mem_filter.mpr ⟨inT4 (List.mem_of_getElem? (i := 93) (by decide +kernel)), by rfl⟩
theorem m_421 : (.constantLong R_Rs 221 (5136718) : Cond) ∈ BIG := List.mem_filter.mpr ⟨inT4 (List.mem_of_getElem? (i := 83) (by decide +kernel)), by rfl⟩
theorem m_422 : (.fieldLink R_Md 149 R_Md "gone" "I" : Cond) ∈ BIG := List.mem_filter.mpr ⟨inT3 (List.mem_of_getElem? (i := 177) (by decide +kernel)), by rfl⟩
theorem m_423 : (.constantLong R_Md 168 (10) : Cond) ∈ BIG := List.mem_filter.mpr ⟨inT4 (List.mem_of_getElem? (i := 182) (by decide +kernel)), by rfl⟩
theorem m_424 : (.constantLong R_Md 170 (48) : Cond) ∈ BIG := List.mem_filter.mpr ⟨inT4 (List.mem_of_getElem? (i := 183) (by decide +kernel)), by rfl⟩
theorem m_425 : (.code y_Md_lay b_Md_lay 2 none : Cond) ∈ BIG := List.mem_filter.mpr ⟨inT4 (List.mem_of_getElem? (i := 179) rfl), by rfl⟩
theorem m_426 : (.methodLink R_Md 160 y_Md_lay : Cond) ∈ BIG := List.mem_filter.mpr ⟨inT4 (List.mem_of_getElem? (i := 176) (by decide +kernel)), by rfl⟩
theorem m_427 : (.instanceMethod y_Md_lay : Cond) ∈ BIG := List.mem_filter.mpr ⟨inT4 (List.mem_of_getElem? (i := 178) (by decide +kernel)), by rfl⟩
theorem m_428 : (.selects R_Md y_Md_lay y_Md_lay : Cond) ∈ BIG := List.mem_filter.mpr ⟨inT0 (List.mem_of_getElem? (i := 42) (by decide +kernel)), by rfl⟩
theorem m_429 : (.constantLong R_Md 164 (9) : Cond) ∈ BIG := List.mem_filter.mpr ⟨inT4 (List.mem_of_getElem? (i := 180) (by decide +kernel)), by rfl⟩
theorem m_430 : (.constantLong R_Md 166 (-9) : Cond) ∈ BIG := List.mem_filter.mpr ⟨inT4 (List.mem_of_getElem? (i := 181) (by decide +kernel)), by rfl⟩
theorem m_431 : (.fieldLink R_Md 10 R_Md "reals" "LPrimitiveBitsModel$Reals;" : Cond) ∈ BIG := List.mem_filter.mpr ⟨inT3 (List.mem_of_getElem? (i := 174) (by decide +kernel)), by rfl⟩
theorem m_432 : (.code y_Rs_write b_Rs_write 7 (some .int) : Cond) ∈ BIG := List.mem_filter.mpr ⟨inT4 (List.mem_of_getElem? (i := 75) rfl), by rfl⟩
theorem m_433 : (.methodLink R_Md 152 y_Rs_write : Cond) ∈ BIG := List.mem_filter.mpr ⟨inT4 (List.mem_of_getElem? (i := 72) (by decide +kernel)), by rfl⟩
theorem m_434 : (.instanceMethod y_Rs_write : Cond) ∈ BIG := List.mem_filter.mpr ⟨inT4 (List.mem_of_getElem? (i := 73) (by decide +kernel)), by rfl⟩
theorem m_435 : (.selects R_Rs y_Rs_write y_Rs_write : Cond) ∈ BIG := List.mem_filter.mpr ⟨inT4 (List.mem_of_getElem? (i := 74) (by decide +kernel)), by rfl⟩
theorem m_436 : (.code y_Rs_letter b_Rs_letter 2 (some .int) : Cond) ∈ BIG := List.mem_filter.mpr ⟨inT4 (List.mem_of_getElem? (i := 175) rfl), by rfl⟩
theorem m_437 : (.methodLink R_Md 156 y_Rs_letter : Cond) ∈ BIG := List.mem_filter.mpr ⟨inT4 (List.mem_of_getElem? (i := 172) (by decide +kernel)), by rfl⟩
theorem m_438 : (.instanceMethod y_Rs_letter : Cond) ∈ BIG := List.mem_filter.mpr ⟨inT4 (List.mem_of_getElem? (i := 173) (by decide +kernel)), by rfl⟩
theorem m_439 : (.selects R_Rs y_Rs_letter y_Rs_letter : Cond) ∈ BIG := List.mem_filter.mpr ⟨inT4 (List.mem_of_getElem? (i := 174) (by decide +kernel)), by rfl⟩
