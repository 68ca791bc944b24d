section
-- ===== PART A: goes FIRST, ahead of the names: the tables' words, and 'selects' of the private methods out of them =====
/-- a private method of a class that the tables say can be made, by its rows of tables_1 -/
def lw_okq (q : MethodName × Nat) : Prop := (q.1.cls ≠ "java/lang/invoke/MethodHandle" ∧ q.1.cls ≠ "java/lang/invoke/VarHandle") ∧ Cond.instantiable q.1.cls q.2 ∈ tables_1 ∧ Cond.privateMethod q.1 ∈ tables_1 ∧ Cond.instanceMethod q.1 ∈ tables_1
theorem lw_p0 : lw_okq (⟨"java/lang/Throwable", "fillInStackTrace", "(I)Ljava/lang/Throwable;"⟩, 6) := ⟨⟨by decide +kernel, by decide +kernel⟩, List.mem_of_getElem? (i := 148) (by decide +kernel), List.mem_of_getElem? (i := 146) (by decide +kernel), List.mem_of_getElem? (i := 147) (by decide +kernel)⟩
theorem lw_p1 : lw_okq (⟨"PrimitiveBits$Real", "magnitude", "(J)J"⟩, 8) := ⟨⟨by decide +kernel, by decide +kernel⟩, List.mem_of_getElem? (i := 222) (by decide +kernel), List.mem_of_getElem? (i := 220) (by decide +kernel), List.mem_of_getElem? (i := 221) (by decide +kernel)⟩
theorem lw_p2 : lw_okq (⟨"PrimitiveBits$Real", "infiniteSum", "(JJ)J"⟩, 8) := ⟨⟨by decide +kernel, by decide +kernel⟩, List.mem_of_getElem? (i := 222) (by decide +kernel), List.mem_of_getElem? (i := 237) (by decide +kernel), List.mem_of_getElem? (i := 238) (by decide +kernel)⟩
theorem lw_p3 : lw_okq (⟨"PrimitiveBits$Real", "signed", "(ZJ)J"⟩, 8) := ⟨⟨by decide +kernel, by decide +kernel⟩, List.mem_of_getElem? (i := 222) (by decide +kernel), List.mem_of_getElem? (i := 246) (by decide +kernel), List.mem_of_getElem? (i := 247) (by decide +kernel)⟩
theorem lw_p4 : lw_okq (⟨"PrimitiveBits$Real", "orderedSum", "(JJ)J"⟩, 8) := ⟨⟨by decide +kernel, by decide +kernel⟩, List.mem_of_getElem? (i := 222) (by decide +kernel), List.mem_of_getElem? (i := 250) (by decide +kernel), List.mem_of_getElem? (i := 251) (by decide +kernel)⟩
theorem lw_p5 : lw_okq (⟨"PrimitiveBits$Real", "exponent", "(J)I"⟩, 8) := ⟨⟨by decide +kernel, by decide +kernel⟩, List.mem_of_getElem? (i := 222) (by decide +kernel), List.mem_of_getElem? (i := 258) (by decide +kernel), List.mem_of_getElem? (i := 259) (by decide +kernel)⟩
theorem lw_p6 : lw_okq (⟨"PrimitiveBits$Real", "fraction", "(J)J"⟩, 8) := ⟨⟨by decide +kernel, by decide +kernel⟩, List.mem_of_getElem? (i := 222) (by decide +kernel), List.mem_of_getElem? (i := 262) (by decide +kernel), List.mem_of_getElem? (i := 263) (by decide +kernel)⟩
theorem lw_p7 : lw_okq (⟨"PrimitiveBits$Real", "rounded", "(ZIJ)J"⟩, 8) := ⟨⟨by decide +kernel, by decide +kernel⟩, List.mem_of_getElem? (i := 222) (by decide +kernel), List.mem_of_getElem? (i := 279) (by decide +kernel), List.mem_of_getElem? (i := 280) (by decide +kernel)⟩
theorem lw_p8 : lw_okq (⟨"PrimitiveBits$Real", "aligned", "(J)J"⟩, 8) := ⟨⟨by decide +kernel, by decide +kernel⟩, List.mem_of_getElem? (i := 222) (by decide +kernel), List.mem_of_getElem? (i := 302) (by decide +kernel), List.mem_of_getElem? (i := 303) (by decide +kernel)⟩
theorem lw_p9 : lw_okq (⟨"PrimitiveBits$Real", "alignment", "(J)I"⟩, 8) := ⟨⟨by decide +kernel, by decide +kernel⟩, List.mem_of_getElem? (i := 222) (by decide +kernel), List.mem_of_getElem? (i := 306) (by decide +kernel), List.mem_of_getElem? (i := 307) (by decide +kernel)⟩
theorem lw_p10 : lw_okq (⟨"PrimitiveBits$Real", "alignedPower", "(J)I"⟩, 8) := ⟨⟨by decide +kernel, by decide +kernel⟩, List.mem_of_getElem? (i := 222) (by decide +kernel), List.mem_of_getElem? (i := 314) (by decide +kernel), List.mem_of_getElem? (i := 315) (by decide +kernel)⟩
theorem lw_p11 : lw_okq (⟨"PrimitiveBits$Letters", "putDigits", "(JI)V"⟩, 3) := ⟨⟨by decide +kernel, by decide +kernel⟩, List.mem_of_getElem? (i := 28) (by decide +kernel), List.mem_of_getElem? (i := 413) (by decide +kernel), List.mem_of_getElem? (i := 414) (by decide +kernel)⟩
theorem lw_p12 : lw_okq (⟨"PrimitiveBits", "putReal", "(JLPrimitiveBits$Real;)V"⟩, 2) := ⟨⟨by decide +kernel, by decide +kernel⟩, List.mem_of_getElem? (i := 20) (by decide +kernel), List.mem_of_getElem? (i := 418) (by decide +kernel), List.mem_of_getElem? (i := 419) (by decide +kernel)⟩
theorem lw_p13 : lw_okq (⟨"PrimitiveBits$BigWhole", "place", "(JI)V"⟩, 3) := ⟨⟨by decide +kernel, by decide +kernel⟩, List.mem_of_getElem? (i := 51) (by decide +kernel), List.mem_of_getElem? (i := 499) (by decide +kernel), List.mem_of_getElem? (i := 500) (by decide +kernel)⟩
theorem lw_p14 : lw_okq (⟨"PrimitiveBits$BigWhole", "multiply", "(J)V"⟩, 3) := ⟨⟨by decide +kernel, by decide +kernel⟩, List.mem_of_getElem? (i := 51) (by decide +kernel), List.mem_of_getElem? (i := 512) (by decide +kernel), List.mem_of_getElem? (i := 513) (by decide +kernel)⟩
theorem lw_p15 : lw_okq (⟨"PrimitiveBits$BigWhole", "divide", "(J)V"⟩, 3) := ⟨⟨by decide +kernel, by decide +kernel⟩, List.mem_of_getElem? (i := 51) (by decide +kernel), List.mem_of_getElem? (i := 516) (by decide +kernel), List.mem_of_getElem? (i := 517) (by decide +kernel)⟩
def lw_privs_1 : List (MethodName × Nat) := [(⟨"java/lang/Throwable", "fillInStackTrace", "(I)Ljava/lang/Throwable;"⟩, 6), (⟨"PrimitiveBits$Real", "magnitude", "(J)J"⟩, 8), (⟨"PrimitiveBits$Real", "infiniteSum", "(JJ)J"⟩, 8), (⟨"PrimitiveBits$Real", "signed", "(ZJ)J"⟩, 8), (⟨"PrimitiveBits$Real", "orderedSum", "(JJ)J"⟩, 8), (⟨"PrimitiveBits$Real", "exponent", "(J)I"⟩, 8), (⟨"PrimitiveBits$Real", "fraction", "(J)J"⟩, 8), (⟨"PrimitiveBits$Real", "rounded", "(ZIJ)J"⟩, 8), (⟨"PrimitiveBits$Real", "aligned", "(J)J"⟩, 8), (⟨"PrimitiveBits$Real", "alignment", "(J)I"⟩, 8), (⟨"PrimitiveBits$Real", "alignedPower", "(J)I"⟩, 8), (⟨"PrimitiveBits$Letters", "putDigits", "(JI)V"⟩, 3), (⟨"PrimitiveBits", "putReal", "(JLPrimitiveBits$Real;)V"⟩, 2), (⟨"PrimitiveBits$BigWhole", "place", "(JI)V"⟩, 3), (⟨"PrimitiveBits$BigWhole", "multiply", "(J)V"⟩, 3), (⟨"PrimitiveBits$BigWhole", "divide", "(J)V"⟩, 3)]
theorem lw_r1 : ∀ q ∈ lw_privs_1, lw_okq q := List.forall_mem_cons.mpr ⟨lw_p0, List.forall_mem_cons.mpr ⟨lw_p1, List.forall_mem_cons.mpr ⟨lw_p2, List.forall_mem_cons.mpr ⟨lw_p3, List.forall_mem_cons.mpr ⟨lw_p4, List.forall_mem_cons.mpr ⟨lw_p5, List.forall_mem_cons.mpr ⟨lw_p6, List.forall_mem_cons.mpr ⟨lw_p7, List.forall_mem_cons.mpr ⟨lw_p8, List.forall_mem_cons.mpr ⟨lw_p9, List.forall_mem_cons.mpr ⟨lw_p10, List.forall_mem_cons.mpr ⟨lw_p11, List.forall_mem_cons.mpr ⟨lw_p12, List.forall_mem_cons.mpr ⟨lw_p13, List.forall_mem_cons.mpr ⟨lw_p14, List.forall_mem_cons.mpr ⟨lw_p15, fun _ h => absurd h List.not_mem_nil⟩⟩⟩⟩⟩⟩⟩⟩⟩⟩⟩⟩⟩⟩⟩⟩
theorem lw_p16 : lw_okq (⟨"PrimitiveBits$BigWhole", "bitsFrom", "(I)J"⟩, 3) := ⟨⟨by decide +kernel, by decide +kernel⟩, List.mem_of_getElem? (i := 51) (by decide +kernel), List.mem_of_getElem? (i := 520) (by decide +kernel), List.mem_of_getElem? (i := 521) (by decide +kernel)⟩
theorem lw_p17 : lw_okq (⟨"PrimitiveBits$ShortestDecimal", "dropZeros", "()V"⟩, 3) := ⟨⟨by decide +kernel, by decide +kernel⟩, List.mem_of_getElem? (i := 45) (by decide +kernel), List.mem_of_getElem? (i := 540) (by decide +kernel), List.mem_of_getElem? (i := 541) (by decide +kernel)⟩
theorem lw_p18 : lw_okq (⟨"PrimitiveBits$Letters", "putPointed", "(JII)V"⟩, 3) := ⟨⟨by decide +kernel, by decide +kernel⟩, List.mem_of_getElem? (i := 28) (by decide +kernel), List.mem_of_getElem? (i := 556) (by decide +kernel), List.mem_of_getElem? (i := 557) (by decide +kernel)⟩
theorem lw_p19 : lw_okq (⟨"PrimitiveBitsModel", "fails", "(I)J"⟩, 15) := ⟨⟨by decide +kernel, by decide +kernel⟩, List.mem_of_getElem? (i := 571) (by decide +kernel), List.mem_of_getElem? (i := 709) (by decide +kernel), List.mem_of_getElem? (i := 710) (by decide +kernel)⟩
theorem lw_p20 : lw_okq (⟨"PrimitiveBitsModel", "broken", "(IJJZ)J"⟩, 15) := ⟨⟨by decide +kernel, by decide +kernel⟩, List.mem_of_getElem? (i := 571) (by decide +kernel), List.mem_of_getElem? (i := 713) (by decide +kernel), List.mem_of_getElem? (i := 714) (by decide +kernel)⟩
theorem lw_p21 : lw_okq (⟨"PrimitiveBitsModel", "apart", "(JZZ)V"⟩, 15) := ⟨⟨by decide +kernel, by decide +kernel⟩, List.mem_of_getElem? (i := 571) (by decide +kernel), List.mem_of_getElem? (i := 717) (by decide +kernel), List.mem_of_getElem? (i := 718) (by decide +kernel)⟩
theorem lw_p22 : lw_okq (⟨"PrimitiveBitsModel", "add", "(Z)J"⟩, 15) := ⟨⟨by decide +kernel, by decide +kernel⟩, List.mem_of_getElem? (i := 571) (by decide +kernel), List.mem_of_getElem? (i := 722) (by decide +kernel), List.mem_of_getElem? (i := 723) (by decide +kernel)⟩
theorem lw_p23 : lw_okq (⟨"PrimitiveBitsModel", "times", "(Z)J"⟩, 15) := ⟨⟨by decide +kernel, by decide +kernel⟩, List.mem_of_getElem? (i := 571) (by decide +kernel), List.mem_of_getElem? (i := 748) (by decide +kernel), List.mem_of_getElem? (i := 749) (by decide +kernel)⟩
theorem lw_p24 : lw_okq (⟨"PrimitiveBitsModel", "over", "(Z)J"⟩, 15) := ⟨⟨by decide +kernel, by decide +kernel⟩, List.mem_of_getElem? (i := 571) (by decide +kernel), List.mem_of_getElem? (i := 753) (by decide +kernel), List.mem_of_getElem? (i := 754) (by decide +kernel)⟩
theorem lw_p25 : lw_okq (⟨"PrimitiveBitsModel", "rest", "(Z)J"⟩, 15) := ⟨⟨by decide +kernel, by decide +kernel⟩, List.mem_of_getElem? (i := 571) (by decide +kernel), List.mem_of_getElem? (i := 757) (by decide +kernel), List.mem_of_getElem? (i := 758) (by decide +kernel)⟩
theorem lw_p26 : lw_okq (⟨"PrimitiveBitsModel", "whole", "(IJJI)J"⟩, 15) := ⟨⟨by decide +kernel, by decide +kernel⟩, List.mem_of_getElem? (i := 571) (by decide +kernel), List.mem_of_getElem? (i := 766) (by decide +kernel), List.mem_of_getElem? (i := 767) (by decide +kernel)⟩
theorem lw_p27 : lw_okq (⟨"PrimitiveBitsModel", "towards", "(Z)J"⟩, 15) := ⟨⟨by decide +kernel, by decide +kernel⟩, List.mem_of_getElem? (i := 571) (by decide +kernel), List.mem_of_getElem? (i := 779) (by decide +kernel), List.mem_of_getElem? (i := 780) (by decide +kernel)⟩
theorem lw_p28 : lw_okq (⟨"PrimitiveBitsModel$Reals", "layWord", "(JI)V"⟩, 26) := ⟨⟨by decide +kernel, by decide +kernel⟩, List.mem_of_getElem? (i := 577) (by decide +kernel), List.mem_of_getElem? (i := 805) (by decide +kernel), List.mem_of_getElem? (i := 806) (by decide +kernel)⟩
theorem lw_p29 : lw_okq (⟨"PrimitiveBitsModel$Reals", "lay", "(I)V"⟩, 26) := ⟨⟨by decide +kernel, by decide +kernel⟩, List.mem_of_getElem? (i := 577) (by decide +kernel), List.mem_of_getElem? (i := 810) (by decide +kernel), List.mem_of_getElem? (i := 811) (by decide +kernel)⟩
theorem lw_p30 : lw_okq (⟨"PrimitiveBitsModel$Reals", "layDecimal", "(JZ)V"⟩, 26) := ⟨⟨by decide +kernel, by decide +kernel⟩, List.mem_of_getElem? (i := 577) (by decide +kernel), List.mem_of_getElem? (i := 816) (by decide +kernel), List.mem_of_getElem? (i := 817) (by decide +kernel)⟩
theorem lw_p31 : lw_okq (⟨"PrimitiveBitsModel$Reals", "shortest", "(JZ)J"⟩, 26) := ⟨⟨by decide +kernel, by decide +kernel⟩, List.mem_of_getElem? (i := 577) (by decide +kernel), List.mem_of_getElem? (i := 820) (by decide +kernel), List.mem_of_getElem? (i := 821) (by decide +kernel)⟩
def lw_privs_2 : List (MethodName × Nat) := [(⟨"PrimitiveBits$BigWhole", "bitsFrom", "(I)J"⟩, 3), (⟨"PrimitiveBits$ShortestDecimal", "dropZeros", "()V"⟩, 3), (⟨"PrimitiveBits$Letters", "putPointed", "(JII)V"⟩, 3), (⟨"PrimitiveBitsModel", "fails", "(I)J"⟩, 15), (⟨"PrimitiveBitsModel", "broken", "(IJJZ)J"⟩, 15), (⟨"PrimitiveBitsModel", "apart", "(JZZ)V"⟩, 15), (⟨"PrimitiveBitsModel", "add", "(Z)J"⟩, 15), (⟨"PrimitiveBitsModel", "times", "(Z)J"⟩, 15), (⟨"PrimitiveBitsModel", "over", "(Z)J"⟩, 15), (⟨"PrimitiveBitsModel", "rest", "(Z)J"⟩, 15), (⟨"PrimitiveBitsModel", "whole", "(IJJI)J"⟩, 15), (⟨"PrimitiveBitsModel", "towards", "(Z)J"⟩, 15), (⟨"PrimitiveBitsModel$Reals", "layWord", "(JI)V"⟩, 26), (⟨"PrimitiveBitsModel$Reals", "lay", "(I)V"⟩, 26), (⟨"PrimitiveBitsModel$Reals", "layDecimal", "(JZ)V"⟩, 26), (⟨"PrimitiveBitsModel$Reals", "shortest", "(JZ)J"⟩, 26)]
theorem lw_r2 : ∀ q ∈ lw_privs_2, lw_okq q := List.forall_mem_cons.mpr ⟨lw_p16, List.forall_mem_cons.mpr ⟨lw_p17, List.forall_mem_cons.mpr ⟨lw_p18, List.forall_mem_cons.mpr ⟨lw_p19, List.forall_mem_cons.mpr ⟨lw_p20, List.forall_mem_cons.mpr ⟨lw_p21, List.forall_mem_cons.mpr ⟨lw_p22, List.forall_mem_cons.mpr ⟨lw_p23, List.forall_mem_cons.mpr ⟨lw_p24, List.forall_mem_cons.mpr ⟨lw_p25, List.forall_mem_cons.mpr ⟨lw_p26, List.forall_mem_cons.mpr ⟨lw_p27, List.forall_mem_cons.mpr ⟨lw_p28, List.forall_mem_cons.mpr ⟨lw_p29, List.forall_mem_cons.mpr ⟨lw_p30, List.forall_mem_cons.mpr ⟨lw_p31, fun _ h => absurd h List.not_mem_nil⟩⟩⟩⟩⟩⟩⟩⟩⟩⟩⟩⟩⟩⟩⟩⟩
theorem lw_p32 : lw_okq (⟨"PrimitiveBitsModel$Reals", "tens", "(JI)I"⟩, 26) := ⟨⟨by decide +kernel, by decide +kernel⟩, List.mem_of_getElem? (i := 577) (by decide +kernel), List.mem_of_getElem? (i := 831) (by decide +kernel), List.mem_of_getElem? (i := 832) (by decide +kernel)⟩
theorem lw_p33 : lw_okq (⟨"PrimitiveBitsModel$Reals", "scale", "(I)V"⟩, 26) := ⟨⟨by decide +kernel, by decide +kernel⟩, List.mem_of_getElem? (i := 577) (by decide +kernel), List.mem_of_getElem? (i := 835) (by decide +kernel), List.mem_of_getElem? (i := 836) (by decide +kernel)⟩
theorem lw_p34 : lw_okq (⟨"PrimitiveBitsModel$Reals", "compareDigits", "(JJI)I"⟩, 26) := ⟨⟨by decide +kernel, by decide +kernel⟩, List.mem_of_getElem? (i := 577) (by decide +kernel), List.mem_of_getElem? (i := 852) (by decide +kernel), List.mem_of_getElem? (i := 853) (by decide +kernel)⟩
theorem lw_p35 : lw_okq (⟨"PrimitiveBitsModel$Reals", "times", "([IIJ[I)I"⟩, 26) := ⟨⟨by decide +kernel, by decide +kernel⟩, List.mem_of_getElem? (i := 577) (by decide +kernel), List.mem_of_getElem? (i := 856) (by decide +kernel), List.mem_of_getElem? (i := 857) (by decide +kernel)⟩
theorem lw_p36 : lw_okq (⟨"PrimitiveBitsModel$Reals", "compare", "(JI)I"⟩, 26) := ⟨⟨by decide +kernel, by decide +kernel⟩, List.mem_of_getElem? (i := 577) (by decide +kernel), List.mem_of_getElem? (i := 860) (by decide +kernel), List.mem_of_getElem? (i := 861) (by decide +kernel)⟩
theorem lw_p37 : lw_okq (⟨"PrimitiveBitsModel$Reals", "most", "(JIJ)J"⟩, 26) := ⟨⟨by decide +kernel, by decide +kernel⟩, List.mem_of_getElem? (i := 577) (by decide +kernel), List.mem_of_getElem? (i := 867) (by decide +kernel), List.mem_of_getElem? (i := 868) (by decide +kernel)⟩
theorem lw_p38 : lw_okq (⟨"PrimitiveBitsModel$Reals", "isRead", "(JJZ)Z"⟩, 26) := ⟨⟨by decide +kernel, by decide +kernel⟩, List.mem_of_getElem? (i := 577) (by decide +kernel), List.mem_of_getElem? (i := 872) (by decide +kernel), List.mem_of_getElem? (i := 873) (by decide +kernel)⟩
theorem lw_p39 : lw_okq (⟨"PrimitiveBitsModel$Reals", "above", "(JZ)I"⟩, 26) := ⟨⟨by decide +kernel, by decide +kernel⟩, List.mem_of_getElem? (i := 577) (by decide +kernel), List.mem_of_getElem? (i := 876) (by decide +kernel), List.mem_of_getElem? (i := 877) (by decide +kernel)⟩
theorem lw_p40 : lw_okq (⟨"PrimitiveBitsModel$Reals", "layDigits", "(JIII)V"⟩, 26) := ⟨⟨by decide +kernel, by decide +kernel⟩, List.mem_of_getElem? (i := 577) (by decide +kernel), List.mem_of_getElem? (i := 884) (by decide +kernel), List.mem_of_getElem? (i := 885) (by decide +kernel)⟩
theorem lw_p41 : lw_okq (⟨"PrimitiveBitsModel$Reals", "layNumber", "(I)V"⟩, 26) := ⟨⟨by decide +kernel, by decide +kernel⟩, List.mem_of_getElem? (i := 577) (by decide +kernel), List.mem_of_getElem? (i := 889) (by decide +kernel), List.mem_of_getElem? (i := 890) (by decide +kernel)⟩
theorem lw_p42 : lw_okq (⟨"PrimitiveBitsModel", "lay", "(I)V"⟩, 15) := ⟨⟨by decide +kernel, by decide +kernel⟩, List.mem_of_getElem? (i := 571) (by decide +kernel), List.mem_of_getElem? (i := 897) (by decide +kernel), List.mem_of_getElem? (i := 898) (by decide +kernel)⟩
def lw_privs_3 : List (MethodName × Nat) := [(⟨"PrimitiveBitsModel$Reals", "tens", "(JI)I"⟩, 26), (⟨"PrimitiveBitsModel$Reals", "scale", "(I)V"⟩, 26), (⟨"PrimitiveBitsModel$Reals", "compareDigits", "(JJI)I"⟩, 26), (⟨"PrimitiveBitsModel$Reals", "times", "([IIJ[I)I"⟩, 26), (⟨"PrimitiveBitsModel$Reals", "compare", "(JI)I"⟩, 26), (⟨"PrimitiveBitsModel$Reals", "most", "(JIJ)J"⟩, 26), (⟨"PrimitiveBitsModel$Reals", "isRead", "(JJZ)Z"⟩, 26), (⟨"PrimitiveBitsModel$Reals", "above", "(JZ)I"⟩, 26), (⟨"PrimitiveBitsModel$Reals", "layDigits", "(JIII)V"⟩, 26), (⟨"PrimitiveBitsModel$Reals", "layNumber", "(I)V"⟩, 26), (⟨"PrimitiveBitsModel", "lay", "(I)V"⟩, 15)]
theorem lw_r3 : ∀ q ∈ lw_privs_3, lw_okq q := List.forall_mem_cons.mpr ⟨lw_p32, List.forall_mem_cons.mpr ⟨lw_p33, List.forall_mem_cons.mpr ⟨lw_p34, List.forall_mem_cons.mpr ⟨lw_p35, List.forall_mem_cons.mpr ⟨lw_p36, List.forall_mem_cons.mpr ⟨lw_p37, List.forall_mem_cons.mpr ⟨lw_p38, List.forall_mem_cons.mpr ⟨lw_p39, List.forall_mem_cons.mpr ⟨lw_p40, List.forall_mem_cons.mpr ⟨lw_p41, List.forall_mem_cons.mpr ⟨lw_p42, fun _ h => absurd h List.not_mem_nil⟩⟩⟩⟩⟩⟩⟩⟩⟩⟩⟩
def lw_privs : List (MethodName × Nat) := lw_privs_1 ++ (lw_privs_2 ++ (lw_privs_3))
def lw_tbl : List Cond := k2_sels lw_privs ++ tables_1
theorem lw_privs_ok : ∀ q ∈ lw_privs, lw_okq q := by
  show ∀ q ∈ lw_privs_1 ++ (lw_privs_2 ++ (lw_privs_3)), lw_okq q
  exact List.forall_mem_append.mpr ⟨lw_r1, List.forall_mem_append.mpr ⟨lw_r2, lw_r3⟩⟩
/-! The good words of the tables: one list for all methods. -/
def BIG : List Cond := lw_tbl.filter goodWord
theorem bigGood : ∀ w ∈ BIG, (w.onTables && w.keeps) = true ∨ ∃ ty, w = .arrayClass ty := fun w h => good_of_word (List.mem_filter.mp h).2
theorem inT0 {w : Cond} (h : w ∈ k2_sels lw_privs) : w ∈ lw_tbl := List.mem_append_left _ h
theorem inT1 {w : Cond} (h : w ∈ tables_1_1) : w ∈ lw_tbl := List.mem_append_right _ (List.mem_append_left _ h)
theorem inT2 {w : Cond} (h : w ∈ tables_1_2) : w ∈ lw_tbl := List.mem_append_right _ (List.mem_append_right _ (List.mem_append_left _ h))
theorem inT3 {w : Cond} (h : w ∈ tables_1_3) : w ∈ lw_tbl := List.mem_append_right _ (List.mem_append_right _ (List.mem_append_right _ (List.mem_append_left _ h)))
theorem inT4 {w : Cond} (h : w ∈ tables_1_4) : w ∈ lw_tbl := List.mem_append_right _ (List.mem_append_right _ (List.mem_append_right _ (List.mem_append_right _ h)))
theorem bigIn : ∀ w ∈ BIG, w ∈ lw_tbl := fun w h => (List.mem_filter.mp h).1
end
section
/-! Names: classes, methods. -/
def R_PB : String := "PrimitiveBits"
def R_Real : String := "PrimitiveBits$Real"
def R_SD : String := "PrimitiveBits$ShortestDecimal"
def R_BW : String := "PrimitiveBits$BigWhole"
def R_Lt : String := "PrimitiveBits$Letters"
def R_Md : String := "PrimitiveBitsModel"
def R_Rs : String := "PrimitiveBitsModel$Reals"
def R_Lw : String := "PrimitiveBitsLaw"
def R_Ma : String := "java/lang/Math"
def y_PB_new : MethodName := ⟨R_PB, "<init>", "()V"⟩
abbrev b_PB_new : ByteArray := prog_1_method_1_code
def y_PB_binary : MethodName := ⟨R_PB, "binary", "(IJJI)J"⟩
abbrev b_PB_binary : ByteArray := prog_1_method_2_code
def y_PB_minus : MethodName := ⟨R_PB, "minus", "(JI)J"⟩
abbrev b_PB_minus : ByteArray := prog_1_method_3_code
def y_PB_cast : MethodName := ⟨R_PB, "cast", "(JII)J"⟩
abbrev b_PB_cast : ByteArray := prog_1_method_4_code
def y_PB_compare : MethodName := ⟨R_PB, "compare", "(JJI)I"⟩
abbrev b_PB_compare : ByteArray := prog_1_method_5_code
def y_PB_text : MethodName := ⟨R_PB, "text", "(JI)I"⟩
abbrev b_PB_text : ByteArray := prog_1_method_6_code
def y_PB_take : MethodName := ⟨R_PB, "take", "()J"⟩
abbrev b_PB_take : ByteArray := prog_1_method_7_code
def y_PB_isArithmetic : MethodName := ⟨R_PB, "isArithmetic", "(I)Z"⟩
abbrev b_PB_isArithmetic : ByteArray := prog_1_method_8_code
def y_PB_isWhole : MethodName := ⟨R_PB, "isWhole", "(I)Z"⟩
abbrev b_PB_isWhole : ByteArray := prog_1_method_9_code
def y_PB_lastOperator : MethodName := ⟨R_PB, "lastOperator", "(I)I"⟩
abbrev b_PB_lastOperator : ByteArray := prog_1_method_10_code
def y_PB_realOf : MethodName := ⟨R_PB, "realOf", "(I)LPrimitiveBits$Real;"⟩
abbrev b_PB_realOf : ByteArray := prog_1_method_11_code
def y_PB_wholeOf : MethodName := ⟨R_PB, "wholeOf", "(JI)J"⟩
abbrev b_PB_wholeOf : ByteArray := prog_1_method_12_code
def y_PB_order : MethodName := ⟨R_PB, "order", "(JJ)I"⟩
abbrev b_PB_order : ByteArray := prog_1_method_13_code
def y_PB_wholeResult : MethodName := ⟨R_PB, "wholeResult", "(IJJI)J"⟩
abbrev b_PB_wholeResult : ByteArray := prog_1_method_14_code
def y_PB_shiftedInt : MethodName := ⟨R_PB, "shiftedInt", "(III)J"⟩
abbrev b_PB_shiftedInt : ByteArray := prog_1_method_15_code
def y_PB_shiftedLong : MethodName := ⟨R_PB, "shiftedLong", "(IJI)J"⟩
abbrev b_PB_shiftedLong : ByteArray := prog_1_method_16_code
def y_PB_realResult : MethodName := ⟨R_PB, "realResult", "(IJJLPrimitiveBits$Real;)J"⟩
abbrev b_PB_realResult : ByteArray := prog_1_method_17_code
def y_PB_wholeFromReal : MethodName := ⟨R_PB, "wholeFromReal", "(JLPrimitiveBits$Real;I)J"⟩
abbrev b_PB_wholeFromReal : ByteArray := prog_1_method_18_code
def y_PB_putReal : MethodName := ⟨R_PB, "putReal", "(JLPrimitiveBits$Real;)V"⟩
abbrev b_PB_putReal : ByteArray := prog_1_method_19_code
def y_PB_leadingZeros : MethodName := ⟨R_PB, "leadingZeros", "(J)I"⟩
abbrev b_PB_leadingZeros : ByteArray := prog_1_method_20_code
def y_Real_nan : MethodName := ⟨R_Real, "nan", "()J"⟩
abbrev b_Real_nan : ByteArray := prog_4_method_4_code
def y_Real_isNegative : MethodName := ⟨R_Real, "isNegative", "(J)Z"⟩
abbrev b_Real_isNegative : ByteArray := prog_4_method_5_code
def y_Real_isNan : MethodName := ⟨R_Real, "isNan", "(J)Z"⟩
abbrev b_Real_isNan : ByteArray := prog_4_method_6_code
def y_Real_isInfinite : MethodName := ⟨R_Real, "isInfinite", "(J)Z"⟩
abbrev b_Real_isInfinite : ByteArray := prog_4_method_7_code
def y_Real_isZero : MethodName := ⟨R_Real, "isZero", "(J)Z"⟩
abbrev b_Real_isZero : ByteArray := prog_4_method_8_code
def y_Real_rank : MethodName := ⟨R_Real, "rank", "(J)J"⟩
abbrev b_Real_rank : ByteArray := prog_4_method_9_code
def y_Real_significand : MethodName := ⟨R_Real, "significand", "(J)J"⟩
abbrev b_Real_significand : ByteArray := prog_4_method_10_code
def y_Real_power : MethodName := ⟨R_Real, "power", "(J)I"⟩
abbrev b_Real_power : ByteArray := prog_4_method_11_code
def y_Real_isCloserBelow : MethodName := ⟨R_Real, "isCloserBelow", "(J)Z"⟩
abbrev b_Real_isCloserBelow : ByteArray := prog_4_method_12_code
def y_Real_negate : MethodName := ⟨R_Real, "negate", "(J)J"⟩
abbrev b_Real_negate : ByteArray := prog_4_method_13_code
def y_Real_sum : MethodName := ⟨R_Real, "sum", "(JJ)J"⟩
abbrev b_Real_sum : ByteArray := prog_4_method_14_code
def y_Real_product : MethodName := ⟨R_Real, "product", "(JJ)J"⟩
abbrev b_Real_product : ByteArray := prog_4_method_15_code
def y_Real_quotient : MethodName := ⟨R_Real, "quotient", "(JJ)J"⟩
abbrev b_Real_quotient : ByteArray := prog_4_method_16_code
def y_Real_remainder : MethodName := ⟨R_Real, "remainder", "(JJ)J"⟩
abbrev b_Real_remainder : ByteArray := prog_4_method_17_code
def y_Real_fromWhole : MethodName := ⟨R_Real, "fromWhole", "(J)J"⟩
abbrev b_Real_fromWhole : ByteArray := prog_4_method_18_code
def y_Real_fromReal : MethodName := ⟨R_Real, "fromReal", "(JLPrimitiveBits$Real;)J"⟩
abbrev b_Real_fromReal : ByteArray := prog_4_method_19_code
def y_Real_toLong : MethodName := ⟨R_Real, "toLong", "(J)J"⟩
abbrev b_Real_toLong : ByteArray := prog_4_method_20_code
def y_Real_magnitude : MethodName := ⟨R_Real, "magnitude", "(J)J"⟩
abbrev b_Real_magnitude : ByteArray := prog_4_method_21_code
def y_Real_exponent : MethodName := ⟨R_Real, "exponent", "(J)I"⟩
abbrev b_Real_exponent : ByteArray := prog_4_method_22_code
def y_Real_fraction : MethodName := ⟨R_Real, "fraction", "(J)J"⟩
abbrev b_Real_fraction : ByteArray := prog_4_method_23_code
def y_Real_signed : MethodName := ⟨R_Real, "signed", "(ZJ)J"⟩
abbrev b_Real_signed : ByteArray := prog_4_method_24_code
def y_Real_infiniteSum : MethodName := ⟨R_Real, "infiniteSum", "(JJ)J"⟩
abbrev b_Real_infiniteSum : ByteArray := prog_4_method_25_code
def y_Real_orderedSum : MethodName := ⟨R_Real, "orderedSum", "(JJ)J"⟩
abbrev b_Real_orderedSum : ByteArray := prog_4_method_26_code
def y_Real_shiftedDown : MethodName := ⟨R_Real, "shiftedDown", "(JI)J"⟩
abbrev b_Real_shiftedDown : ByteArray := prog_4_method_27_code
def y_Real_jammed : MethodName := ⟨R_Real, "jammed", "(JZ)J"⟩
abbrev b_Real_jammed : ByteArray := prog_4_method_28_code
def y_Real_aligned : MethodName := ⟨R_Real, "aligned", "(J)J"⟩
abbrev b_Real_aligned : ByteArray := prog_4_method_29_code
def y_Real_alignedPower : MethodName := ⟨R_Real, "alignedPower", "(J)I"⟩
abbrev b_Real_alignedPower : ByteArray := prog_4_method_30_code
def y_Real_alignment : MethodName := ⟨R_Real, "alignment", "(J)I"⟩
abbrev b_Real_alignment : ByteArray := prog_4_method_31_code
def y_Real_highProduct : MethodName := ⟨R_Real, "highProduct", "(JJ)J"⟩
abbrev b_Real_highProduct : ByteArray := prog_4_method_32_code
def y_Real_dividedSignificands : MethodName := ⟨R_Real, "dividedSignificands", "(JJ)J"⟩
abbrev b_Real_dividedSignificands : ByteArray := prog_4_method_33_code
def y_Real_rounded : MethodName := ⟨R_Real, "rounded", "(ZIJ)J"⟩
abbrev b_Real_rounded : ByteArray := prog_4_method_34_code
def y_Real_nearest : MethodName := ⟨R_Real, "nearest", "(JI)J"⟩
abbrev b_Real_nearest : ByteArray := prog_4_method_35_code
def y_SD_new : MethodName := ⟨R_SD, "<init>", "()V"⟩
abbrev b_SD_new : ByteArray := prog_5_method_1_code
def y_SD_digits : MethodName := ⟨R_SD, "digits", "()J"⟩
abbrev b_SD_digits : ByteArray := prog_5_method_2_code
def y_SD_power : MethodName := ⟨R_SD, "power", "()I"⟩
abbrev b_SD_power : ByteArray := prog_5_method_3_code
def y_SD_find : MethodName := ⟨R_SD, "find", "(JIZ)V"⟩
abbrev b_SD_find : ByteArray := prog_5_method_4_code
def y_SD_fewestDigits : MethodName := ⟨R_SD, "fewestDigits", "(JZJJ)J"⟩
abbrev b_SD_fewestDigits : ByteArray := prog_5_method_5_code
def y_SD_nearer : MethodName := ⟨R_SD, "nearer", "(JZJJ)J"⟩
abbrev b_SD_nearer : ByteArray := prog_5_method_6_code
def y_SD_dropZeros : MethodName := ⟨R_SD, "dropZeros", "()V"⟩
abbrev b_SD_dropZeros : ByteArray := prog_5_method_7_code
def y_BW_new : MethodName := ⟨R_BW, "<init>", "()V"⟩
abbrev b_BW_new : ByteArray := prog_2_method_1_code
def y_BW_floor : MethodName := ⟨R_BW, "floor", "(JII)J"⟩
abbrev b_BW_floor : ByteArray := prog_2_method_2_code
def y_BW_isExact : MethodName := ⟨R_BW, "isExact", "()Z"⟩
abbrev b_BW_isExact : ByteArray := prog_2_method_3_code
def y_BW_powerOfFive : MethodName := ⟨R_BW, "powerOfFive", "(I)J"⟩
abbrev b_BW_powerOfFive : ByteArray := prog_2_method_4_code
def y_BW_place : MethodName := ⟨R_BW, "place", "(JI)V"⟩
abbrev b_BW_place : ByteArray := prog_2_method_5_code
def y_BW_slice : MethodName := ⟨R_BW, "slice", "(JI)J"⟩
abbrev b_BW_slice : ByteArray := prog_2_method_6_code
def y_BW_multiply : MethodName := ⟨R_BW, "multiply", "(J)V"⟩
abbrev b_BW_multiply : ByteArray := prog_2_method_7_code
def y_BW_divide : MethodName := ⟨R_BW, "divide", "(J)V"⟩
abbrev b_BW_divide : ByteArray := prog_2_method_8_code
def y_BW_bitsFrom : MethodName := ⟨R_BW, "bitsFrom", "(I)J"⟩
abbrev b_BW_bitsFrom : ByteArray := prog_2_method_9_code
def y_Lt_new : MethodName := ⟨R_Lt, "<init>", "()V"⟩
abbrev b_Lt_new : ByteArray := prog_3_method_1_code
def y_Lt_clear : MethodName := ⟨R_Lt, "clear", "()V"⟩
abbrev b_Lt_clear : ByteArray := prog_3_method_2_code
def y_Lt_count : MethodName := ⟨R_Lt, "count", "()I"⟩
abbrev b_Lt_count : ByteArray := prog_3_method_3_code
def y_Lt_next : MethodName := ⟨R_Lt, "next", "(I)J"⟩
abbrev b_Lt_next : ByteArray := prog_3_method_4_code
def y_Lt_put_i : MethodName := ⟨R_Lt, "put", "(C)V"⟩
abbrev b_Lt_put_i : ByteArray := prog_3_method_5_code
def y_Lt_put_r : MethodName := ⟨R_Lt, "put", "(Ljava/lang/String;)V"⟩
abbrev b_Lt_put_r : ByteArray := prog_3_method_6_code
def y_Lt_putWhole : MethodName := ⟨R_Lt, "putWhole", "(J)V"⟩
abbrev b_Lt_putWhole : ByteArray := prog_3_method_7_code
def y_Lt_putDecimal : MethodName := ⟨R_Lt, "putDecimal", "(JI)V"⟩
abbrev b_Lt_putDecimal : ByteArray := prog_3_method_8_code
def y_Lt_putPointed : MethodName := ⟨R_Lt, "putPointed", "(JII)V"⟩
abbrev b_Lt_putPointed : ByteArray := prog_3_method_9_code
def y_Lt_putDigits : MethodName := ⟨R_Lt, "putDigits", "(JI)V"⟩
abbrev b_Lt_putDigits : ByteArray := prog_3_method_10_code
def y_Lt_digitCount : MethodName := ⟨R_Lt, "digitCount", "(J)I"⟩
abbrev b_Lt_digitCount : ByteArray := prog_3_method_11_code
def y_Lt_powerOfTen : MethodName := ⟨R_Lt, "powerOfTen", "(I)J"⟩
abbrev b_Lt_powerOfTen : ByteArray := prog_3_method_12_code
def y_Md_new : MethodName := ⟨R_Md, "<init>", "()V"⟩
abbrev b_Md_new : ByteArray := prog_7_method_1_code
def y_Md_thrown : MethodName := ⟨R_Md, "thrown", "()I"⟩
abbrev b_Md_thrown : ByteArray := prog_7_method_2_code
def y_Md_fails : MethodName := ⟨R_Md, "fails", "(I)J"⟩
abbrev b_Md_fails : ByteArray := prog_7_method_3_code
def y_Md_nan : MethodName := ⟨R_Md, "nan", "(Z)J"⟩
abbrev b_Md_nan : ByteArray := prog_7_method_4_code
def y_Md_far : MethodName := ⟨R_Md, "far", "(ZZ)J"⟩
abbrev b_Md_far : ByteArray := prog_7_method_5_code
def y_Md_sign : MethodName := ⟨R_Md, "sign", "(ZZ)J"⟩
abbrev b_Md_sign : ByteArray := prog_7_method_6_code
def y_Md_apart : MethodName := ⟨R_Md, "apart", "(JZZ)V"⟩
abbrev b_Md_apart : ByteArray := prog_7_method_7_code
def y_Md_length : MethodName := ⟨R_Md, "length", "(J)I"⟩
abbrev b_Md_length : ByteArray := prog_7_method_8_code
def y_Md_round : MethodName := ⟨R_Md, "round", "(ZJIZZ)J"⟩
abbrev b_Md_round : ByteArray := prog_7_method_9_code
def y_Md_add : MethodName := ⟨R_Md, "add", "(Z)J"⟩
abbrev b_Md_add : ByteArray := prog_7_method_10_code
def y_Md_times : MethodName := ⟨R_Md, "times", "(Z)J"⟩
abbrev b_Md_times : ByteArray := prog_7_method_11_code
def y_Md_over : MethodName := ⟨R_Md, "over", "(Z)J"⟩
abbrev b_Md_over : ByteArray := prog_7_method_12_code
def y_Md_rest : MethodName := ⟨R_Md, "rest", "(Z)J"⟩
abbrev b_Md_rest : ByteArray := prog_7_method_13_code
def y_Md_broken : MethodName := ⟨R_Md, "broken", "(IJJZ)J"⟩
abbrev b_Md_broken : ByteArray := prog_7_method_14_code
def y_Md_cut : MethodName := ⟨R_Md, "cut", "(JI)J"⟩
abbrev b_Md_cut : ByteArray := prog_7_method_15_code
def y_Md_whole : MethodName := ⟨R_Md, "whole", "(IJJI)J"⟩
abbrev b_Md_whole : ByteArray := prog_7_method_16_code
def y_Md_binary : MethodName := ⟨R_Md, "binary", "(IJJI)J"⟩
abbrev b_Md_binary : ByteArray := prog_7_method_17_code
def y_Md_minus : MethodName := ⟨R_Md, "minus", "(JI)J"⟩
abbrev b_Md_minus : ByteArray := prog_7_method_18_code
def y_Md_towards : MethodName := ⟨R_Md, "towards", "(Z)J"⟩
abbrev b_Md_towards : ByteArray := prog_7_method_19_code
def y_Md_cast : MethodName := ⟨R_Md, "cast", "(JII)J"⟩
abbrev b_Md_cast : ByteArray := prog_7_method_20_code
def y_Md_compare : MethodName := ⟨R_Md, "compare", "(JJI)I"⟩
abbrev b_Md_compare : ByteArray := prog_7_method_21_code
def y_Md_lay : MethodName := ⟨R_Md, "lay", "(I)V"⟩
abbrev b_Md_lay : ByteArray := prog_7_method_22_code
def y_Md_text : MethodName := ⟨R_Md, "text", "(JI)I"⟩
abbrev b_Md_text : ByteArray := prog_7_method_23_code
def y_Md_take : MethodName := ⟨R_Md, "take", "()J"⟩
abbrev b_Md_take : ByteArray := prog_7_method_24_code
def y_Rs_new : MethodName := ⟨R_Rs, "<init>", "()V"⟩
abbrev b_Rs_new : ByteArray := prog_8_method_1_code
def y_Rs_in : MethodName := ⟨R_Rs, "in", "(III)Z"⟩
abbrev b_Rs_in : ByteArray := prog_8_method_3_code
def y_Rs_trimmed : MethodName := ⟨R_Rs, "trimmed", "([II)I"⟩
abbrev b_Rs_trimmed : ByteArray := prog_8_method_6_code
def y_Rs_grow : MethodName := ⟨R_Rs, "grow", "([IIII)I"⟩
abbrev b_Rs_grow : ByteArray := prog_8_method_7_code
def y_Rs_fives : MethodName := ⟨R_Rs, "fives", "([III)I"⟩
abbrev b_Rs_fives : ByteArray := prog_8_method_8_code
def y_Rs_set : MethodName := ⟨R_Rs, "set", "([IJ)I"⟩
abbrev b_Rs_set : ByteArray := prog_8_method_9_code
def y_Rs_shifted : MethodName := ⟨R_Rs, "shifted", "([III)I"⟩
abbrev b_Rs_shifted : ByteArray := prog_8_method_10_code
def y_Rs_times : MethodName := ⟨R_Rs, "times", "([IIJ[I)I"⟩
abbrev b_Rs_times : ByteArray := prog_8_method_11_code
def y_Rs_compare : MethodName := ⟨R_Rs, "compare", "(JI)I"⟩
abbrev b_Rs_compare : ByteArray := prog_8_method_12_code
def y_Rs_mantissa : MethodName := ⟨R_Rs, "mantissa", "(JZ)J"⟩
abbrev b_Rs_mantissa : ByteArray := prog_8_method_13_code
def y_Rs_exponent : MethodName := ⟨R_Rs, "exponent", "(JZ)I"⟩
abbrev b_Rs_exponent : ByteArray := prog_8_method_14_code
def y_Rs_greatest : MethodName := ⟨R_Rs, "greatest", "(Z)J"⟩
abbrev b_Rs_greatest : ByteArray := prog_8_method_15_code
def y_Rs_above : MethodName := ⟨R_Rs, "above", "(JZ)I"⟩
abbrev b_Rs_above : ByteArray := prog_8_method_16_code
def y_Rs_lay : MethodName := ⟨R_Rs, "lay", "(I)V"⟩
abbrev b_Rs_lay : ByteArray := prog_8_method_26_code
def y_Rs_scale : MethodName := ⟨R_Rs, "scale", "(I)V"⟩
abbrev b_Rs_scale : ByteArray := prog_8_method_27_code
def y_Rs_compareDigits : MethodName := ⟨R_Rs, "compareDigits", "(JJI)I"⟩
abbrev b_Rs_compareDigits : ByteArray := prog_8_method_28_code
def y_Rs_tens : MethodName := ⟨R_Rs, "tens", "(JI)I"⟩
abbrev b_Rs_tens : ByteArray := prog_8_method_29_code
def y_Rs_isRead : MethodName := ⟨R_Rs, "isRead", "(JJZ)Z"⟩
abbrev b_Rs_isRead : ByteArray := prog_8_method_30_code
def y_Rs_most : MethodName := ⟨R_Rs, "most", "(JIJ)J"⟩
abbrev b_Rs_most : ByteArray := prog_8_method_31_code
def y_Rs_shortest : MethodName := ⟨R_Rs, "shortest", "(JZ)J"⟩
abbrev b_Rs_shortest : ByteArray := prog_8_method_32_code
def y_Rs_layDigits : MethodName := ⟨R_Rs, "layDigits", "(JIII)V"⟩
abbrev b_Rs_layDigits : ByteArray := prog_8_method_33_code
def y_Rs_layNumber : MethodName := ⟨R_Rs, "layNumber", "(I)V"⟩
abbrev b_Rs_layNumber : ByteArray := prog_8_method_34_code
def y_Rs_layDecimal : MethodName := ⟨R_Rs, "layDecimal", "(JZ)V"⟩
abbrev b_Rs_layDecimal : ByteArray := prog_8_method_35_code
def y_Rs_layWord : MethodName := ⟨R_Rs, "layWord", "(JI)V"⟩
abbrev b_Rs_layWord : ByteArray := prog_8_method_36_code
def y_Rs_write : MethodName := ⟨R_Rs, "write", "(JZ)I"⟩
abbrev b_Rs_write : ByteArray := prog_8_method_37_code
def y_Rs_letter : MethodName := ⟨R_Rs, "letter", "(I)I"⟩
abbrev b_Rs_letter : ByteArray := prog_8_method_42_code
def y_Ma_max : MethodName := ⟨R_Ma, "max", "(JJ)J"⟩
abbrev b_Ma_max : ByteArray := prog_13_method_66_code
def y_Ma_min : MethodName := ⟨R_Ma, "min", "(JJ)J"⟩
abbrev b_Ma_min : ByteArray := prog_13_method_70_code
def T_PB : u_T := fun k => match k with
  | 0 => (R_PB, "letters", "LPrimitiveBits$Letters;", true)
  | _ => (R_PB, "shortest", "LPrimitiveBits$ShortestDecimal;", true)
def ty_PB : Nat → FieldType := fun k => match k with
  | 0 => .object "PrimitiveBits$Letters"
  | _ => .object "PrimitiveBits$ShortestDecimal"
theorem nm_PB : ∀ a, a < 2 → ∀ b, b < 2 → a ≠ b → (T_PB a).2.1 ≠ (T_PB b).2.1 := by decide +kernel
theorem tyok_PB : ∀ k, k < 2 → parseFieldDescriptor (T_PB k).2.2.1 = some (ty_PB k) := by decide +kernel
theorem in_PB : ∀ w ∈ u_ws R_PB T_PB 2, w ∈ BIG := by
  intro w hw
  have h : (u_ws R_PB T_PB 2).all (fun w => decide (w ∈ lw_tbl) && goodWord w) = true := by decide +kernel
  have h1 := List.all_eq_true.mp h w hw
  simp only [Bool.and_eq_true, decide_eq_true_eq] at h1
  exact List.mem_filter.mpr ⟨h1.1, h1.2⟩
def T_Lt : u_T := fun k => match k with
  | 0 => (R_Lt, "row", "[C", true)
  | 1 => (R_Lt, "length", "I", false)
  | _ => (R_Lt, "taken", "I", false)
def ty_Lt : Nat → FieldType := fun k => match k with
  | 0 => .array .char
  | 1 => .int
  | _ => .int
theorem nm_Lt : ∀ a, a < 3 → ∀ b, b < 3 → a ≠ b → (T_Lt a).2.1 ≠ (T_Lt b).2.1 := by decide +kernel
theorem tyok_Lt : ∀ k, k < 3 → parseFieldDescriptor (T_Lt k).2.2.1 = some (ty_Lt k) := by decide +kernel
theorem in_Lt : ∀ w ∈ u_ws R_Lt T_Lt 3, w ∈ BIG := by
  intro w hw
  have h : (u_ws R_Lt T_Lt 3).all (fun w => decide (w ∈ lw_tbl) && goodWord w) = true := by decide +kernel
  have h1 := List.all_eq_true.mp h w hw
  simp only [Bool.and_eq_true, decide_eq_true_eq] at h1
  exact List.mem_filter.mpr ⟨h1.1, h1.2⟩
def T_SD : u_T := fun k => match k with
  | 0 => (R_SD, "big", "LPrimitiveBits$BigWhole;", true)
  | 1 => (R_SD, "digits", "J", false)
  | _ => (R_SD, "power", "I", false)
def ty_SD : Nat → FieldType := fun k => match k with
  | 0 => .object "PrimitiveBits$BigWhole"
  | 1 => .long
  | _ => .int
theorem nm_SD : ∀ a, a < 3 → ∀ b, b < 3 → a ≠ b → (T_SD a).2.1 ≠ (T_SD b).2.1 := by decide +kernel
theorem tyok_SD : ∀ k, k < 3 → parseFieldDescriptor (T_SD k).2.2.1 = some (ty_SD k) := by decide +kernel
theorem in_SD : ∀ w ∈ u_ws R_SD T_SD 3, w ∈ BIG := by
  intro w hw
  have h : (u_ws R_SD T_SD 3).all (fun w => decide (w ∈ lw_tbl) && goodWord w) = true := by decide +kernel
  have h1 := List.all_eq_true.mp h w hw
  simp only [Bool.and_eq_true, decide_eq_true_eq] at h1
  exact List.mem_filter.mpr ⟨h1.1, h1.2⟩
def T_BW : u_T := fun k => match k with
  | 0 => (R_BW, "limbs", "[J", true)
  | 1 => (R_BW, "used", "I", false)
  | _ => (R_BW, "lost", "Z", false)
def ty_BW : Nat → FieldType := fun k => match k with
  | 0 => .array .long
  | 1 => .int
  | _ => .boolean
theorem nm_BW : ∀ a, a < 3 → ∀ b, b < 3 → a ≠ b → (T_BW a).2.1 ≠ (T_BW b).2.1 := by decide +kernel
theorem tyok_BW : ∀ k, k < 3 → parseFieldDescriptor (T_BW k).2.2.1 = some (ty_BW k) := by decide +kernel
theorem in_BW : ∀ w ∈ u_ws R_BW T_BW 3, w ∈ BIG := by
  intro w hw
  have h : (u_ws R_BW T_BW 3).all (fun w => decide (w ∈ lw_tbl) && goodWord w) = true := by decide +kernel
  have h1 := List.all_eq_true.mp h w hw
  simp only [Bool.and_eq_true, decide_eq_true_eq] at h1
  exact List.mem_filter.mpr ⟨h1.1, h1.2⟩
def T_Md : u_T := fun k => match k with
  | 0 => (R_Md, "reals", "LPrimitiveBitsModel$Reals;", true)
  | 1 => (R_Md, "letters", "[I", true)
  | 2 => (R_Md, "laid", "I", false)
  | 3 => (R_Md, "gone", "I", false)
  | 4 => (R_Md, "thrown", "I", false)
  | 5 => (R_Md, "m1", "J", false)
  | 6 => (R_Md, "m2", "J", false)
  | 7 => (R_Md, "e1", "I", false)
  | 8 => (R_Md, "e2", "I", false)
  | 9 => (R_Md, "minus1", "Z", false)
  | 10 => (R_Md, "minus2", "Z", false)
  | 11 => (R_Md, "nan1", "Z", false)
  | 12 => (R_Md, "nan2", "Z", false)
  | 13 => (R_Md, "far1", "Z", false)
  | _ => (R_Md, "far2", "Z", false)
def ty_Md : Nat → FieldType := fun k => match k with
  | 0 => .object "PrimitiveBitsModel$Reals"
  | 1 => .array .int
  | 2 => .int
  | 3 => .int
  | 4 => .int
  | 5 => .long
  | 6 => .long
  | 7 => .int
  | 8 => .int
  | 9 => .boolean
  | 10 => .boolean
  | 11 => .boolean
  | 12 => .boolean
  | 13 => .boolean
  | _ => .boolean
theorem nm_Md : ∀ a, a < 15 → ∀ b, b < 15 → a ≠ b → (T_Md a).2.1 ≠ (T_Md b).2.1 := by decide +kernel
theorem tyok_Md : ∀ k, k < 15 → parseFieldDescriptor (T_Md k).2.2.1 = some (ty_Md k) := by decide +kernel
theorem in_Md : ∀ w ∈ u_ws R_Md T_Md 15, w ∈ BIG := by
  intro w hw
  have h : (u_ws R_Md T_Md 15).all (fun w => decide (w ∈ lw_tbl) && goodWord w) = true := by decide +kernel
  have h1 := List.all_eq_true.mp h w hw
  simp only [Bool.and_eq_true, decide_eq_true_eq] at h1
  exact List.mem_filter.mpr ⟨h1.1, h1.2⟩
def T_Rs : u_T := fun k => match k with
  | 0 => (R_Rs, "text", "[I", true)
  | 1 => (R_Rs, "written", "[I", true)
  | 2 => (R_Rs, "length", "I", false)
  | 3 => (R_Rs, "laid", "I", false)
  | 4 => (R_Rs, "gone", "I", false)
  | 5 => (R_Rs, "thrown", "I", false)
  | 6 => (R_Rs, "were", "I", false)
  | 7 => (R_Rs, "none", "I", false)
  | 8 => (R_Rs, "beyond", "I", false)
  | 9 => (R_Rs, "a", "[I", true)
  | 10 => (R_Rs, "b", "[I", true)
  | 11 => (R_Rs, "five", "[I", true)
  | 12 => (R_Rs, "left", "[I", true)
  | 13 => (R_Rs, "right", "[I", true)
  | 14 => (R_Rs, "part", "[I", true)
  | 15 => (R_Rs, "aMany", "I", false)
  | 16 => (R_Rs, "bMany", "I", false)
  | 17 => (R_Rs, "fiveMany", "I", false)
  | 18 => (R_Rs, "leftMany", "I", false)
  | 19 => (R_Rs, "rightMany", "I", false)
  | 20 => (R_Rs, "partMany", "I", false)
  | 21 => (R_Rs, "twos", "I", false)
  | 22 => (R_Rs, "at", "I", false)
  | 23 => (R_Rs, "digits", "I", false)
  | 24 => (R_Rs, "power", "I", false)
  | _ => (R_Rs, "good", "Z", false)
def ty_Rs : Nat → FieldType := fun k => match k with
  | 0 => .array .int
  | 1 => .array .int
  | 2 => .int
  | 3 => .int
  | 4 => .int
  | 5 => .int
  | 6 => .int
  | 7 => .int
  | 8 => .int
  | 9 => .array .int
  | 10 => .array .int
  | 11 => .array .int
  | 12 => .array .int
  | 13 => .array .int
  | 14 => .array .int
  | 15 => .int
  | 16 => .int
  | 17 => .int
  | 18 => .int
  | 19 => .int
  | 20 => .int
  | 21 => .int
  | 22 => .int
  | 23 => .int
  | 24 => .int
  | _ => .boolean
theorem nm_Rs : ∀ a, a < 26 → ∀ b, b < 26 → a ≠ b → (T_Rs a).2.1 ≠ (T_Rs b).2.1 := by decide +kernel
theorem tyok_Rs : ∀ k, k < 26 → parseFieldDescriptor (T_Rs k).2.2.1 = some (ty_Rs k) := by decide +kernel
theorem in_Rs : ∀ w ∈ u_ws R_Rs T_Rs 26, w ∈ BIG := by
  intro w hw
  have h : (u_ws R_Rs T_Rs 26).all (fun w => decide (w ∈ lw_tbl) && goodWord w) = true := by decide +kernel
  have h1 := List.all_eq_true.mp h w hw
  simp only [Bool.and_eq_true, decide_eq_true_eq] at h1
  exact List.mem_filter.mpr ⟨h1.1, h1.2⟩
abbrev cls : List vw_C := [(R_PB, T_PB, 2), (R_Lt, T_Lt, 3), (R_SD, T_SD, 3), (R_BW, T_BW, 3), (R_Md, T_Md, 15), (R_Rs, T_Rs, 26)]
abbrev tysV (cI cL cC : ClassId) : List (ClassId × FieldType) := [(cI, .int), (cL, .long), (cC, .char)]
abbrev gC (cI cL cC : ClassId) (ad : Nat → Nat) (X : va_W) (len : Int32) (tk : Int32) (row : Nat → Int32) (dig : Int64) (pw : Int32) (used : Int32) (lost : Int32) (lim : Nat → Int64) : va_W := (ad 0, .inr (0, [.ref (ad 1), .ref (ad 3)])) :: (ad 1, .inr (1, [.ref (ad 2), .int len, .int tk])) :: (ad 2, .inl (cC, 32, .inl row)) :: (ad 3, .inr (2, [.ref (ad 4), .long dig, .int pw])) :: (ad 4, .inr (3, [.ref (ad 5), .int used, .int lost])) :: (ad 5, .inl (cL, 36, .inr (.inl lim))) :: X
abbrev gM (cI cL cC : ClassId) (ad : Nat → Nat) (X : va_W) (laid : Int32) (gone : Int32) (thr : Int32) (m1 : Int64) (m2 : Int64) (e1 : Int32) (e2 : Int32) (mi1 : Int32) (mi2 : Int32) (na1 : Int32) (na2 : Int32) (fa1 : Int32) (fa2 : Int32) (lets : Nat → Int32) (rlen : Int32) (rlaid : Int32) (rgone : Int32) (rthr : Int32) (were : Int32) (none_ : Int32) (beyo : Int32) (aN : Int32) (bN : Int32) (fN : Int32) (lN_ : Int32) (rN : Int32) (pN : Int32) (twos : Int32) (at_ : Int32) (rdig : Int32) (rpow : Int32) (good : Int32) (txt : Nat → Int32) (wri : Nat → Int32) (ra : Nat → Int32) (rb : Nat → Int32) (rfive : Nat → Int32) (rleft : Nat → Int32) (rright : Nat → Int32) (rpart : Nat → Int32) : va_W := (ad 0, .inr (4, [.ref (ad 2), .ref (ad 1), .int laid, .int gone, .int thr, .long m1, .long m2, .int e1, .int e2, .int mi1, .int mi2, .int na1, .int na2, .int fa1, .int fa2])) :: (ad 1, .inl (cI, 40, .inl lets)) :: (ad 2, .inr (5, [.ref (ad 3), .ref (ad 4), .int rlen, .int rlaid, .int rgone, .int rthr, .int were, .int none_, .int beyo, .ref (ad 5), .ref (ad 6), .ref (ad 7), .ref (ad 8), .ref (ad 9), .ref (ad 10), .int aN, .int bN, .int fN, .int lN_, .int rN, .int pN, .int twos, .int at_, .int rdig, .int rpow, .int good])) :: (ad 3, .inl (cI, 1200, .inl txt)) :: (ad 4, .inl (cI, 40, .inl wri)) :: (ad 5, .inl (cI, 520, .inl ra)) :: (ad 6, .inl (cI, 520, .inl rb)) :: (ad 7, .inl (cI, 520, .inl rfive)) :: (ad 8, .inl (cI, 520, .inl rleft)) :: (ad 9, .inl (cI, 520, .inl rright)) :: (ad 10, .inl (cI, 520, .inl rpart)) :: X
abbrev nw_Real : Cond := .methodLinkNest R_Real 135 y_PB_leadingZeros R_PB
abbrev nw_SD : Cond := .methodLinkNest R_SD 24 y_PB_leadingZeros R_PB
end
section
theorem m_0 : (.code y_PB_isWhole b_PB_isWhole 1 (some .boolean) : Cond) ∈ BIG := List.mem_filter.mpr ⟨inT1 (List.mem_of_getElem? (i := 109) rfl), by rfl⟩
theorem m_1 : (.methodLink R_PB 38 y_PB_isWhole : Cond) ∈ BIG := List.mem_filter.mpr ⟨inT1 (List.mem_of_getElem? (i := 107) (by decide +kernel)), by rfl⟩
theorem m_2 : (.static y_PB_isWhole : Cond) ∈ BIG := List.mem_filter.mpr ⟨inT1 (List.mem_of_getElem? (i := 108) (by decide +kernel)), by rfl⟩
theorem m_3 : (.initialized R_PB : Cond) ∈ BIG := List.mem_filter.mpr ⟨inT1 (List.mem_of_getElem? (i := 1) (by decide +kernel)), by rfl⟩
theorem m_4 : (.fieldLink R_Real 45 R_Real "infinity" "J" : Cond) ∈ BIG := List.mem_filter.mpr ⟨inT4 (List.mem_of_getElem? (i := 191) (by decide +kernel)), by rfl⟩
theorem m_5 : (.fieldLink R_Real 31 R_Real "fractionBits" "I" : Cond) ∈ BIG := List.mem_filter.mpr ⟨inT4 (List.mem_of_getElem? (i := 192) (by decide +kernel)), by rfl⟩
theorem m_6 : (.fieldLink R_Real 41 R_Real "signBit" "J" : Cond) ∈ BIG := List.mem_filter.mpr ⟨inT4 (List.mem_of_getElem? (i := 190) (by decide +kernel)), by rfl⟩
theorem m_7 : (.code y_Real_magnitude b_Real_magnitude 3 (some .long) : Cond) ∈ BIG := List.mem_filter.mpr ⟨inT1 (List.mem_of_getElem? (i := 223) rfl), by rfl⟩
theorem m_8 : (.methodLink R_Real 48 y_Real_magnitude : Cond) ∈ BIG := List.mem_filter.mpr ⟨inT1 (List.mem_of_getElem? (i := 219) (by decide +kernel)), by rfl⟩
theorem m_9 : (.instanceMethod y_Real_magnitude : Cond) ∈ BIG := List.mem_filter.mpr ⟨inT1 (List.mem_of_getElem? (i := 221) (by decide +kernel)), by rfl⟩
theorem m_10 : (.selects R_Real y_Real_magnitude y_Real_magnitude : Cond) ∈ BIG := List.mem_filter.mpr ⟨inT0 (List.mem_of_getElem? (i := 1) (by decide +kernel)), by rfl⟩
theorem m_11 : (.initialized R_Real : Cond) ∈ BIG := List.mem_filter.mpr ⟨inT1 (List.mem_of_getElem? (i := 13) (by decide +kernel)), by rfl⟩
theorem m_12 : (.code y_Real_isNegative b_Real_isNegative 3 (some .boolean) : Cond) ∈ BIG := List.mem_filter.mpr ⟨inT2 (List.mem_of_getElem? (i := 3) rfl), by rfl⟩
theorem m_13 : (.methodLink R_Real 52 y_Real_isNegative : Cond) ∈ BIG := List.mem_filter.mpr ⟨inT2 (List.mem_of_getElem? (i := 0) (by decide +kernel)), by rfl⟩
theorem m_14 : (.instanceMethod y_Real_isNegative : Cond) ∈ BIG := List.mem_filter.mpr ⟨inT2 (List.mem_of_getElem? (i := 1) (by decide +kernel)), by rfl⟩
theorem m_15 : (.selects R_Real y_Real_isNegative y_Real_isNegative : Cond) ∈ BIG := List.mem_filter.mpr ⟨inT2 (List.mem_of_getElem? (i := 2) (by decide +kernel)), by rfl⟩
theorem m_16 : (.fieldLink R_Real 35 R_Real "topExponent" "I" : Cond) ∈ BIG := List.mem_filter.mpr ⟨inT4 (List.mem_of_getElem? (i := 193) (by decide +kernel)), by rfl⟩
theorem m_17 : (.code y_Real_exponent b_Real_exponent 3 (some .int) : Cond) ∈ BIG := List.mem_filter.mpr ⟨inT2 (List.mem_of_getElem? (i := 20) rfl), by rfl⟩
theorem m_18 : (.methodLink R_Real 56 y_Real_exponent : Cond) ∈ BIG := List.mem_filter.mpr ⟨inT2 (List.mem_of_getElem? (i := 17) (by decide +kernel)), by rfl⟩
theorem m_19 : (.instanceMethod y_Real_exponent : Cond) ∈ BIG := List.mem_filter.mpr ⟨inT2 (List.mem_of_getElem? (i := 19) (by decide +kernel)), by rfl⟩
theorem m_20 : (.selects R_Real y_Real_exponent y_Real_exponent : Cond) ∈ BIG := List.mem_filter.mpr ⟨inT0 (List.mem_of_getElem? (i := 5) (by decide +kernel)), by rfl⟩
theorem m_21 : (.code y_Real_fraction b_Real_fraction 3 (some .long) : Cond) ∈ BIG := List.mem_filter.mpr ⟨inT2 (List.mem_of_getElem? (i := 24) rfl), by rfl⟩
theorem m_22 : (.methodLink R_Real 60 y_Real_fraction : Cond) ∈ BIG := List.mem_filter.mpr ⟨inT2 (List.mem_of_getElem? (i := 21) (by decide +kernel)), by rfl⟩
theorem m_23 : (.instanceMethod y_Real_fraction : Cond) ∈ BIG := List.mem_filter.mpr ⟨inT2 (List.mem_of_getElem? (i := 23) (by decide +kernel)), by rfl⟩
theorem m_24 : (.selects R_Real y_Real_fraction y_Real_fraction : Cond) ∈ BIG := List.mem_filter.mpr ⟨inT0 (List.mem_of_getElem? (i := 6) (by decide +kernel)), by rfl⟩
theorem m_25 : (.fieldLink R_Real 38 R_Real "lowestPower" "I" : Cond) ∈ BIG := List.mem_filter.mpr ⟨inT4 (List.mem_of_getElem? (i := 194) (by decide +kernel)), by rfl⟩
theorem m_26 : (.methodLink R_Real 63 Lib.Math.max.name : Cond) ∈ BIG := List.mem_filter.mpr ⟨inT2 (List.mem_of_getElem? (i := 29) (by decide +kernel)), by rfl⟩
theorem m_27 : (.static Lib.Math.max.name : Cond) ∈ BIG := List.mem_filter.mpr ⟨inT2 (List.mem_of_getElem? (i := 30) (by decide +kernel)), by rfl⟩
theorem m_28 : (.initialized "java/lang/Math" : Cond) ∈ BIG := List.mem_filter.mpr ⟨inT1 (List.mem_of_getElem? (i := 14) (by decide +kernel)), by rfl⟩
theorem m_29 : (.code Lib.Math.max.name Lib.Math.max.code 2 (some .int) : Cond) ∈ BIG := List.mem_filter.mpr ⟨inT2 (List.mem_of_getElem? (i := 31) rfl), by rfl⟩
theorem m_30 : (.code y_Real_isNan b_Real_isNan 3 (some .boolean) : Cond) ∈ BIG := List.mem_filter.mpr ⟨inT1 (List.mem_of_getElem? (i := 218) rfl), by rfl⟩
theorem m_31 : (.methodLink R_Real 69 y_Real_isNan : Cond) ∈ BIG := List.mem_filter.mpr ⟨inT2 (List.mem_of_getElem? (i := 52) (by decide +kernel)), by rfl⟩
theorem m_32 : (.instanceMethod y_Real_isNan : Cond) ∈ BIG := List.mem_filter.mpr ⟨inT1 (List.mem_of_getElem? (i := 216) (by decide +kernel)), by rfl⟩
theorem m_33 : (.selects R_Real y_Real_isNan y_Real_isNan : Cond) ∈ BIG := List.mem_filter.mpr ⟨inT1 (List.mem_of_getElem? (i := 217) (by decide +kernel)), by rfl⟩
theorem m_34 : (.code y_Real_signed b_Real_signed 4 (some .long) : Cond) ∈ BIG := List.mem_filter.mpr ⟨inT2 (List.mem_of_getElem? (i := 8) rfl), by rfl⟩
theorem m_35 : (.methodLink R_Real 76 y_Real_signed : Cond) ∈ BIG := List.mem_filter.mpr ⟨inT2 (List.mem_of_getElem? (i := 5) (by decide +kernel)), by rfl⟩
theorem m_36 : (.instanceMethod y_Real_signed : Cond) ∈ BIG := List.mem_filter.mpr ⟨inT2 (List.mem_of_getElem? (i := 7) (by decide +kernel)), by rfl⟩
theorem m_37 : (.selects R_Real y_Real_signed y_Real_signed : Cond) ∈ BIG := List.mem_filter.mpr ⟨inT0 (List.mem_of_getElem? (i := 3) (by decide +kernel)), by rfl⟩
theorem m_38 : (.code y_Real_nan b_Real_nan 1 (some .long) : Cond) ∈ BIG := List.mem_filter.mpr ⟨inT1 (List.mem_of_getElem? (i := 227) rfl), by rfl⟩
theorem m_39 : (.methodLink R_Real 72 y_Real_nan : Cond) ∈ BIG := List.mem_filter.mpr ⟨inT2 (List.mem_of_getElem? (i := 4) (by decide +kernel)), by rfl⟩
theorem m_40 : (.instanceMethod y_Real_nan : Cond) ∈ BIG := List.mem_filter.mpr ⟨inT1 (List.mem_of_getElem? (i := 225) (by decide +kernel)), by rfl⟩
theorem m_41 : (.selects R_Real y_Real_nan y_Real_nan : Cond) ∈ BIG := List.mem_filter.mpr ⟨inT1 (List.mem_of_getElem? (i := 226) (by decide +kernel)), by rfl⟩
theorem m_42 : (.code y_Real_isInfinite b_Real_isInfinite 3 (some .boolean) : Cond) ∈ BIG := List.mem_filter.mpr ⟨inT1 (List.mem_of_getElem? (i := 235) rfl), by rfl⟩
theorem m_43 : (.methodLink R_Real 80 y_Real_isInfinite : Cond) ∈ BIG := List.mem_filter.mpr ⟨inT1 (List.mem_of_getElem? (i := 232) (by decide +kernel)), by rfl⟩
theorem m_44 : (.instanceMethod y_Real_isInfinite : Cond) ∈ BIG := List.mem_filter.mpr ⟨inT1 (List.mem_of_getElem? (i := 233) (by decide +kernel)), by rfl⟩
theorem m_45 : (.selects R_Real y_Real_isInfinite y_Real_isInfinite : Cond) ∈ BIG := List.mem_filter.mpr ⟨inT1 (List.mem_of_getElem? (i := 234) (by decide +kernel)), by rfl⟩
theorem m_46 : (.code y_Real_jammed b_Real_jammed 3 (some .long) : Cond) ∈ BIG := List.mem_filter.mpr ⟨inT2 (List.mem_of_getElem? (i := 37) rfl), by rfl⟩
theorem m_47 : (.methodLink R_Real 99 y_Real_jammed : Cond) ∈ BIG := List.mem_filter.mpr ⟨inT2 (List.mem_of_getElem? (i := 35) (by decide +kernel)), by rfl⟩
theorem m_48 : (.static y_Real_jammed : Cond) ∈ BIG := List.mem_filter.mpr ⟨inT2 (List.mem_of_getElem? (i := 36) (by decide +kernel)), by rfl⟩
theorem m_49 : (.code y_PB_leadingZeros b_PB_leadingZeros 6 (some .int) : Cond) ∈ BIG := List.mem_filter.mpr ⟨inT2 (List.mem_of_getElem? (i := 44) rfl), by rfl⟩
theorem m_50 : (.static y_PB_leadingZeros : Cond) ∈ BIG := List.mem_filter.mpr ⟨inT2 (List.mem_of_getElem? (i := 43) (by decide +kernel)), by rfl⟩
theorem m_51 : (.code y_Real_nearest b_Real_nearest 10 (some .long) : Cond) ∈ BIG := List.mem_filter.mpr ⟨inT2 (List.mem_of_getElem? (i := 47) rfl), by rfl⟩
theorem m_52 : (.methodLink R_Real 140 y_Real_nearest : Cond) ∈ BIG := List.mem_filter.mpr ⟨inT2 (List.mem_of_getElem? (i := 45) (by decide +kernel)), by rfl⟩
theorem m_53 : (.static y_Real_nearest : Cond) ∈ BIG := List.mem_filter.mpr ⟨inT2 (List.mem_of_getElem? (i := 46) (by decide +kernel)), by rfl⟩
theorem m_54 : (.code y_Real_significand b_Real_significand 3 (some .long) : Cond) ∈ BIG := List.mem_filter.mpr ⟨inT2 (List.mem_of_getElem? (i := 16) rfl), by rfl⟩
theorem m_55 : (.methodLink R_Real 113 y_Real_significand : Cond) ∈ BIG := List.mem_filter.mpr ⟨inT2 (List.mem_of_getElem? (i := 13) (by decide +kernel)), by rfl⟩
theorem m_56 : (.instanceMethod y_Real_significand : Cond) ∈ BIG := List.mem_filter.mpr ⟨inT2 (List.mem_of_getElem? (i := 14) (by decide +kernel)), by rfl⟩
theorem m_57 : (.selects R_Real y_Real_significand y_Real_significand : Cond) ∈ BIG := List.mem_filter.mpr ⟨inT2 (List.mem_of_getElem? (i := 15) (by decide +kernel)), by rfl⟩
theorem m_58 : (.code y_Real_power b_Real_power 3 (some .int) : Cond) ∈ BIG := List.mem_filter.mpr ⟨inT2 (List.mem_of_getElem? (i := 28) rfl), by rfl⟩
theorem m_59 : (.methodLink R_Real 116 y_Real_power : Cond) ∈ BIG := List.mem_filter.mpr ⟨inT2 (List.mem_of_getElem? (i := 25) (by decide +kernel)), by rfl⟩
theorem m_60 : (.instanceMethod y_Real_power : Cond) ∈ BIG := List.mem_filter.mpr ⟨inT2 (List.mem_of_getElem? (i := 26) (by decide +kernel)), by rfl⟩
theorem m_61 : (.selects R_Real y_Real_power y_Real_power : Cond) ∈ BIG := List.mem_filter.mpr ⟨inT2 (List.mem_of_getElem? (i := 27) (by decide +kernel)), by rfl⟩
theorem m_62 : (.code y_Real_shiftedDown b_Real_shiftedDown 3 (some .long) : Cond) ∈ BIG := List.mem_filter.mpr ⟨inT2 (List.mem_of_getElem? (i := 34) rfl), by rfl⟩
theorem m_63 : (.methodLink R_Real 128 y_Real_shiftedDown : Cond) ∈ BIG := List.mem_filter.mpr ⟨inT2 (List.mem_of_getElem? (i := 32) (by decide +kernel)), by rfl⟩
theorem m_64 : (.static y_Real_shiftedDown : Cond) ∈ BIG := List.mem_filter.mpr ⟨inT2 (List.mem_of_getElem? (i := 33) (by decide +kernel)), by rfl⟩
theorem m_65 : (.code y_Real_rounded b_Real_rounded 13 (some .long) : Cond) ∈ BIG := List.mem_filter.mpr ⟨inT2 (List.mem_of_getElem? (i := 41) rfl), by rfl⟩
theorem m_66 : (.methodLink R_Real 106 y_Real_rounded : Cond) ∈ BIG := List.mem_filter.mpr ⟨inT2 (List.mem_of_getElem? (i := 38) (by decide +kernel)), by rfl⟩
theorem m_67 : (.instanceMethod y_Real_rounded : Cond) ∈ BIG := List.mem_filter.mpr ⟨inT2 (List.mem_of_getElem? (i := 40) (by decide +kernel)), by rfl⟩
theorem m_68 : (.selects R_Real y_Real_rounded y_Real_rounded : Cond) ∈ BIG := List.mem_filter.mpr ⟨inT0 (List.mem_of_getElem? (i := 7) (by decide +kernel)), by rfl⟩
theorem m_69 : (.code y_Real_infiniteSum b_Real_infiniteSum 5 (some .long) : Cond) ∈ BIG := List.mem_filter.mpr ⟨inT1 (List.mem_of_getElem? (i := 239) rfl), by rfl⟩
theorem m_70 : (.methodLink R_Real 83 y_Real_infiniteSum : Cond) ∈ BIG := List.mem_filter.mpr ⟨inT1 (List.mem_of_getElem? (i := 236) (by decide +kernel)), by rfl⟩
theorem m_71 : (.instanceMethod y_Real_infiniteSum : Cond) ∈ BIG := List.mem_filter.mpr ⟨inT1 (List.mem_of_getElem? (i := 238) (by decide +kernel)), by rfl⟩
theorem m_72 : (.selects R_Real y_Real_infiniteSum y_Real_infiniteSum : Cond) ∈ BIG := List.mem_filter.mpr ⟨inT0 (List.mem_of_getElem? (i := 2) (by decide +kernel)), by rfl⟩
theorem m_73 : (.code y_Real_orderedSum b_Real_orderedSum 13 (some .long) : Cond) ∈ BIG := List.mem_filter.mpr ⟨inT2 (List.mem_of_getElem? (i := 12) rfl), by rfl⟩
theorem m_74 : (.methodLink R_Real 87 y_Real_orderedSum : Cond) ∈ BIG := List.mem_filter.mpr ⟨inT2 (List.mem_of_getElem? (i := 9) (by decide +kernel)), by rfl⟩
theorem m_75 : (.instanceMethod y_Real_orderedSum : Cond) ∈ BIG := List.mem_filter.mpr ⟨inT2 (List.mem_of_getElem? (i := 11) (by decide +kernel)), by rfl⟩
theorem m_76 : (.selects R_Real y_Real_orderedSum y_Real_orderedSum : Cond) ∈ BIG := List.mem_filter.mpr ⟨inT0 (List.mem_of_getElem? (i := 4) (by decide +kernel)), by rfl⟩
theorem m_77 : (.code y_Real_alignment b_Real_alignment 3 (some .int) : Cond) ∈ BIG := List.mem_filter.mpr ⟨inT2 (List.mem_of_getElem? (i := 68) rfl), by rfl⟩
theorem m_78 : (.methodLink R_Real 132 y_Real_alignment : Cond) ∈ BIG := List.mem_filter.mpr ⟨inT2 (List.mem_of_getElem? (i := 65) (by decide +kernel)), by rfl⟩
theorem m_79 : (.instanceMethod y_Real_alignment : Cond) ∈ BIG := List.mem_filter.mpr ⟨inT2 (List.mem_of_getElem? (i := 67) (by decide +kernel)), by rfl⟩
theorem m_80 : (.selects R_Real y_Real_alignment y_Real_alignment : Cond) ∈ BIG := List.mem_filter.mpr ⟨inT0 (List.mem_of_getElem? (i := 9) (by decide +kernel)), by rfl⟩
theorem m_81 : (.constantLong R_Real 138 (4294967295) : Cond) ∈ BIG := List.mem_filter.mpr ⟨inT2 (List.mem_of_getElem? (i := 72) (by decide +kernel)), by rfl⟩
theorem m_82 : (.code y_Real_isZero b_Real_isZero 3 (some .boolean) : Cond) ∈ BIG := List.mem_filter.mpr ⟨inT2 (List.mem_of_getElem? (i := 60) rfl), by rfl⟩
theorem m_83 : (.methodLink R_Real 90 y_Real_isZero : Cond) ∈ BIG := List.mem_filter.mpr ⟨inT2 (List.mem_of_getElem? (i := 57) (by decide +kernel)), by rfl⟩
theorem m_84 : (.instanceMethod y_Real_isZero : Cond) ∈ BIG := List.mem_filter.mpr ⟨inT2 (List.mem_of_getElem? (i := 58) (by decide +kernel)), by rfl⟩
theorem m_85 : (.selects R_Real y_Real_isZero y_Real_isZero : Cond) ∈ BIG := List.mem_filter.mpr ⟨inT2 (List.mem_of_getElem? (i := 59) (by decide +kernel)), by rfl⟩
theorem m_86 : (.code y_Real_aligned b_Real_aligned 3 (some .long) : Cond) ∈ BIG := List.mem_filter.mpr ⟨inT2 (List.mem_of_getElem? (i := 64) rfl), by rfl⟩
theorem m_87 : (.methodLink R_Real 93 y_Real_aligned : Cond) ∈ BIG := List.mem_filter.mpr ⟨inT2 (List.mem_of_getElem? (i := 61) (by decide +kernel)), by rfl⟩
theorem m_88 : (.instanceMethod y_Real_aligned : Cond) ∈ BIG := List.mem_filter.mpr ⟨inT2 (List.mem_of_getElem? (i := 63) (by decide +kernel)), by rfl⟩
theorem m_89 : (.selects R_Real y_Real_aligned y_Real_aligned : Cond) ∈ BIG := List.mem_filter.mpr ⟨inT0 (List.mem_of_getElem? (i := 8) (by decide +kernel)), by rfl⟩
theorem m_90 : (.code y_Real_highProduct b_Real_highProduct 16 (some .long) : Cond) ∈ BIG := List.mem_filter.mpr ⟨inT2 (List.mem_of_getElem? (i := 71) rfl), by rfl⟩
theorem m_91 : (.methodLink R_Real 96 y_Real_highProduct : Cond) ∈ BIG := List.mem_filter.mpr ⟨inT2 (List.mem_of_getElem? (i := 69) (by decide +kernel)), by rfl⟩
theorem m_92 : (.static y_Real_highProduct : Cond) ∈ BIG := List.mem_filter.mpr ⟨inT2 (List.mem_of_getElem? (i := 70) (by decide +kernel)), by rfl⟩
theorem m_93 : (.code y_Real_alignedPower b_Real_alignedPower 3 (some .int) : Cond) ∈ BIG := List.mem_filter.mpr ⟨inT2 (List.mem_of_getElem? (i := 76) rfl), by rfl⟩
theorem m_94 : (.methodLink R_Real 103 y_Real_alignedPower : Cond) ∈ BIG := List.mem_filter.mpr ⟨inT2 (List.mem_of_getElem? (i := 73) (by decide +kernel)), by rfl⟩
theorem m_95 : (.instanceMethod y_Real_alignedPower : Cond) ∈ BIG := List.mem_filter.mpr ⟨inT2 (List.mem_of_getElem? (i := 75) (by decide +kernel)), by rfl⟩
theorem m_96 : (.selects R_Real y_Real_alignedPower y_Real_alignedPower : Cond) ∈ BIG := List.mem_filter.mpr ⟨inT0 (List.mem_of_getElem? (i := 10) (by decide +kernel)), by rfl⟩
theorem m_97 : (.code y_Real_dividedSignificands b_Real_dividedSignificands 11 (some .long) : Cond) ∈ BIG := List.mem_filter.mpr ⟨inT2 (List.mem_of_getElem? (i := 83) rfl), by rfl⟩
theorem m_98 : (.methodLink R_Real 110 y_Real_dividedSignificands : Cond) ∈ BIG := List.mem_filter.mpr ⟨inT2 (List.mem_of_getElem? (i := 81) (by decide +kernel)), by rfl⟩
theorem m_99 : (.static y_Real_dividedSignificands : Cond) ∈ BIG := List.mem_filter.mpr ⟨inT2 (List.mem_of_getElem? (i := 82) (by decide +kernel)), by rfl⟩
theorem m_100 : (.methodLink R_Real 119 Lib.Math.min.name : Cond) ∈ BIG := List.mem_filter.mpr ⟨inT2 (List.mem_of_getElem? (i := 88) (by decide +kernel)), by rfl⟩
theorem m_101 : (.static Lib.Math.min.name : Cond) ∈ BIG := List.mem_filter.mpr ⟨inT2 (List.mem_of_getElem? (i := 89) (by decide +kernel)), by rfl⟩
theorem m_102 : (.code Lib.Math.min.name Lib.Math.min.code 2 (some .int) : Cond) ∈ BIG := List.mem_filter.mpr ⟨inT2 (List.mem_of_getElem? (i := 90) rfl), by rfl⟩
theorem m_103 : (.constantLong R_Real 122 (-9223372036854775808) : Cond) ∈ BIG := List.mem_filter.mpr ⟨inT2 (List.mem_of_getElem? (i := 111) (by decide +kernel)), by rfl⟩
theorem m_104 : (.constantLong R_Real 124 (4611686018427387904) : Cond) ∈ BIG := List.mem_filter.mpr ⟨inT2 (List.mem_of_getElem? (i := 112) (by decide +kernel)), by rfl⟩
theorem m_105 : (.constantLong R_Real 126 (9223372036854775807) : Cond) ∈ BIG := List.mem_filter.mpr ⟨inT2 (List.mem_of_getElem? (i := 120) (by decide +kernel)), by rfl⟩
theorem m_106 : (.constantLong R_SD 42 (2) : Cond) ∈ BIG := List.mem_filter.mpr ⟨inT3 (List.mem_of_getElem? (i := 47) (by decide +kernel)), by rfl⟩
theorem m_107 : (.constantLong R_SD 51 (1000000000000000000) : Cond) ∈ BIG := List.mem_filter.mpr ⟨inT3 (List.mem_of_getElem? (i := 51) (by decide +kernel)), by rfl⟩
theorem m_108 : (.constantLong R_SD 55 (100000000000000000) : Cond) ∈ BIG := List.mem_filter.mpr ⟨inT3 (List.mem_of_getElem? (i := 53) (by decide +kernel)), by rfl⟩
theorem m_109 : (.constantLong R_SD 53 (10000000000000000) : Cond) ∈ BIG := List.mem_filter.mpr ⟨inT3 (List.mem_of_getElem? (i := 52) (by decide +kernel)), by rfl⟩
theorem m_110 : (.code y_SD_nearer b_SD_nearer 10 (some .long) : Cond) ∈ BIG := List.mem_filter.mpr ⟨inT3 (List.mem_of_getElem? (i := 56) rfl), by rfl⟩
theorem m_111 : (.methodLink R_SD 57 y_SD_nearer : Cond) ∈ BIG := List.mem_filter.mpr ⟨inT3 (List.mem_of_getElem? (i := 54) (by decide +kernel)), by rfl⟩
theorem m_112 : (.static y_SD_nearer : Cond) ∈ BIG := List.mem_filter.mpr ⟨inT3 (List.mem_of_getElem? (i := 55) (by decide +kernel)), by rfl⟩
theorem m_113 : (.initialized R_SD : Cond) ∈ BIG := List.mem_filter.mpr ⟨inT1 (List.mem_of_getElem? (i := 3) (by decide +kernel)), by rfl⟩
theorem m_114 : (.constantLong R_SD 60 (10) : Cond) ∈ BIG := List.mem_filter.mpr ⟨inT3 (List.mem_of_getElem? (i := 57) (by decide +kernel)), by rfl⟩
theorem m_115 : (.constantLong R_BW 46 (5) : Cond) ∈ BIG := List.mem_filter.mpr ⟨inT3 (List.mem_of_getElem? (i := 30) (by decide +kernel)), by rfl⟩
theorem m_116 : (.constantLong R_BW 56 (4294967295) : Cond) ∈ BIG := List.mem_filter.mpr ⟨inT3 (List.mem_of_getElem? (i := 26) (by decide +kernel)), by rfl⟩
theorem m_117 : (.constantLong R_Lt 62 (10) : Cond) ∈ BIG := List.mem_filter.mpr ⟨inT2 (List.mem_of_getElem? (i := 171) (by decide +kernel)), by rfl⟩
theorem m_118 : (.constantLong R_Md 26 (9221120237041090560) : Cond) ∈ BIG := List.mem_filter.mpr ⟨inT4 (List.mem_of_getElem? (i := 9) (by decide +kernel)), by rfl⟩
theorem m_119 : (.constantLong R_Md 24 (2143289344) : Cond) ∈ BIG := List.mem_filter.mpr ⟨inT4 (List.mem_of_getElem? (i := 8) (by decide +kernel)), by rfl⟩
theorem m_120 : (.constantLong R_Md 40 (-9223372036854775808) : Cond) ∈ BIG := List.mem_filter.mpr ⟨inT4 (List.mem_of_getElem? (i := 19) (by decide +kernel)), by rfl⟩
theorem m_121 : (.constantLong R_Md 36 (2147483648) : Cond) ∈ BIG := List.mem_filter.mpr ⟨inT4 (List.mem_of_getElem? (i := 18) (by decide +kernel)), by rfl⟩
theorem m_122 : (.constantLong R_Md 30 (9218868437227405312) : Cond) ∈ BIG := List.mem_filter.mpr ⟨inT4 (List.mem_of_getElem? (i := 14) (by decide +kernel)), by rfl⟩
theorem m_123 : (.constantLong R_Md 28 (2139095040) : Cond) ∈ BIG := List.mem_filter.mpr ⟨inT4 (List.mem_of_getElem? (i := 13) (by decide +kernel)), by rfl⟩
theorem m_124 : (.code y_Md_sign b_Md_sign 2 (some .long) : Cond) ∈ BIG := List.mem_filter.mpr ⟨inT4 (List.mem_of_getElem? (i := 17) rfl), by rfl⟩
theorem m_125 : (.methodLink R_Md 32 y_Md_sign : Cond) ∈ BIG := List.mem_filter.mpr ⟨inT4 (List.mem_of_getElem? (i := 15) (by decide +kernel)), by rfl⟩
theorem m_126 : (.static y_Md_sign : Cond) ∈ BIG := List.mem_filter.mpr ⟨inT4 (List.mem_of_getElem? (i := 16) (by decide +kernel)), by rfl⟩
theorem m_127 : (.initialized R_Md : Cond) ∈ BIG := List.mem_filter.mpr ⟨inT1 (List.mem_of_getElem? (i := 5) (by decide +kernel)), by rfl⟩
theorem m_128 : (.code y_Md_length b_Md_length 5 (some .int) : Cond) ∈ BIG := List.mem_filter.mpr ⟨inT4 (List.mem_of_getElem? (i := 25) rfl), by rfl⟩
theorem m_129 : (.methodLink R_Md 76 y_Md_length : Cond) ∈ BIG := List.mem_filter.mpr ⟨inT4 (List.mem_of_getElem? (i := 23) (by decide +kernel)), by rfl⟩
theorem m_130 : (.static y_Md_length : Cond) ∈ BIG := List.mem_filter.mpr ⟨inT4 (List.mem_of_getElem? (i := 24) (by decide +kernel)), by rfl⟩
theorem m_131 : (.methodLink R_Md 80 Lib.Math.max.name : Cond) ∈ BIG := List.mem_filter.mpr ⟨inT4 (List.mem_of_getElem? (i := 26) (by decide +kernel)), by rfl⟩
theorem m_132 : (.code y_Md_far b_Md_far 2 (some .long) : Cond) ∈ BIG := List.mem_filter.mpr ⟨inT4 (List.mem_of_getElem? (i := 12) rfl), by rfl⟩
theorem m_133 : (.methodLink R_Md 86 y_Md_far : Cond) ∈ BIG := List.mem_filter.mpr ⟨inT4 (List.mem_of_getElem? (i := 10) (by decide +kernel)), by rfl⟩
theorem m_134 : (.static y_Md_far : Cond) ∈ BIG := List.mem_filter.mpr ⟨inT4 (List.mem_of_getElem? (i := 11) (by decide +kernel)), by rfl⟩
theorem m_135 : (.constantLong R_Md 117 (65535) : Cond) ∈ BIG := List.mem_filter.mpr ⟨inT4 (List.mem_of_getElem? (i := 44) (by decide +kernel)), by rfl⟩
theorem m_136 : (.constantLong R_Rs 84 (9218868437227405311) : Cond) ∈ BIG := List.mem_filter.mpr ⟨inT4 (List.mem_of_getElem? (i := 82) (by decide +kernel)), by rfl⟩
theorem m_137 : (.constantLong R_Rs 82 (2139095039) : Cond) ∈ BIG := List.mem_filter.mpr ⟨inT4 (List.mem_of_getElem? (i := 81) (by decide +kernel)), by rfl⟩
theorem m_138 : (.methodLink R_PB 84 y_Real_isNan : Cond) ∈ BIG := List.mem_filter.mpr ⟨inT1 (List.mem_of_getElem? (i := 215) (by decide +kernel)), by rfl⟩
theorem m_139 : (.methodLink R_PB 132 y_Real_nan : Cond) ∈ BIG := List.mem_filter.mpr ⟨inT1 (List.mem_of_getElem? (i := 224) (by decide +kernel)), by rfl⟩
theorem m_140 : (.code y_Real_sum b_Real_sum 5 (some .long) : Cond) ∈ BIG := List.mem_filter.mpr ⟨inT1 (List.mem_of_getElem? (i := 231) rfl), by rfl⟩
theorem m_141 : (.methodLink R_PB 136 y_Real_sum : Cond) ∈ BIG := List.mem_filter.mpr ⟨inT1 (List.mem_of_getElem? (i := 228) (by decide +kernel)), by rfl⟩
theorem m_142 : (.instanceMethod y_Real_sum : Cond) ∈ BIG := List.mem_filter.mpr ⟨inT1 (List.mem_of_getElem? (i := 229) (by decide +kernel)), by rfl⟩
theorem m_143 : (.selects R_Real y_Real_sum y_Real_sum : Cond) ∈ BIG := List.mem_filter.mpr ⟨inT1 (List.mem_of_getElem? (i := 230) (by decide +kernel)), by rfl⟩
theorem m_144 : (.code y_Real_negate b_Real_negate 3 (some .long) : Cond) ∈ BIG := List.mem_filter.mpr ⟨inT2 (List.mem_of_getElem? (i := 51) rfl), by rfl⟩
theorem m_145 : (.methodLink R_PB 59 y_Real_negate : Cond) ∈ BIG := List.mem_filter.mpr ⟨inT2 (List.mem_of_getElem? (i := 48) (by decide +kernel)), by rfl⟩
theorem m_146 : (.instanceMethod y_Real_negate : Cond) ∈ BIG := List.mem_filter.mpr ⟨inT2 (List.mem_of_getElem? (i := 49) (by decide +kernel)), by rfl⟩
theorem m_147 : (.selects R_Real y_Real_negate y_Real_negate : Cond) ∈ BIG := List.mem_filter.mpr ⟨inT2 (List.mem_of_getElem? (i := 50) (by decide +kernel)), by rfl⟩
theorem m_148 : (.code y_Real_product b_Real_product 12 (some .long) : Cond) ∈ BIG := List.mem_filter.mpr ⟨inT2 (List.mem_of_getElem? (i := 56) rfl), by rfl⟩
theorem m_149 : (.methodLink R_PB 140 y_Real_product : Cond) ∈ BIG := List.mem_filter.mpr ⟨inT2 (List.mem_of_getElem? (i := 53) (by decide +kernel)), by rfl⟩
theorem m_150 : (.instanceMethod y_Real_product : Cond) ∈ BIG := List.mem_filter.mpr ⟨inT2 (List.mem_of_getElem? (i := 54) (by decide +kernel)), by rfl⟩
theorem m_151 : (.selects R_Real y_Real_product y_Real_product : Cond) ∈ BIG := List.mem_filter.mpr ⟨inT2 (List.mem_of_getElem? (i := 55) (by decide +kernel)), by rfl⟩
theorem m_152 : (.code y_Real_quotient b_Real_quotient 7 (some .long) : Cond) ∈ BIG := List.mem_filter.mpr ⟨inT2 (List.mem_of_getElem? (i := 80) rfl), by rfl⟩
theorem m_153 : (.methodLink R_PB 143 y_Real_quotient : Cond) ∈ BIG := List.mem_filter.mpr ⟨inT2 (List.mem_of_getElem? (i := 77) (by decide +kernel)), by rfl⟩
theorem m_154 : (.instanceMethod y_Real_quotient : Cond) ∈ BIG := List.mem_filter.mpr ⟨inT2 (List.mem_of_getElem? (i := 78) (by decide +kernel)), by rfl⟩
theorem m_155 : (.selects R_Real y_Real_quotient y_Real_quotient : Cond) ∈ BIG := List.mem_filter.mpr ⟨inT2 (List.mem_of_getElem? (i := 79) (by decide +kernel)), by rfl⟩
theorem m_156 : (.code y_Real_remainder b_Real_remainder 10 (some .long) : Cond) ∈ BIG := List.mem_filter.mpr ⟨inT2 (List.mem_of_getElem? (i := 87) rfl), by rfl⟩
theorem m_157 : (.methodLink R_PB 146 y_Real_remainder : Cond) ∈ BIG := List.mem_filter.mpr ⟨inT2 (List.mem_of_getElem? (i := 84) (by decide +kernel)), by rfl⟩
theorem m_158 : (.instanceMethod y_Real_remainder : Cond) ∈ BIG := List.mem_filter.mpr ⟨inT2 (List.mem_of_getElem? (i := 85) (by decide +kernel)), by rfl⟩
theorem m_159 : (.selects R_Real y_Real_remainder y_Real_remainder : Cond) ∈ BIG := List.mem_filter.mpr ⟨inT2 (List.mem_of_getElem? (i := 86) (by decide +kernel)), by rfl⟩
theorem m_160 : (.code y_Real_toLong b_Real_toLong 6 (some .long) : Cond) ∈ BIG := List.mem_filter.mpr ⟨inT2 (List.mem_of_getElem? (i := 119) rfl), by rfl⟩
theorem m_161 : (.methodLink R_PB 149 y_Real_toLong : Cond) ∈ BIG := List.mem_filter.mpr ⟨inT2 (List.mem_of_getElem? (i := 116) (by decide +kernel)), by rfl⟩
theorem m_162 : (.instanceMethod y_Real_toLong : Cond) ∈ BIG := List.mem_filter.mpr ⟨inT2 (List.mem_of_getElem? (i := 117) (by decide +kernel)), by rfl⟩
theorem m_163 : (.selects R_Real y_Real_toLong y_Real_toLong : Cond) ∈ BIG := List.mem_filter.mpr ⟨inT2 (List.mem_of_getElem? (i := 118) (by decide +kernel)), by rfl⟩
theorem m_164 : (.constantLong R_PB 152 (-2147483648) : Cond) ∈ BIG := List.mem_filter.mpr ⟨inT2 (List.mem_of_getElem? (i := 121) (by decide +kernel)), by rfl⟩
theorem m_165 : (.constantLong R_PB 154 (2147483647) : Cond) ∈ BIG := List.mem_filter.mpr ⟨inT2 (List.mem_of_getElem? (i := 122) (by decide +kernel)), by rfl⟩
theorem m_166 : (.fieldLink R_Lt 13 R_Lt "length" "I" : Cond) ∈ BIG := List.mem_filter.mpr ⟨inT1 (List.mem_of_getElem? (i := 34) (by decide +kernel)), by rfl⟩
theorem m_167 : (.fieldLink R_Lt 17 R_Lt "taken" "I" : Cond) ∈ BIG := List.mem_filter.mpr ⟨inT1 (List.mem_of_getElem? (i := 35) (by decide +kernel)), by rfl⟩
theorem m_168 : (.fieldLink R_Lt 9 R_Lt "row" "[C" : Cond) ∈ BIG := List.mem_filter.mpr ⟨inT1 (List.mem_of_getElem? (i := 33) (by decide +kernel)), by rfl⟩
theorem m_169 : (.constantLong R_Lt 60 (48) : Cond) ∈ BIG := List.mem_filter.mpr ⟨inT2 (List.mem_of_getElem? (i := 176) (by decide +kernel)), by rfl⟩
theorem m_170 : (.code y_Lt_digitCount b_Lt_digitCount 5 (some .int) : Cond) ∈ BIG := List.mem_filter.mpr ⟨inT2 (List.mem_of_getElem? (i := 170) rfl), by rfl⟩
theorem m_171 : (.methodLink R_Lt 33 y_Lt_digitCount : Cond) ∈ BIG := List.mem_filter.mpr ⟨inT2 (List.mem_of_getElem? (i := 168) (by decide +kernel)), by rfl⟩
theorem m_172 : (.static y_Lt_digitCount : Cond) ∈ BIG := List.mem_filter.mpr ⟨inT2 (List.mem_of_getElem? (i := 169) (by decide +kernel)), by rfl⟩
theorem m_173 : (.initialized R_Lt : Cond) ∈ BIG := List.mem_filter.mpr ⟨inT1 (List.mem_of_getElem? (i := 2) (by decide +kernel)), by rfl⟩
theorem m_174 : (.code y_Lt_putDigits b_Lt_putDigits 7 none : Cond) ∈ BIG := List.mem_filter.mpr ⟨inT2 (List.mem_of_getElem? (i := 175) rfl), by rfl⟩
theorem m_175 : (.methodLink R_Lt 37 y_Lt_putDigits : Cond) ∈ BIG := List.mem_filter.mpr ⟨inT2 (List.mem_of_getElem? (i := 172) (by decide +kernel)), by rfl⟩
theorem m_176 : (.instanceMethod y_Lt_putDigits : Cond) ∈ BIG := List.mem_filter.mpr ⟨inT2 (List.mem_of_getElem? (i := 174) (by decide +kernel)), by rfl⟩
theorem m_177 : (.selects R_Lt y_Lt_putDigits y_Lt_putDigits : Cond) ∈ BIG := List.mem_filter.mpr ⟨inT0 (List.mem_of_getElem? (i := 11) (by decide +kernel)), by rfl⟩
theorem m_178 : (.code y_Lt_put_i b_Lt_put_i 2 none : Cond) ∈ BIG := List.mem_filter.mpr ⟨inT2 (List.mem_of_getElem? (i := 167) rfl), by rfl⟩
theorem m_179 : (.methodLink R_Lt 29 y_Lt_put_i : Cond) ∈ BIG := List.mem_filter.mpr ⟨inT2 (List.mem_of_getElem? (i := 164) (by decide +kernel)), by rfl⟩
theorem m_180 : (.instanceMethod y_Lt_put_i : Cond) ∈ BIG := List.mem_filter.mpr ⟨inT2 (List.mem_of_getElem? (i := 165) (by decide +kernel)), by rfl⟩
theorem m_181 : (.selects R_Lt y_Lt_put_i y_Lt_put_i : Cond) ∈ BIG := List.mem_filter.mpr ⟨inT2 (List.mem_of_getElem? (i := 166) (by decide +kernel)), by rfl⟩
theorem m_182 : (.code y_Lt_powerOfTen b_Lt_powerOfTen 4 (some .long) : Cond) ∈ BIG := List.mem_filter.mpr ⟨inT3 (List.mem_of_getElem? (i := 81) rfl), by rfl⟩
theorem m_183 : (.methodLink R_Lt 49 y_Lt_powerOfTen : Cond) ∈ BIG := List.mem_filter.mpr ⟨inT3 (List.mem_of_getElem? (i := 79) (by decide +kernel)), by rfl⟩
theorem m_184 : (.static y_Lt_powerOfTen : Cond) ∈ BIG := List.mem_filter.mpr ⟨inT3 (List.mem_of_getElem? (i := 80) (by decide +kernel)), by rfl⟩
theorem m_185 : (.code y_Lt_putWhole b_Lt_putWhole 3 none : Cond) ∈ BIG := List.mem_filter.mpr ⟨inT2 (List.mem_of_getElem? (i := 163) rfl), by rfl⟩
theorem m_186 : (.methodLink R_Lt 45 y_Lt_putWhole : Cond) ∈ BIG := List.mem_filter.mpr ⟨inT3 (List.mem_of_getElem? (i := 82) (by decide +kernel)), by rfl⟩
theorem m_187 : (.instanceMethod y_Lt_putWhole : Cond) ∈ BIG := List.mem_filter.mpr ⟨inT2 (List.mem_of_getElem? (i := 161) (by decide +kernel)), by rfl⟩
theorem m_188 : (.selects R_Lt y_Lt_putWhole y_Lt_putWhole : Cond) ∈ BIG := List.mem_filter.mpr ⟨inT2 (List.mem_of_getElem? (i := 162) (by decide +kernel)), by rfl⟩
theorem m_189 : (.code y_Lt_putPointed b_Lt_putPointed 7 none : Cond) ∈ BIG := List.mem_filter.mpr ⟨inT3 (List.mem_of_getElem? (i := 78) rfl), by rfl⟩
theorem m_190 : (.methodLink R_Lt 41 y_Lt_putPointed : Cond) ∈ BIG := List.mem_filter.mpr ⟨inT3 (List.mem_of_getElem? (i := 75) (by decide +kernel)), by rfl⟩
theorem m_191 : (.instanceMethod y_Lt_putPointed : Cond) ∈ BIG := List.mem_filter.mpr ⟨inT3 (List.mem_of_getElem? (i := 77) (by decide +kernel)), by rfl⟩
theorem m_192 : (.selects R_Lt y_Lt_putPointed y_Lt_putPointed : Cond) ∈ BIG := List.mem_filter.mpr ⟨inT0 (List.mem_of_getElem? (i := 18) (by decide +kernel)), by rfl⟩
theorem m_193 : (.methodLink R_BW 29 Lib.Math.min.name : Cond) ∈ BIG := List.mem_filter.mpr ⟨inT3 (List.mem_of_getElem? (i := 22) (by decide +kernel)), by rfl⟩
theorem m_194 : (.fieldLink R_BW 48 R_BW "used" "I" : Cond) ∈ BIG := List.mem_filter.mpr ⟨inT1 (List.mem_of_getElem? (i := 57) (by decide +kernel)), by rfl⟩
theorem m_195 : (.fieldLink R_BW 11 R_BW "limbs" "[J" : Cond) ∈ BIG := List.mem_filter.mpr ⟨inT1 (List.mem_of_getElem? (i := 56) (by decide +kernel)), by rfl⟩
theorem m_196 : (.code y_BW_slice b_BW_slice 3 (some .long) : Cond) ∈ BIG := List.mem_filter.mpr ⟨inT3 (List.mem_of_getElem? (i := 25) rfl), by rfl⟩
theorem m_197 : (.methodLink R_BW 52 y_BW_slice : Cond) ∈ BIG := List.mem_filter.mpr ⟨inT3 (List.mem_of_getElem? (i := 23) (by decide +kernel)), by rfl⟩
theorem m_198 : (.static y_BW_slice : Cond) ∈ BIG := List.mem_filter.mpr ⟨inT3 (List.mem_of_getElem? (i := 24) (by decide +kernel)), by rfl⟩
theorem m_199 : (.initialized R_BW : Cond) ∈ BIG := List.mem_filter.mpr ⟨inT1 (List.mem_of_getElem? (i := 4) (by decide +kernel)), by rfl⟩
theorem m_200 : (.fieldLink R_BW 15 R_BW "lost" "Z" : Cond) ∈ BIG := List.mem_filter.mpr ⟨inT1 (List.mem_of_getElem? (i := 58) (by decide +kernel)), by rfl⟩
theorem m_201 : (.methodLink R_BW 19 Lib.Math.max.name : Cond) ∈ BIG := List.mem_filter.mpr ⟨inT3 (List.mem_of_getElem? (i := 17) (by decide +kernel)), by rfl⟩
theorem m_202 : (.code y_BW_place b_BW_place 5 none : Cond) ∈ BIG := List.mem_filter.mpr ⟨inT3 (List.mem_of_getElem? (i := 21) rfl), by rfl⟩
theorem m_203 : (.methodLink R_BW 25 y_BW_place : Cond) ∈ BIG := List.mem_filter.mpr ⟨inT3 (List.mem_of_getElem? (i := 18) (by decide +kernel)), by rfl⟩
theorem m_204 : (.instanceMethod y_BW_place : Cond) ∈ BIG := List.mem_filter.mpr ⟨inT3 (List.mem_of_getElem? (i := 20) (by decide +kernel)), by rfl⟩
theorem m_205 : (.selects R_BW y_BW_place y_BW_place : Cond) ∈ BIG := List.mem_filter.mpr ⟨inT0 (List.mem_of_getElem? (i := 13) (by decide +kernel)), by rfl⟩
theorem m_206 : (.code y_BW_bitsFrom b_BW_bitsFrom 6 (some .long) : Cond) ∈ BIG := List.mem_filter.mpr ⟨inT3 (List.mem_of_getElem? (i := 42) rfl), by rfl⟩
theorem m_207 : (.methodLink R_BW 43 y_BW_bitsFrom : Cond) ∈ BIG := List.mem_filter.mpr ⟨inT3 (List.mem_of_getElem? (i := 39) (by decide +kernel)), by rfl⟩
theorem m_208 : (.instanceMethod y_BW_bitsFrom : Cond) ∈ BIG := List.mem_filter.mpr ⟨inT3 (List.mem_of_getElem? (i := 41) (by decide +kernel)), by rfl⟩
theorem m_209 : (.selects R_BW y_BW_bitsFrom y_BW_bitsFrom : Cond) ∈ BIG := List.mem_filter.mpr ⟨inT0 (List.mem_of_getElem? (i := 16) (by decide +kernel)), by rfl⟩
theorem m_210 : (.code y_BW_powerOfFive b_BW_powerOfFive 4 (some .long) : Cond) ∈ BIG := List.mem_filter.mpr ⟨inT3 (List.mem_of_getElem? (i := 29) rfl), by rfl⟩
theorem m_211 : (.methodLink R_BW 32 y_BW_powerOfFive : Cond) ∈ BIG := List.mem_filter.mpr ⟨inT3 (List.mem_of_getElem? (i := 27) (by decide +kernel)), by rfl⟩
theorem m_212 : (.static y_BW_powerOfFive : Cond) ∈ BIG := List.mem_filter.mpr ⟨inT3 (List.mem_of_getElem? (i := 28) (by decide +kernel)), by rfl⟩
theorem m_213 : (.code y_BW_divide b_BW_divide 8 none : Cond) ∈ BIG := List.mem_filter.mpr ⟨inT3 (List.mem_of_getElem? (i := 38) rfl), by rfl⟩
theorem m_214 : (.methodLink R_BW 40 y_BW_divide : Cond) ∈ BIG := List.mem_filter.mpr ⟨inT3 (List.mem_of_getElem? (i := 35) (by decide +kernel)), by rfl⟩
theorem m_215 : (.instanceMethod y_BW_divide : Cond) ∈ BIG := List.mem_filter.mpr ⟨inT3 (List.mem_of_getElem? (i := 37) (by decide +kernel)), by rfl⟩
theorem m_216 : (.selects R_BW y_BW_divide y_BW_divide : Cond) ∈ BIG := List.mem_filter.mpr ⟨inT0 (List.mem_of_getElem? (i := 15) (by decide +kernel)), by rfl⟩
theorem m_217 : (.code y_BW_multiply b_BW_multiply 8 none : Cond) ∈ BIG := List.mem_filter.mpr ⟨inT3 (List.mem_of_getElem? (i := 34) rfl), by rfl⟩
theorem m_218 : (.methodLink R_BW 36 y_BW_multiply : Cond) ∈ BIG := List.mem_filter.mpr ⟨inT3 (List.mem_of_getElem? (i := 31) (by decide +kernel)), by rfl⟩
theorem m_219 : (.instanceMethod y_BW_multiply : Cond) ∈ BIG := List.mem_filter.mpr ⟨inT3 (List.mem_of_getElem? (i := 33) (by decide +kernel)), by rfl⟩
theorem m_220 : (.selects R_BW y_BW_multiply y_BW_multiply : Cond) ∈ BIG := List.mem_filter.mpr ⟨inT0 (List.mem_of_getElem? (i := 14) (by decide +kernel)), by rfl⟩
theorem m_221 : (.fieldLink R_SD 16 R_SD "digits" "J" : Cond) ∈ BIG := List.mem_filter.mpr ⟨inT1 (List.mem_of_getElem? (i := 68) (by decide +kernel)), by rfl⟩
theorem m_222 : (.fieldLink R_SD 20 R_SD "power" "I" : Cond) ∈ BIG := List.mem_filter.mpr ⟨inT1 (List.mem_of_getElem? (i := 69) (by decide +kernel)), by rfl⟩
theorem m_223 : (.constantLong R_SD 30 (661971961083) : Cond) ∈ BIG := List.mem_filter.mpr ⟨inT3 (List.mem_of_getElem? (i := 11) (by decide +kernel)), by rfl⟩
theorem m_224 : (.constantLong R_SD 32 (4) : Cond) ∈ BIG := List.mem_filter.mpr ⟨inT3 (List.mem_of_getElem? (i := 12) (by decide +kernel)), by rfl⟩
theorem m_225 : (.fieldLink R_SD 10 R_SD "big" "LPrimitiveBits$BigWhole;" : Cond) ∈ BIG := List.mem_filter.mpr ⟨inT1 (List.mem_of_getElem? (i := 67) (by decide +kernel)), by rfl⟩
theorem m_226 : (.code y_BW_floor b_BW_floor 7 (some .long) : Cond) ∈ BIG := List.mem_filter.mpr ⟨inT3 (List.mem_of_getElem? (i := 16) rfl), by rfl⟩
theorem m_227 : (.methodLink R_SD 34 y_BW_floor : Cond) ∈ BIG := List.mem_filter.mpr ⟨inT3 (List.mem_of_getElem? (i := 13) (by decide +kernel)), by rfl⟩
theorem m_228 : (.instanceMethod y_BW_floor : Cond) ∈ BIG := List.mem_filter.mpr ⟨inT3 (List.mem_of_getElem? (i := 14) (by decide +kernel)), by rfl⟩
theorem m_229 : (.selects R_BW y_BW_floor y_BW_floor : Cond) ∈ BIG := List.mem_filter.mpr ⟨inT3 (List.mem_of_getElem? (i := 15) (by decide +kernel)), by rfl⟩
theorem m_230 : (.code y_BW_isExact b_BW_isExact 1 (some .boolean) : Cond) ∈ BIG := List.mem_filter.mpr ⟨inT3 (List.mem_of_getElem? (i := 46) rfl), by rfl⟩
theorem m_231 : (.methodLink R_SD 38 y_BW_isExact : Cond) ∈ BIG := List.mem_filter.mpr ⟨inT3 (List.mem_of_getElem? (i := 43) (by decide +kernel)), by rfl⟩
theorem m_232 : (.instanceMethod y_BW_isExact : Cond) ∈ BIG := List.mem_filter.mpr ⟨inT3 (List.mem_of_getElem? (i := 44) (by decide +kernel)), by rfl⟩
theorem m_233 : (.selects R_BW y_BW_isExact y_BW_isExact : Cond) ∈ BIG := List.mem_filter.mpr ⟨inT3 (List.mem_of_getElem? (i := 45) (by decide +kernel)), by rfl⟩
theorem m_234 : (.code y_SD_fewestDigits b_SD_fewestDigits 14 (some .long) : Cond) ∈ BIG := List.mem_filter.mpr ⟨inT3 (List.mem_of_getElem? (i := 50) rfl), by rfl⟩
theorem m_235 : (.methodLink R_SD 44 y_SD_fewestDigits : Cond) ∈ BIG := List.mem_filter.mpr ⟨inT3 (List.mem_of_getElem? (i := 48) (by decide +kernel)), by rfl⟩
theorem m_236 : (.static y_SD_fewestDigits : Cond) ∈ BIG := List.mem_filter.mpr ⟨inT3 (List.mem_of_getElem? (i := 49) (by decide +kernel)), by rfl⟩
theorem m_237 : (.code y_SD_dropZeros b_SD_dropZeros 2 none : Cond) ∈ BIG := List.mem_filter.mpr ⟨inT3 (List.mem_of_getElem? (i := 62) rfl), by rfl⟩
theorem m_238 : (.methodLink R_SD 48 y_SD_dropZeros : Cond) ∈ BIG := List.mem_filter.mpr ⟨inT3 (List.mem_of_getElem? (i := 59) (by decide +kernel)), by rfl⟩
theorem m_239 : (.instanceMethod y_SD_dropZeros : Cond) ∈ BIG := List.mem_filter.mpr ⟨inT3 (List.mem_of_getElem? (i := 61) (by decide +kernel)), by rfl⟩
theorem m_240 : (.selects R_SD y_SD_dropZeros y_SD_dropZeros : Cond) ∈ BIG := List.mem_filter.mpr ⟨inT0 (List.mem_of_getElem? (i := 17) (by decide +kernel)), by rfl⟩
theorem m_241 : (.fieldLink R_Md 20 R_Md "thrown" "I" : Cond) ∈ BIG := List.mem_filter.mpr ⟨inT3 (List.mem_of_getElem? (i := 178) (by decide +kernel)), by rfl⟩
theorem m_242 : (.constantLong R_Md 42 (4294967295) : Cond) ∈ BIG := List.mem_filter.mpr ⟨inT4 (List.mem_of_getElem? (i := 0) (by decide +kernel)), by rfl⟩
theorem m_243 : (.fieldLink R_Md 61 R_Md "m2" "J" : Cond) ∈ BIG := List.mem_filter.mpr ⟨inT3 (List.mem_of_getElem? (i := 180) (by decide +kernel)), by rfl⟩
theorem m_244 : (.fieldLink R_Md 64 R_Md "e2" "I" : Cond) ∈ BIG := List.mem_filter.mpr ⟨inT3 (List.mem_of_getElem? (i := 182) (by decide +kernel)), by rfl⟩
theorem m_245 : (.fieldLink R_Md 67 R_Md "minus2" "Z" : Cond) ∈ BIG := List.mem_filter.mpr ⟨inT3 (List.mem_of_getElem? (i := 184) (by decide +kernel)), by rfl⟩
theorem m_246 : (.fieldLink R_Md 70 R_Md "nan2" "Z" : Cond) ∈ BIG := List.mem_filter.mpr ⟨inT3 (List.mem_of_getElem? (i := 186) (by decide +kernel)), by rfl⟩
theorem m_247 : (.fieldLink R_Md 73 R_Md "far2" "Z" : Cond) ∈ BIG := List.mem_filter.mpr ⟨inT3 (List.mem_of_getElem? (i := 188) (by decide +kernel)), by rfl⟩
theorem m_248 : (.fieldLink R_Md 44 R_Md "m1" "J" : Cond) ∈ BIG := List.mem_filter.mpr ⟨inT3 (List.mem_of_getElem? (i := 179) (by decide +kernel)), by rfl⟩
theorem m_249 : (.fieldLink R_Md 48 R_Md "e1" "I" : Cond) ∈ BIG := List.mem_filter.mpr ⟨inT3 (List.mem_of_getElem? (i := 181) (by decide +kernel)), by rfl⟩
theorem m_250 : (.fieldLink R_Md 51 R_Md "minus1" "Z" : Cond) ∈ BIG := List.mem_filter.mpr ⟨inT3 (List.mem_of_getElem? (i := 183) (by decide +kernel)), by rfl⟩
theorem m_251 : (.fieldLink R_Md 55 R_Md "nan1" "Z" : Cond) ∈ BIG := List.mem_filter.mpr ⟨inT3 (List.mem_of_getElem? (i := 185) (by decide +kernel)), by rfl⟩
theorem m_252 : (.fieldLink R_Md 58 R_Md "far1" "Z" : Cond) ∈ BIG := List.mem_filter.mpr ⟨inT3 (List.mem_of_getElem? (i := 187) (by decide +kernel)), by rfl⟩
theorem m_253 : (.code y_Md_nan b_Md_nan 1 (some .long) : Cond) ∈ BIG := List.mem_filter.mpr ⟨inT4 (List.mem_of_getElem? (i := 7) rfl), by rfl⟩
theorem m_254 : (.methodLink R_Md 89 y_Md_nan : Cond) ∈ BIG := List.mem_filter.mpr ⟨inT4 (List.mem_of_getElem? (i := 5) (by decide +kernel)), by rfl⟩
theorem m_255 : (.static y_Md_nan : Cond) ∈ BIG := List.mem_filter.mpr ⟨inT4 (List.mem_of_getElem? (i := 6) (by decide +kernel)), by rfl⟩
theorem m_256 : (.code y_Md_round b_Md_round 16 (some .long) : Cond) ∈ BIG := List.mem_filter.mpr ⟨inT4 (List.mem_of_getElem? (i := 22) rfl), by rfl⟩
theorem m_257 : (.methodLink R_Md 93 y_Md_round : Cond) ∈ BIG := List.mem_filter.mpr ⟨inT4 (List.mem_of_getElem? (i := 20) (by decide +kernel)), by rfl⟩
theorem m_258 : (.static y_Md_round : Cond) ∈ BIG := List.mem_filter.mpr ⟨inT4 (List.mem_of_getElem? (i := 21) (by decide +kernel)), by rfl⟩
theorem m_259 : (.constantLong R_Md 97 (134217727) : Cond) ∈ BIG := List.mem_filter.mpr ⟨inT4 (List.mem_of_getElem? (i := 31) (by decide +kernel)), by rfl⟩
theorem m_260 : (.constantLong R_Md 99 (2) : Cond) ∈ BIG := List.mem_filter.mpr ⟨inT4 (List.mem_of_getElem? (i := 40) (by decide +kernel)), by rfl⟩
theorem m_261 : (.code y_Md_apart b_Md_apart 16 none : Cond) ∈ BIG := List.mem_filter.mpr ⟨inT3 (List.mem_of_getElem? (i := 239) rfl), by rfl⟩
theorem m_262 : (.methodLink R_Md 101 y_Md_apart : Cond) ∈ BIG := List.mem_filter.mpr ⟨inT3 (List.mem_of_getElem? (i := 236) (by decide +kernel)), by rfl⟩
theorem m_263 : (.instanceMethod y_Md_apart : Cond) ∈ BIG := List.mem_filter.mpr ⟨inT3 (List.mem_of_getElem? (i := 238) (by decide +kernel)), by rfl⟩
theorem m_264 : (.selects R_Md y_Md_apart y_Md_apart : Cond) ∈ BIG := List.mem_filter.mpr ⟨inT0 (List.mem_of_getElem? (i := 21) (by decide +kernel)), by rfl⟩
theorem m_265 : (.code y_Md_add b_Md_add 18 (some .long) : Cond) ∈ BIG := List.mem_filter.mpr ⟨inT4 (List.mem_of_getElem? (i := 4) rfl), by rfl⟩
theorem m_266 : (.methodLink R_Md 105 y_Md_add : Cond) ∈ BIG := List.mem_filter.mpr ⟨inT4 (List.mem_of_getElem? (i := 1) (by decide +kernel)), by rfl⟩
theorem m_267 : (.instanceMethod y_Md_add : Cond) ∈ BIG := List.mem_filter.mpr ⟨inT4 (List.mem_of_getElem? (i := 3) (by decide +kernel)), by rfl⟩
theorem m_268 : (.selects R_Md y_Md_add y_Md_add : Cond) ∈ BIG := List.mem_filter.mpr ⟨inT0 (List.mem_of_getElem? (i := 22) (by decide +kernel)), by rfl⟩
theorem m_269 : (.code y_Md_times b_Md_times 22 (some .long) : Cond) ∈ BIG := List.mem_filter.mpr ⟨inT4 (List.mem_of_getElem? (i := 30) rfl), by rfl⟩
theorem m_270 : (.methodLink R_Md 108 y_Md_times : Cond) ∈ BIG := List.mem_filter.mpr ⟨inT4 (List.mem_of_getElem? (i := 27) (by decide +kernel)), by rfl⟩
theorem m_271 : (.instanceMethod y_Md_times : Cond) ∈ BIG := List.mem_filter.mpr ⟨inT4 (List.mem_of_getElem? (i := 29) (by decide +kernel)), by rfl⟩
theorem m_272 : (.selects R_Md y_Md_times y_Md_times : Cond) ∈ BIG := List.mem_filter.mpr ⟨inT0 (List.mem_of_getElem? (i := 23) (by decide +kernel)), by rfl⟩
theorem m_273 : (.code y_Md_over b_Md_over 12 (some .long) : Cond) ∈ BIG := List.mem_filter.mpr ⟨inT4 (List.mem_of_getElem? (i := 35) rfl), by rfl⟩
theorem m_274 : (.methodLink R_Md 111 y_Md_over : Cond) ∈ BIG := List.mem_filter.mpr ⟨inT4 (List.mem_of_getElem? (i := 32) (by decide +kernel)), by rfl⟩
theorem m_275 : (.instanceMethod y_Md_over : Cond) ∈ BIG := List.mem_filter.mpr ⟨inT4 (List.mem_of_getElem? (i := 34) (by decide +kernel)), by rfl⟩
theorem m_276 : (.selects R_Md y_Md_over y_Md_over : Cond) ∈ BIG := List.mem_filter.mpr ⟨inT0 (List.mem_of_getElem? (i := 24) (by decide +kernel)), by rfl⟩
theorem m_277 : (.code y_Md_rest b_Md_rest 7 (some .long) : Cond) ∈ BIG := List.mem_filter.mpr ⟨inT4 (List.mem_of_getElem? (i := 39) rfl), by rfl⟩
theorem m_278 : (.methodLink R_Md 114 y_Md_rest : Cond) ∈ BIG := List.mem_filter.mpr ⟨inT4 (List.mem_of_getElem? (i := 36) (by decide +kernel)), by rfl⟩
theorem m_279 : (.instanceMethod y_Md_rest : Cond) ∈ BIG := List.mem_filter.mpr ⟨inT4 (List.mem_of_getElem? (i := 38) (by decide +kernel)), by rfl⟩
theorem m_280 : (.selects R_Md y_Md_rest y_Md_rest : Cond) ∈ BIG := List.mem_filter.mpr ⟨inT0 (List.mem_of_getElem? (i := 25) (by decide +kernel)), by rfl⟩
theorem m_281 : (.code y_Md_cut b_Md_cut 3 (some .long) : Cond) ∈ BIG := List.mem_filter.mpr ⟨inT4 (List.mem_of_getElem? (i := 43) rfl), by rfl⟩
theorem m_282 : (.methodLink R_Md 119 y_Md_cut : Cond) ∈ BIG := List.mem_filter.mpr ⟨inT4 (List.mem_of_getElem? (i := 41) (by decide +kernel)), by rfl⟩
theorem m_283 : (.static y_Md_cut : Cond) ∈ BIG := List.mem_filter.mpr ⟨inT4 (List.mem_of_getElem? (i := 42) (by decide +kernel)), by rfl⟩
theorem m_284 : (.code y_Md_fails b_Md_fails 2 (some .long) : Cond) ∈ BIG := List.mem_filter.mpr ⟨inT3 (List.mem_of_getElem? (i := 231) rfl), by rfl⟩
theorem m_285 : (.methodLink R_Md 123 y_Md_fails : Cond) ∈ BIG := List.mem_filter.mpr ⟨inT3 (List.mem_of_getElem? (i := 228) (by decide +kernel)), by rfl⟩
theorem m_286 : (.instanceMethod y_Md_fails : Cond) ∈ BIG := List.mem_filter.mpr ⟨inT3 (List.mem_of_getElem? (i := 230) (by decide +kernel)), by rfl⟩
theorem m_287 : (.selects R_Md y_Md_fails y_Md_fails : Cond) ∈ BIG := List.mem_filter.mpr ⟨inT0 (List.mem_of_getElem? (i := 19) (by decide +kernel)), by rfl⟩
theorem m_288 : (.code y_Md_whole b_Md_whole 9 (some .long) : Cond) ∈ BIG := List.mem_filter.mpr ⟨inT4 (List.mem_of_getElem? (i := 48) rfl), by rfl⟩
theorem m_289 : (.methodLink R_Md 131 y_Md_whole : Cond) ∈ BIG := List.mem_filter.mpr ⟨inT4 (List.mem_of_getElem? (i := 45) (by decide +kernel)), by rfl⟩
theorem m_290 : (.instanceMethod y_Md_whole : Cond) ∈ BIG := List.mem_filter.mpr ⟨inT4 (List.mem_of_getElem? (i := 47) (by decide +kernel)), by rfl⟩
theorem m_291 : (.selects R_Md y_Md_whole y_Md_whole : Cond) ∈ BIG := List.mem_filter.mpr ⟨inT0 (List.mem_of_getElem? (i := 26) (by decide +kernel)), by rfl⟩
theorem m_292 : (.code y_Md_broken b_Md_broken 7 (some .long) : Cond) ∈ BIG := List.mem_filter.mpr ⟨inT3 (List.mem_of_getElem? (i := 235) rfl), by rfl⟩
theorem m_293 : (.methodLink R_Md 127 y_Md_broken : Cond) ∈ BIG := List.mem_filter.mpr ⟨inT3 (List.mem_of_getElem? (i := 232) (by decide +kernel)), by rfl⟩
theorem m_294 : (.instanceMethod y_Md_broken : Cond) ∈ BIG := List.mem_filter.mpr ⟨inT3 (List.mem_of_getElem? (i := 234) (by decide +kernel)), by rfl⟩
theorem m_295 : (.selects R_Md y_Md_broken y_Md_broken : Cond) ∈ BIG := List.mem_filter.mpr ⟨inT0 (List.mem_of_getElem? (i := 20) (by decide +kernel)), by rfl⟩
theorem m_296 : (.constantLong R_Md 139 (2147483647) : Cond) ∈ BIG := List.mem_filter.mpr ⟨inT4 (List.mem_of_getElem? (i := 63) (by decide +kernel)), by rfl⟩
theorem m_297 : (.constantLong R_Md 135 (9223372036854775807) : Cond) ∈ BIG := List.mem_filter.mpr ⟨inT4 (List.mem_of_getElem? (i := 62) (by decide +kernel)), by rfl⟩
theorem m_298 : (.code y_Md_towards b_Md_towards 7 (some .long) : Cond) ∈ BIG := List.mem_filter.mpr ⟨inT4 (List.mem_of_getElem? (i := 61) rfl), by rfl⟩
theorem m_299 : (.methodLink R_Md 143 y_Md_towards : Cond) ∈ BIG := List.mem_filter.mpr ⟨inT4 (List.mem_of_getElem? (i := 58) (by decide +kernel)), by rfl⟩
theorem m_300 : (.instanceMethod y_Md_towards : Cond) ∈ BIG := List.mem_filter.mpr ⟨inT4 (List.mem_of_getElem? (i := 60) (by decide +kernel)), by rfl⟩
theorem m_301 : (.selects R_Md y_Md_towards y_Md_towards : Cond) ∈ BIG := List.mem_filter.mpr ⟨inT0 (List.mem_of_getElem? (i := 27) (by decide +kernel)), by rfl⟩
theorem m_302 : (.constantLong R_Md 141 (4611686018427387904) : Cond) ∈ BIG := List.mem_filter.mpr ⟨inT4 (List.mem_of_getElem? (i := 57) (by decide +kernel)), by rfl⟩
theorem m_303 : (.fieldLink R_Md 16 R_Md "letters" "[I" : Cond) ∈ BIG := List.mem_filter.mpr ⟨inT3 (List.mem_of_getElem? (i := 175) (by decide +kernel)), by rfl⟩
theorem m_304 : (.fieldLink R_Md 146 R_Md "laid" "I" : Cond) ∈ BIG := List.mem_filter.mpr ⟨inT3 (List.mem_of_getElem? (i := 176) (by decide +kernel)), by rfl⟩
theorem m_305 : (.fieldLink R_Rs 13 R_Rs "written" "[I" : Cond) ∈ BIG := List.mem_filter.mpr ⟨inT3 (List.mem_of_getElem? (i := 103) (by decide +kernel)), by rfl⟩
theorem m_306 : (.fieldLink R_Rs 168 R_Rs "laid" "I" : Cond) ∈ BIG := List.mem_filter.mpr ⟨inT3 (List.mem_of_getElem? (i := 104) (by decide +kernel)), by rfl⟩
theorem m_307 : (.constantLong R_Rs 212 (255) : Cond) ∈ BIG := List.mem_filter.mpr ⟨inT4 (List.mem_of_getElem? (i := 88) (by decide +kernel)), by rfl⟩
theorem m_308 : (.code y_Rs_lay b_Rs_lay 2 none : Cond) ∈ BIG := List.mem_filter.mpr ⟨inT4 (List.mem_of_getElem? (i := 92) rfl), by rfl⟩
theorem m_309 : (.methodLink R_Rs 197 y_Rs_lay : Cond) ∈ BIG := List.mem_filter.mpr ⟨inT4 (List.mem_of_getElem? (i := 89) (by decide +kernel)), by rfl⟩
theorem m_310 : (.instanceMethod y_Rs_lay : Cond) ∈ BIG := List.mem_filter.mpr ⟨inT4 (List.mem_of_getElem? (i := 91) (by decide +kernel)), by rfl⟩
theorem m_311 : (.selects R_Rs y_Rs_lay y_Rs_lay : Cond) ∈ BIG := List.mem_filter.mpr ⟨inT0 (List.mem_of_getElem? (i := 29) (by decide +kernel)), by rfl⟩
theorem m_312 : (.initialized R_Rs : Cond) ∈ BIG := List.mem_filter.mpr ⟨inT1 (List.mem_of_getElem? (i := 6) (by decide +kernel)), by rfl⟩
theorem m_313 : (.code y_Rs_trimmed b_Rs_trimmed 3 (some .int) : Cond) ∈ BIG := List.mem_filter.mpr ⟨inT4 (List.mem_of_getElem? (i := 124) rfl), by rfl⟩
theorem m_314 : (.methodLink R_Rs 51 y_Rs_trimmed : Cond) ∈ BIG := List.mem_filter.mpr ⟨inT4 (List.mem_of_getElem? (i := 122) (by decide +kernel)), by rfl⟩
theorem m_315 : (.static y_Rs_trimmed : Cond) ∈ BIG := List.mem_filter.mpr ⟨inT4 (List.mem_of_getElem? (i := 123) (by decide +kernel)), by rfl⟩
theorem m_316 : (.constantLong R_Rs 49 (65535) : Cond) ∈ BIG := List.mem_filter.mpr ⟨inT4 (List.mem_of_getElem? (i := 121) (by decide +kernel)), by rfl⟩
theorem m_317 : (.code y_Rs_grow b_Rs_grow 9 (some .int) : Cond) ∈ BIG := List.mem_filter.mpr ⟨inT4 (List.mem_of_getElem? (i := 130) rfl), by rfl⟩
theorem m_318 : (.methodLink R_Rs 55 y_Rs_grow : Cond) ∈ BIG := List.mem_filter.mpr ⟨inT4 (List.mem_of_getElem? (i := 128) (by decide +kernel)), by rfl⟩
theorem m_319 : (.static y_Rs_grow : Cond) ∈ BIG := List.mem_filter.mpr ⟨inT4 (List.mem_of_getElem? (i := 129) (by decide +kernel)), by rfl⟩
theorem m_320 : (.fieldLink R_Rs 22 R_Rs "five" "[I" : Cond) ∈ BIG := List.mem_filter.mpr ⟨inT3 (List.mem_of_getElem? (i := 109) (by decide +kernel)), by rfl⟩
theorem m_321 : (.code y_Rs_set b_Rs_set 4 (some .int) : Cond) ∈ BIG := List.mem_filter.mpr ⟨inT4 (List.mem_of_getElem? (i := 120) rfl), by rfl⟩
theorem m_322 : (.methodLink R_Rs 158 y_Rs_set : Cond) ∈ BIG := List.mem_filter.mpr ⟨inT4 (List.mem_of_getElem? (i := 118) (by decide +kernel)), by rfl⟩
theorem m_323 : (.static y_Rs_set : Cond) ∈ BIG := List.mem_filter.mpr ⟨inT4 (List.mem_of_getElem? (i := 119) (by decide +kernel)), by rfl⟩
theorem m_324 : (.fieldLink R_Rs 171 R_Rs "fiveMany" "I" : Cond) ∈ BIG := List.mem_filter.mpr ⟨inT3 (List.mem_of_getElem? (i := 115) (by decide +kernel)), by rfl⟩
theorem m_325 : (.fieldLink R_Rs 19 R_Rs "b" "[I" : Cond) ∈ BIG := List.mem_filter.mpr ⟨inT3 (List.mem_of_getElem? (i := 108) (by decide +kernel)), by rfl⟩
theorem m_326 : (.fieldLink R_Rs 72 R_Rs "bMany" "I" : Cond) ∈ BIG := List.mem_filter.mpr ⟨inT3 (List.mem_of_getElem? (i := 114) (by decide +kernel)), by rfl⟩
theorem m_327 : (.fieldLink R_Rs 59 R_Rs "twos" "I" : Cond) ∈ BIG := List.mem_filter.mpr ⟨inT3 (List.mem_of_getElem? (i := 118) (by decide +kernel)), by rfl⟩
theorem m_328 : (.code y_Rs_fives b_Rs_fives 5 (some .int) : Cond) ∈ BIG := List.mem_filter.mpr ⟨inT4 (List.mem_of_getElem? (i := 127) rfl), by rfl⟩
theorem m_329 : (.methodLink R_Rs 162 y_Rs_fives : Cond) ∈ BIG := List.mem_filter.mpr ⟨inT4 (List.mem_of_getElem? (i := 125) (by decide +kernel)), by rfl⟩
theorem m_330 : (.static y_Rs_fives : Cond) ∈ BIG := List.mem_filter.mpr ⟨inT4 (List.mem_of_getElem? (i := 126) (by decide +kernel)), by rfl⟩
theorem m_331 : (.fieldLink R_Rs 69 R_Rs "leftMany" "I" : Cond) ∈ BIG := List.mem_filter.mpr ⟨inT3 (List.mem_of_getElem? (i := 116) (by decide +kernel)), by rfl⟩
theorem m_332 : (.fieldLink R_Rs 28 R_Rs "right" "[I" : Cond) ∈ BIG := List.mem_filter.mpr ⟨inT3 (List.mem_of_getElem? (i := 111) (by decide +kernel)), by rfl⟩
theorem m_333 : (.code y_Rs_times b_Rs_times 14 (some .int) : Cond) ∈ BIG := List.mem_filter.mpr ⟨inT4 (List.mem_of_getElem? (i := 138) rfl), by rfl⟩
theorem m_334 : (.methodLink R_Rs 75 y_Rs_times : Cond) ∈ BIG := List.mem_filter.mpr ⟨inT4 (List.mem_of_getElem? (i := 135) (by decide +kernel)), by rfl⟩
theorem m_335 : (.instanceMethod y_Rs_times : Cond) ∈ BIG := List.mem_filter.mpr ⟨inT4 (List.mem_of_getElem? (i := 137) (by decide +kernel)), by rfl⟩
theorem m_336 : (.selects R_Rs y_Rs_times y_Rs_times : Cond) ∈ BIG := List.mem_filter.mpr ⟨inT0 (List.mem_of_getElem? (i := 35) (by decide +kernel)), by rfl⟩
theorem m_337 : (.fieldLink R_Rs 79 R_Rs "rightMany" "I" : Cond) ∈ BIG := List.mem_filter.mpr ⟨inT3 (List.mem_of_getElem? (i := 117) (by decide +kernel)), by rfl⟩
theorem m_338 : (.fieldLink R_Rs 25 R_Rs "left" "[I" : Cond) ∈ BIG := List.mem_filter.mpr ⟨inT3 (List.mem_of_getElem? (i := 110) (by decide +kernel)), by rfl⟩
theorem m_339 : (.code y_Rs_shifted b_Rs_shifted 6 (some .int) : Cond) ∈ BIG := List.mem_filter.mpr ⟨inT4 (List.mem_of_getElem? (i := 145) rfl), by rfl⟩
theorem m_340 : (.methodLink R_Rs 65 y_Rs_shifted : Cond) ∈ BIG := List.mem_filter.mpr ⟨inT4 (List.mem_of_getElem? (i := 143) (by decide +kernel)), by rfl⟩
theorem m_341 : (.static y_Rs_shifted : Cond) ∈ BIG := List.mem_filter.mpr ⟨inT4 (List.mem_of_getElem? (i := 144) (by decide +kernel)), by rfl⟩
theorem m_342 : (.fieldLink R_Rs 62 R_Rs "aMany" "I" : Cond) ∈ BIG := List.mem_filter.mpr ⟨inT3 (List.mem_of_getElem? (i := 113) (by decide +kernel)), by rfl⟩
theorem m_343 : (.fieldLink R_Rs 16 R_Rs "a" "[I" : Cond) ∈ BIG := List.mem_filter.mpr ⟨inT3 (List.mem_of_getElem? (i := 107) (by decide +kernel)), by rfl⟩
theorem m_344 : (.code y_Rs_compare b_Rs_compare 6 (some .int) : Cond) ∈ BIG := List.mem_filter.mpr ⟨inT4 (List.mem_of_getElem? (i := 142) rfl), by rfl⟩
theorem m_345 : (.methodLink R_Rs 96 y_Rs_compare : Cond) ∈ BIG := List.mem_filter.mpr ⟨inT4 (List.mem_of_getElem? (i := 139) (by decide +kernel)), by rfl⟩
theorem m_346 : (.instanceMethod y_Rs_compare : Cond) ∈ BIG := List.mem_filter.mpr ⟨inT4 (List.mem_of_getElem? (i := 141) (by decide +kernel)), by rfl⟩
theorem m_347 : (.selects R_Rs y_Rs_compare y_Rs_compare : Cond) ∈ BIG := List.mem_filter.mpr ⟨inT0 (List.mem_of_getElem? (i := 36) (by decide +kernel)), by rfl⟩
theorem m_348 : (.code y_Rs_scale b_Rs_scale 2 none : Cond) ∈ BIG := List.mem_filter.mpr ⟨inT4 (List.mem_of_getElem? (i := 117) rfl), by rfl⟩
theorem m_349 : (.methodLink R_Rs 174 y_Rs_scale : Cond) ∈ BIG := List.mem_filter.mpr ⟨inT4 (List.mem_of_getElem? (i := 114) (by decide +kernel)), by rfl⟩
theorem m_350 : (.instanceMethod y_Rs_scale : Cond) ∈ BIG := List.mem_filter.mpr ⟨inT4 (List.mem_of_getElem? (i := 116) (by decide +kernel)), by rfl⟩
theorem m_351 : (.selects R_Rs y_Rs_scale y_Rs_scale : Cond) ∈ BIG := List.mem_filter.mpr ⟨inT0 (List.mem_of_getElem? (i := 33) (by decide +kernel)), by rfl⟩
theorem m_352 : (.code y_Rs_compareDigits b_Rs_compareDigits 6 (some .int) : Cond) ∈ BIG := List.mem_filter.mpr ⟨inT4 (List.mem_of_getElem? (i := 134) rfl), by rfl⟩
theorem m_353 : (.methodLink R_Rs 178 y_Rs_compareDigits : Cond) ∈ BIG := List.mem_filter.mpr ⟨inT4 (List.mem_of_getElem? (i := 131) (by decide +kernel)), by rfl⟩
theorem m_354 : (.instanceMethod y_Rs_compareDigits : Cond) ∈ BIG := List.mem_filter.mpr ⟨inT4 (List.mem_of_getElem? (i := 133) (by decide +kernel)), by rfl⟩
theorem m_355 : (.selects R_Rs y_Rs_compareDigits y_Rs_compareDigits : Cond) ∈ BIG := List.mem_filter.mpr ⟨inT0 (List.mem_of_getElem? (i := 34) (by decide +kernel)), by rfl⟩
theorem m_356 : (.constantLong R_Rs 86 (2) : Cond) ∈ BIG := List.mem_filter.mpr ⟨inT4 (List.mem_of_getElem? (i := 150) (by decide +kernel)), by rfl⟩
theorem m_357 : (.code y_Rs_mantissa b_Rs_mantissa 6 (some .long) : Cond) ∈ BIG := List.mem_filter.mpr ⟨inT4 (List.mem_of_getElem? (i := 105) rfl), by rfl⟩
theorem m_358 : (.methodLink R_Rs 88 y_Rs_mantissa : Cond) ∈ BIG := List.mem_filter.mpr ⟨inT4 (List.mem_of_getElem? (i := 103) (by decide +kernel)), by rfl⟩
theorem m_359 : (.static y_Rs_mantissa : Cond) ∈ BIG := List.mem_filter.mpr ⟨inT4 (List.mem_of_getElem? (i := 104) (by decide +kernel)), by rfl⟩
theorem m_360 : (.code y_Rs_exponent b_Rs_exponent 4 (some .int) : Cond) ∈ BIG := List.mem_filter.mpr ⟨inT4 (List.mem_of_getElem? (i := 109) rfl), by rfl⟩
theorem m_361 : (.methodLink R_Rs 92 y_Rs_exponent : Cond) ∈ BIG := List.mem_filter.mpr ⟨inT4 (List.mem_of_getElem? (i := 107) (by decide +kernel)), by rfl⟩
theorem m_362 : (.static y_Rs_exponent : Cond) ∈ BIG := List.mem_filter.mpr ⟨inT4 (List.mem_of_getElem? (i := 108) (by decide +kernel)), by rfl⟩
theorem m_363 : (.code y_Rs_above b_Rs_above 4 (some .int) : Cond) ∈ BIG := List.mem_filter.mpr ⟨inT4 (List.mem_of_getElem? (i := 158) rfl), by rfl⟩
theorem m_364 : (.methodLink R_Rs 104 y_Rs_above : Cond) ∈ BIG := List.mem_filter.mpr ⟨inT4 (List.mem_of_getElem? (i := 155) (by decide +kernel)), by rfl⟩
theorem m_365 : (.instanceMethod y_Rs_above : Cond) ∈ BIG := List.mem_filter.mpr ⟨inT4 (List.mem_of_getElem? (i := 157) (by decide +kernel)), by rfl⟩
theorem m_366 : (.selects R_Rs y_Rs_above y_Rs_above : Cond) ∈ BIG := List.mem_filter.mpr ⟨inT0 (List.mem_of_getElem? (i := 39) (by decide +kernel)), by rfl⟩
theorem m_367 : (.constantLong R_Rs 182 (10) : Cond) ∈ BIG := List.mem_filter.mpr ⟨inT4 (List.mem_of_getElem? (i := 106) (by decide +kernel)), by rfl⟩
theorem m_368 : (.code y_Rs_tens b_Rs_tens 7 (some .int) : Cond) ∈ BIG := List.mem_filter.mpr ⟨inT4 (List.mem_of_getElem? (i := 113) rfl), by rfl⟩
theorem m_369 : (.methodLink R_Rs 184 y_Rs_tens : Cond) ∈ BIG := List.mem_filter.mpr ⟨inT4 (List.mem_of_getElem? (i := 110) (by decide +kernel)), by rfl⟩
theorem m_370 : (.instanceMethod y_Rs_tens : Cond) ∈ BIG := List.mem_filter.mpr ⟨inT4 (List.mem_of_getElem? (i := 112) (by decide +kernel)), by rfl⟩
theorem m_371 : (.selects R_Rs y_Rs_tens y_Rs_tens : Cond) ∈ BIG := List.mem_filter.mpr ⟨inT0 (List.mem_of_getElem? (i := 32) (by decide +kernel)), by rfl⟩
theorem m_372 : (.fieldLink R_Rs 127 R_Rs "power" "I" : Cond) ∈ BIG := List.mem_filter.mpr ⟨inT3 (List.mem_of_getElem? (i := 119) (by decide +kernel)), by rfl⟩
theorem m_373 : (.code y_Rs_most b_Rs_most 12 (some .long) : Cond) ∈ BIG := List.mem_filter.mpr ⟨inT4 (List.mem_of_getElem? (i := 149) rfl), by rfl⟩
theorem m_374 : (.methodLink R_Rs 187 y_Rs_most : Cond) ∈ BIG := List.mem_filter.mpr ⟨inT4 (List.mem_of_getElem? (i := 146) (by decide +kernel)), by rfl⟩
theorem m_375 : (.instanceMethod y_Rs_most : Cond) ∈ BIG := List.mem_filter.mpr ⟨inT4 (List.mem_of_getElem? (i := 148) (by decide +kernel)), by rfl⟩
theorem m_376 : (.selects R_Rs y_Rs_most y_Rs_most : Cond) ∈ BIG := List.mem_filter.mpr ⟨inT0 (List.mem_of_getElem? (i := 37) (by decide +kernel)), by rfl⟩
theorem m_377 : (.code y_Rs_isRead b_Rs_isRead 9 (some .boolean) : Cond) ∈ BIG := List.mem_filter.mpr ⟨inT4 (List.mem_of_getElem? (i := 154) rfl), by rfl⟩
theorem m_378 : (.methodLink R_Rs 191 y_Rs_isRead : Cond) ∈ BIG := List.mem_filter.mpr ⟨inT4 (List.mem_of_getElem? (i := 151) (by decide +kernel)), by rfl⟩
theorem m_379 : (.instanceMethod y_Rs_isRead : Cond) ∈ BIG := List.mem_filter.mpr ⟨inT4 (List.mem_of_getElem? (i := 153) (by decide +kernel)), by rfl⟩
theorem m_380 : (.selects R_Rs y_Rs_isRead y_Rs_isRead : Cond) ∈ BIG := List.mem_filter.mpr ⟨inT0 (List.mem_of_getElem? (i := 38) (by decide +kernel)), by rfl⟩
theorem m_381 : (.constantLong R_Rs 195 (48) : Cond) ∈ BIG := List.mem_filter.mpr ⟨inT4 (List.mem_of_getElem? (i := 167) (by decide +kernel)), by rfl⟩
theorem m_382 : (.code y_Rs_shortest b_Rs_shortest 16 (some .long) : Cond) ∈ BIG := List.mem_filter.mpr ⟨inT4 (List.mem_of_getElem? (i := 102) rfl), by rfl⟩
theorem m_383 : (.methodLink R_Rs 200 y_Rs_shortest : Cond) ∈ BIG := List.mem_filter.mpr ⟨inT4 (List.mem_of_getElem? (i := 99) (by decide +kernel)), by rfl⟩
theorem m_384 : (.instanceMethod y_Rs_shortest : Cond) ∈ BIG := List.mem_filter.mpr ⟨inT4 (List.mem_of_getElem? (i := 101) (by decide +kernel)), by rfl⟩
theorem m_385 : (.selects R_Rs y_Rs_shortest y_Rs_shortest : Cond) ∈ BIG := List.mem_filter.mpr ⟨inT0 (List.mem_of_getElem? (i := 31) (by decide +kernel)), by rfl⟩
theorem m_386 : (.code y_Rs_in b_Rs_in 3 (some .boolean) : Cond) ∈ BIG := List.mem_filter.mpr ⟨inT4 (List.mem_of_getElem? (i := 162) rfl), by rfl⟩
theorem m_387 : (.methodLink R_Rs 38 y_Rs_in : Cond) ∈ BIG := List.mem_filter.mpr ⟨inT4 (List.mem_of_getElem? (i := 160) (by decide +kernel)), by rfl⟩
theorem m_388 : (.static y_Rs_in : Cond) ∈ BIG := List.mem_filter.mpr ⟨inT4 (List.mem_of_getElem? (i := 161) (by decide +kernel)), by rfl⟩
theorem m_389 : (.code y_Rs_layDigits b_Rs_layDigits 10 none : Cond) ∈ BIG := List.mem_filter.mpr ⟨inT4 (List.mem_of_getElem? (i := 166) rfl), by rfl⟩
theorem m_390 : (.methodLink R_Rs 205 y_Rs_layDigits : Cond) ∈ BIG := List.mem_filter.mpr ⟨inT4 (List.mem_of_getElem? (i := 163) (by decide +kernel)), by rfl⟩
theorem m_391 : (.instanceMethod y_Rs_layDigits : Cond) ∈ BIG := List.mem_filter.mpr ⟨inT4 (List.mem_of_getElem? (i := 165) (by decide +kernel)), by rfl⟩
theorem m_392 : (.selects R_Rs y_Rs_layDigits y_Rs_layDigits : Cond) ∈ BIG := List.mem_filter.mpr ⟨inT0 (List.mem_of_getElem? (i := 40) (by decide +kernel)), by rfl⟩
theorem m_393 : (.code y_Rs_layNumber b_Rs_layNumber 3 none : Cond) ∈ BIG := List.mem_filter.mpr ⟨inT4 (List.mem_of_getElem? (i := 171) rfl), by rfl⟩
theorem m_394 : (.methodLink R_Rs 209 y_Rs_layNumber : Cond) ∈ BIG := List.mem_filter.mpr ⟨inT4 (List.mem_of_getElem? (i := 168) (by decide +kernel)), by rfl⟩
theorem m_395 : (.instanceMethod y_Rs_layNumber : Cond) ∈ BIG := List.mem_filter.mpr ⟨inT4 (List.mem_of_getElem? (i := 170) (by decide +kernel)), by rfl⟩
theorem m_396 : (.selects R_Rs y_Rs_layNumber y_Rs_layNumber : Cond) ∈ BIG := List.mem_filter.mpr ⟨inT0 (List.mem_of_getElem? (i := 41) (by decide +kernel)), by rfl⟩
theorem m_397 : (.constantLong R_Rs 203 (9) : Cond) ∈ BIG := List.mem_filter.mpr ⟨inT4 (List.mem_of_getElem? (i := 159) (by decide +kernel)), by rfl⟩
theorem m_398 : (.fieldLink R_Rs 34 R_Rs "thrown" "I" : Cond) ∈ BIG := List.mem_filter.mpr ⟨inT3 (List.mem_of_getElem? (i := 106) (by decide +kernel)), by rfl⟩
theorem m_399 : (.fieldLink R_Rs 214 R_Rs "gone" "I" : Cond) ∈ BIG := List.mem_filter.mpr ⟨inT3 (List.mem_of_getElem? (i := 105) (by decide +kernel)), by rfl⟩
theorem m_400 : (.constantLong R_Rs 219 (9223372036854775807) : Cond) ∈ BIG := List.mem_filter.mpr ⟨inT4 (List.mem_of_getElem? (i := 77) (by decide +kernel)), by rfl⟩
theorem m_401 : (.constantLong R_Rs 217 (2147483647) : Cond) ∈ BIG := List.mem_filter.mpr ⟨inT4 (List.mem_of_getElem? (i := 76) (by decide +kernel)), by rfl⟩
theorem m_402 : (.code y_Rs_greatest b_Rs_greatest 1 (some .long) : Cond) ∈ BIG := List.mem_filter.mpr ⟨inT4 (List.mem_of_getElem? (i := 80) rfl), by rfl⟩
theorem m_403 : (.methodLink R_Rs 100 y_Rs_greatest : Cond) ∈ BIG := List.mem_filter.mpr ⟨inT4 (List.mem_of_getElem? (i := 78) (by decide +kernel)), by rfl⟩
theorem m_404 : (.static y_Rs_greatest : Cond) ∈ BIG := List.mem_filter.mpr ⟨inT4 (List.mem_of_getElem? (i := 79) (by decide +kernel)), by rfl⟩
theorem m_405 : (.code y_Rs_layDecimal b_Rs_layDecimal 10 none : Cond) ∈ BIG := List.mem_filter.mpr ⟨inT4 (List.mem_of_getElem? (i := 98) rfl), by rfl⟩
theorem m_406 : (.methodLink R_Rs 231 y_Rs_layDecimal : Cond) ∈ BIG := List.mem_filter.mpr ⟨inT4 (List.mem_of_getElem? (i := 95) (by decide +kernel)), by rfl⟩
theorem m_407 : (.instanceMethod y_Rs_layDecimal : Cond) ∈ BIG := List.mem_filter.mpr ⟨inT4 (List.mem_of_getElem? (i := 97) (by decide +kernel)), by rfl⟩
theorem m_408 : (.selects R_Rs y_Rs_layDecimal y_Rs_layDecimal : Cond) ∈ BIG := List.mem_filter.mpr ⟨inT0 (List.mem_of_getElem? (i := 30) (by decide +kernel)), by rfl⟩
theorem m_409 : (.constantLong R_Rs 229 (3157552) : Cond) ∈ BIG := List.mem_filter.mpr ⟨inT4 (List.mem_of_getElem? (i := 94) (by decide +kernel)), by rfl⟩
theorem m_410 : (.code y_Rs_layWord b_Rs_layWord 5 none : Cond) ∈ BIG := List.mem_filter.mpr ⟨inT4 (List.mem_of_getElem? (i := 87) rfl), by rfl⟩
theorem m_411 : (.methodLink R_Rs 223 y_Rs_layWord : Cond) ∈ BIG := List.mem_filter.mpr ⟨inT4 (List.mem_of_getElem? (i := 84) (by decide +kernel)), by rfl⟩
theorem m_412 : (.instanceMethod y_Rs_layWord : Cond) ∈ BIG := List.mem_filter.mpr ⟨inT4 (List.mem_of_getElem? (i := 86) (by decide +kernel)), by rfl⟩
theorem m_413 : (.selects R_Rs y_Rs_layWord y_Rs_layWord : Cond) ∈ BIG := List.mem_filter.mpr ⟨inT0 (List.mem_of_getElem? (i := 28) (by decide +kernel)), by rfl⟩
theorem m_414 : (.constantLong R_Rs 227 (5291279215216915577) : Cond) ∈ BIG := List.mem_filter.mpr ⟨inT4 (List.mem_of_getElem? (i := 93) (by decide +kernel)), by rfl⟩
theorem m_415 : (.constantLong R_Rs 221 (5136718) : Cond) ∈ BIG := List.mem_filter.mpr ⟨inT4 (List.mem_of_getElem? (i := 83) (by decide +kernel)), by rfl⟩
theorem m_416 : (.fieldLink R_Md 149 R_Md "gone" "I" : Cond) ∈ BIG := List.mem_filter.mpr ⟨inT3 (List.mem_of_getElem? (i := 177) (by decide +kernel)), by rfl⟩
theorem m_417 : (.constantLong R_Md 168 (10) : Cond) ∈ BIG := List.mem_filter.mpr ⟨inT4 (List.mem_of_getElem? (i := 182) (by decide +kernel)), by rfl⟩
theorem m_418 : (.constantLong R_Md 170 (48) : Cond) ∈ BIG := List.mem_filter.mpr ⟨inT4 (List.mem_of_getElem? (i := 183) (by decide +kernel)), by rfl⟩
theorem m_419 : (.code y_Md_lay b_Md_lay 2 none : Cond) ∈ BIG := List.mem_filter.mpr ⟨inT4 (List.mem_of_getElem? (i := 179) rfl), by rfl⟩
theorem m_420 : (.methodLink R_Md 160 y_Md_lay : Cond) ∈ BIG := List.mem_filter.mpr ⟨inT4 (List.mem_of_getElem? (i := 176) (by decide +kernel)), by rfl⟩
theorem m_421 : (.instanceMethod y_Md_lay : Cond) ∈ BIG := List.mem_filter.mpr ⟨inT4 (List.mem_of_getElem? (i := 178) (by decide +kernel)), by rfl⟩
theorem m_422 : (.selects R_Md y_Md_lay y_Md_lay : Cond) ∈ BIG := List.mem_filter.mpr ⟨inT0 (List.mem_of_getElem? (i := 42) (by decide +kernel)), by rfl⟩
theorem m_423 : (.constantLong R_Md 164 (9) : Cond) ∈ BIG := List.mem_filter.mpr ⟨inT4 (List.mem_of_getElem? (i := 180) (by decide +kernel)), by rfl⟩
theorem m_424 : (.constantLong R_Md 166 (-9) : Cond) ∈ BIG := List.mem_filter.mpr ⟨inT4 (List.mem_of_getElem? (i := 181) (by decide +kernel)), by rfl⟩
theorem m_425 : (.fieldLink R_Md 10 R_Md "reals" "LPrimitiveBitsModel$Reals;" : Cond) ∈ BIG := List.mem_filter.mpr ⟨inT3 (List.mem_of_getElem? (i := 174) (by decide +kernel)), by rfl⟩
theorem m_426 : (.code y_Rs_write b_Rs_write 7 (some .int) : Cond) ∈ BIG := List.mem_filter.mpr ⟨inT4 (List.mem_of_getElem? (i := 75) rfl), by rfl⟩
theorem m_427 : (.methodLink R_Md 152 y_Rs_write : Cond) ∈ BIG := List.mem_filter.mpr ⟨inT4 (List.mem_of_getElem? (i := 72) (by decide +kernel)), by rfl⟩
theorem m_428 : (.instanceMethod y_Rs_write : Cond) ∈ BIG := List.mem_filter.mpr ⟨inT4 (List.mem_of_getElem? (i := 73) (by decide +kernel)), by rfl⟩
theorem m_429 : (.selects R_Rs y_Rs_write y_Rs_write : Cond) ∈ BIG := List.mem_filter.mpr ⟨inT4 (List.mem_of_getElem? (i := 74) (by decide +kernel)), by rfl⟩
theorem m_430 : (.code y_Rs_letter b_Rs_letter 2 (some .int) : Cond) ∈ BIG := List.mem_filter.mpr ⟨inT4 (List.mem_of_getElem? (i := 175) rfl), by rfl⟩
theorem m_431 : (.methodLink R_Md 156 y_Rs_letter : Cond) ∈ BIG := List.mem_filter.mpr ⟨inT4 (List.mem_of_getElem? (i := 172) (by decide +kernel)), by rfl⟩
theorem m_432 : (.instanceMethod y_Rs_letter : Cond) ∈ BIG := List.mem_filter.mpr ⟨inT4 (List.mem_of_getElem? (i := 173) (by decide +kernel)), by rfl⟩
theorem m_433 : (.selects R_Rs y_Rs_letter y_Rs_letter : Cond) ∈ BIG := List.mem_filter.mpr ⟨inT4 (List.mem_of_getElem? (i := 174) (by decide +kernel)), by rfl⟩
end
section
/-! Own rows: a function's text and the walk's steps side by side; contracts that leave the heap as it is. -/
def lt_ {α β : Type} (e : α) (f : α → β) : β := f e
def gz_ {β : Type} (c : Prop) [Decidable c] (f : Option β) : Option β := if c then none else f
theorem lt_h {α β : Type} {e x : α} {f : α → β} {r : β} (hx : x = e) (h : lt_ e f = r) : f x = r := by subst hx; exact h
theorem lt_o {α β : Type} {e : α} {f : α → β} {r : β} (h : lt_ e f = r) : ∃ x, x = e ∧ f x = r := ⟨e, rfl, h⟩
theorem ite_t {β : Type} {c : Prop} [Decidable c] {a b r : β} (hc : c) (h : (if c then a else b) = r) : a = r := (if_pos hc).symm.trans h
theorem ite_f {β : Type} {c : Prop} [Decidable c] {a b r : β} (hc : ¬ c) (h : (if c then a else b) = r) : b = r := (if_neg hc).symm.trans h
theorem gz_n {β : Type} {c : Prop} [Decidable c] {f : Option β} {r : β} (h : gz_ c f = some r) : ¬ c := by
  intro hc
  unfold gz_ at h
  rw [if_pos hc] at h
  cases h
theorem gz_h {β : Type} {c : Prop} [Decidable c] {f : Option β} {r : β} (h : gz_ c f = some r) : f = some r := by
  have hc := gz_n h
  unfold gz_ at h
  rw [if_neg hc] at h
  exact h
theorem bd_o {α β : Type} {x : Option α} {f : α → Option β} {r : β} (h : x.bind f = some r) : ∃ v, x = some v ∧ f v = some r := by
  cases x with
  | none => cases h
  | some v => exact ⟨v, rfl, h⟩
theorem no_s {β : Type} {r : β} {P : Prop} (h : (none : Option β) = some r) : P := by cases h
theorem ite01 {c : Prop} [Decidable c] {a b : Int32} (ha : a = 0 ∨ a = 1) (hb : b = 0 ∨ b = 1) : (if c then a else b) = 0 ∨ (if c then a else b) = 1 := by
  by_cases h : c
  · rw [if_pos h]; exact ha
  · rw [if_neg h]; exact hb
theorem nb_1 {v : Int32} (h : v = 0 ∨ v = 1) : narrow .boolean (.int v) = .int v := by rcases h with rfl | rfl <;> rfl
theorem nb_2 {v : Int32} (h : v = 0 ∨ v = 1) : fits .boolean (.int v) = true := by rcases h with rfl | rfl <;> rfl
abbrev rK : Type := Int32 × Int32 × Int32 × Int64 × Int64
abbrev pQ (v : Value) : Array Value → State → Outcome → State → Prop := fun _ st oc t => oc = .returned (some v) ∧ t.heap = st.heap
def rAt (o : Nat) (K : rK) (U : State) : Prop := va_O R_Real o (fun _ => False) U U.heap ∧ va_OF R_Real "fractionBits" "I" (.int K.1) o (fun _ => False) U U.heap ∧ va_OF R_Real "topExponent" "I" (.int K.2.1) o (fun _ => False) U U.heap ∧ va_OF R_Real "lowestPower" "I" (.int K.2.2.1) o (fun _ => False) U U.heap ∧ va_OF R_Real "signBit" "J" (.long K.2.2.2.1) o (fun _ => False) U U.heap ∧ va_OF R_Real "infinity" "J" (.long K.2.2.2.2) o (fun _ => False) U U.heap
/-- the two links to a nest mate's method -/
def nB (U : State) : Prop := va_Nw nw_Real U ∧ va_Nw nw_SD U
theorem nB_mv {s U : State} (hW : s.WarmedH U.vm) (h : nB s) : nB U := ⟨va_Nw.warmM hW h.1, va_Nw.warmM hW h.2⟩
theorem nB_bl (U : State) (g : JFrame) (mk : MethodId) (a : Array Value) (h : nB U) : nB (U.calling g mk a) := ⟨va_Nw.same (u := U) (U := U.calling g mk a) rfl rfl h.1, va_Nw.same (u := U) (U := U.calling g mk a) rfl rfl h.2⟩
theorem hNB_Real {U : State} (h : nB U) : va_Nw nw_Real U := h.1
theorem hNB_SD {U : State} (h : nB U) : va_Nw nw_SD U := h.2
theorem rAt_mv {s U : State} {o : Nat} {K : rK} (hU : U.heap = s.heap) (hW : s.vm.Alike U.vm) (h : rAt o K s) : rAt o K U := by
  obtain ⟨h0, h1, h2, h3, h4, h5⟩ := h
  unfold rAt
  rw [hU]
  exact ⟨h0.moved hW, h1.moved hW, h2.moved hW, h3.moved hW, h4.moved hW, h5.moved hW⟩
theorem rAt_bl {o : Nat} {K : rK} (U : State) (g : JFrame) (mk : MethodId) (a : Array Value) (h : rAt o K U) : rAt o K (U.calling g mk a) := rAt_mv (s := U) (U := U.calling g mk a) rfl (Vm.Alike.refl U.vm) h
theorem rAt_rc {s : State} {o : Nat} {K : rK} (h : rAt o K s) : ∃ cell : Cell, s.heap[o]? = some cell ∧ cell.vm.isStatics = false ∧ s.vm.findClass R_Real = some cell.cls := by
  obtain ⟨cell, h1, h2, h3, -⟩ := h.1
  exact ⟨cell, h1, h2, h3⟩
abbrev pre0 (U : State) : Prop := nB U
abbrev pre1 (o : Nat) (K : rK) (U : State) : Prop := nB U ∧ rAt o K U
abbrev pre2 (o : Nat) (K : rK) (o' : Nat) (K' : rK) (U : State) : Prop := nB U ∧ rAt o K U ∧ rAt o' K' U
theorem p0_mv {s U : State} {H : Heap} (_ : U.heap = H) (hW : s.WarmedH U.vm) (h : nB s) : pre0 U := nB_mv hW h
theorem p1_mv {s U : State} {o : Nat} {K : rK} (hU : U.heap = s.heap) (hW : s.WarmedH U.vm) (h : nB s) (h1 : rAt o K s) : pre1 o K U := ⟨nB_mv hW h, rAt_mv hU hW.alike h1⟩
theorem p2_mv {s U : State} {o : Nat} {K : rK} {o' : Nat} {K' : rK} (hU : U.heap = s.heap) (hW : s.WarmedH U.vm) (h : nB s) (h1 : rAt o K s) (h2 : rAt o' K' s) : pre2 o K o' K' U := ⟨nB_mv hW h, rAt_mv hU hW.alike h1, rAt_mv hU hW.alike h2⟩
theorem p0_bl (U : State) (g : JFrame) (mk : MethodId) (a : Array Value) (h : pre0 U) : pre0 (U.calling g mk a) := nB_bl U g mk a h
theorem p1_bl {o : Nat} {K : rK} (U : State) (g : JFrame) (mk : MethodId) (a : Array Value) (h : pre1 o K U) : pre1 o K (U.calling g mk a) := ⟨nB_bl U g mk a h.1, rAt_bl U g mk a h.2⟩
theorem p2_bl {o : Nat} {K : rK} {o' : Nat} {K' : rK} (U : State) (g : JFrame) (mk : MethodId) (a : Array Value) (h : pre2 o K o' K' U) : pre2 o K o' K' (U.calling g mk a) := ⟨nB_bl U g mk a h.1, rAt_bl U g mk a h.2.1, rAt_bl U g mk a h.2.2⟩
theorem gBig {c0 : Cond} {y : MethodName} {bytes : ByteArray} {maxL : Nat} {ret : Option FieldType} (h : Cond.code y bytes maxL ret ∈ BIG) : GoodIn (c0 :: BIG) (Cond.code y bytes maxL ret :: BIG) := by
  intro w hw
  rcases List.mem_cons.mp hw with rfl | hw
  · exact ⟨List.mem_cons_of_mem _ h, Or.inl rfl⟩
  · exact ⟨List.mem_cons_of_mem _ hw, bigGood w hw⟩
section QR
variable {p : Program} {l : Launch} {e : Env} {R : Room} {s : State} {m : MethodId} {args : Array Value} {below : List Frame} {meth : Method} {c : Code} {H : Heap} {locs : List Loc} {cells slots : Nat} {Q : State → Prop}
variable {cc : ByteArray} {nL : Nat} {own : String} {c0 : Cond} {y : MethodName} {bytes : ByteArray} {maxL n index : Nat} {ret : Option FieldType} {rm : Room} {Pre : State → Prop} {v : Value} {As rest st0 : List Value} {pc : Nat} {ls : Array Slot}
theorem q_run {a : Array Value} (hr : va_Run p l e R s m args below meth c H locs cells slots 0 0 (F0 m pc ls st0) rest (pQ v a) (fun _ => False)) (kk : W p l e R s m args below meth c H locs cells slots Q (F0 m (pc + 3) ls (v :: rest))) : W p l e R s m args below meth c H locs cells slots Q (F0 m pc ls st0) := by
  intro T hT X
  obtain ⟨v', st₀, t, T', L, h0, X', hL, e1, e2, ⟨hv, hh⟩, st⟩ := hr T hT X
  cases hv
  obtain ⟨t2, a1, b1⟩ := kk T' (by rw [e1, hh, h0]) (Stand.forget X' (fun q h => (hL q h).elim))
  exact ⟨t2, st t2 a1, b1⟩
theorem q_S (hx : p.tables.exec = Jvm.exec) (hb : c.code = cc) (hml : c.maxLocals = nL) (hown : s.vm.findClass own = some m.cls) (hts : ∀ w ∈ c0 :: BIG, w.before args s = true)
    (hM : Met l y (Cond.code y bytes maxL ret :: BIG) rm (va_Pc As Pre) (pQ v) 0 0 (fun _ => False)) (hrc : rm.cells = 0) (hrs : rm.slots = 0)
    (hcode : Cond.code y bytes maxL ret ∈ BIG) (hlk : Cond.methodLink own index y ∈ BIG) (hst : Cond.static y ∈ BIG) (hini : Cond.initialized y.cls ∈ BIG)
    (hd : y.cls ≠ "java/lang/invoke/MethodHandle" ∧ y.cls ≠ "java/lang/invoke/VarHandle" ∧ (parseMethodDescriptor y.desc).map (fun d => d.parameters.length) = some n)
    (hR : rm.frames + 1 ≤ R.frames ∧ 8 + (maxL + 11) + rm.locals ≤ R.locals) (hbl : ∀ (U : State) (g : JFrame) (mk : MethodId) (a : Array Value), Pre U → Pre (U.calling g mk a)) (hpre : ∀ U : State, U.heap = H → s.WarmedH U.vm → Pre U)
    (hn : As.length = n) (hsize : ls.size = nL) (hstack : st0 = As.reverse ++ rest) (hW : (rest.map fun v => v.category).sum ≤ 8) (hdg : decode cc pc = .ok (.invokestatic index, 3)) (hcap : cells ≤ R.cells ∧ slots ≤ R.slots)
    (kk : W p l e R s m args below meth c H locs cells slots Q (F0 m (pc + 3) ls (v :: rest))) : W p l e R s m args below meth c H locs cells slots Q (F0 m pc ls st0) := by
  have hT : ∀ w ∈ BIG, w.before args s = true := fun w h => hts w (List.mem_cons_of_mem _ h)
  refine q_run (a := As.toArray) (va_runS (Ts := c0 :: BIG) (own := own) (index := index) (n := n) ⟨hx, hb, hml, hown, hts⟩ hM ⟨callB_of n hts (gBig hcode) rfl hrc hrs (hT _ hini) (hT _ hlk) hd hR, hT _ hst⟩ ⟨fun a U g mk q => ⟨q.1, hbl U g mk a q.2⟩, fun U hU hW => ⟨rfl, hpre U hU hW⟩⟩ rfl hn hsize hstack (lv_room hW) hdg hcap) kk
theorem q_SN {host : String} (hx : p.tables.exec = Jvm.exec) (hb : c.code = cc) (hml : c.maxLocals = nL) (hown : s.vm.findClass own = some m.cls) (hts : ∀ w ∈ c0 :: BIG, w.before args s = true)
    (hM : Met l y (Cond.code y bytes maxL ret :: BIG) rm (va_Pc As Pre) (pQ v) 0 0 (fun _ => False)) (hrc : rm.cells = 0) (hrs : rm.slots = 0)
    (hcode : Cond.code y bytes maxL ret ∈ BIG) (hlk : va_Nw (.methodLinkNest own index y host) s) (hst : Cond.static y ∈ BIG) (hini : Cond.initialized y.cls ∈ BIG)
    (hd : y.cls ≠ "java/lang/invoke/MethodHandle" ∧ y.cls ≠ "java/lang/invoke/VarHandle" ∧ (parseMethodDescriptor y.desc).map (fun d => d.parameters.length) = some n)
    (hR : rm.frames + 1 ≤ R.frames ∧ 8 + (maxL + 11) + rm.locals ≤ R.locals) (hbl : ∀ (U : State) (g : JFrame) (mk : MethodId) (a : Array Value), Pre U → Pre (U.calling g mk a)) (hpre : ∀ U : State, U.heap = H → s.WarmedH U.vm → Pre U)
    (hn : As.length = n) (hsize : ls.size = nL) (hstack : st0 = As.reverse ++ rest) (hW : (rest.map fun v => v.category).sum ≤ 8) (hdg : decode cc pc = .ok (.invokestatic index, 3)) (hcap : cells ≤ R.cells ∧ slots ≤ R.slots)
    (kk : W p l e R s m args below meth c H locs cells slots Q (F0 m (pc + 3) ls (v :: rest))) : W p l e R s m args below meth c H locs cells slots Q (F0 m pc ls st0) := by
  have hT : ∀ w ∈ BIG, w.before args s = true := fun w h => hts w (List.mem_cons_of_mem _ h)
  refine q_run (a := As.toArray) (va_runSN (Ts := c0 :: BIG) (own := own) (host := host) (index := index) (n := n) ⟨hx, hb, hml, hown, hts⟩ hM ⟨va_cnB n hts (gBig hcode) rfl hrc hrs hlk (hT _ hini) hd hR, hT _ hst, trivial⟩ ⟨fun a U g mk q => ⟨q.1, hbl U g mk a q.2⟩, fun U hU hW => ⟨rfl, hpre U hU hW⟩⟩ rfl hn hsize hstack (lv_room hW) hdg hcap) kk
theorem q_V {C : String} {b : Nat} (hx : p.tables.exec = Jvm.exec) (hb : c.code = cc) (hml : c.maxLocals = nL) (hown : s.vm.findClass own = some m.cls) (hts : ∀ w ∈ c0 :: BIG, w.before args s = true)
    (hM : Met l y (Cond.code y bytes maxL ret :: BIG) rm (va_Pc (.ref b :: As) Pre) (pQ v) 0 0 (fun _ => False)) (hrc : rm.cells = 0) (hrs : rm.slots = 0)
    (hcode : Cond.code y bytes maxL ret ∈ BIG) (hlk : Cond.methodLink own index y ∈ BIG) (him : Cond.instanceMethod y ∈ BIG) (hsel : Cond.selects C y y ∈ BIG) (hini : Cond.initialized y.cls ∈ BIG)
    (hd : y.cls ≠ "java/lang/invoke/MethodHandle" ∧ y.cls ≠ "java/lang/invoke/VarHandle" ∧ (parseMethodDescriptor y.desc).map (fun d => d.parameters.length) = some n)
    (hR : rm.frames + 1 ≤ R.frames ∧ 8 + (maxL + 11) + rm.locals ≤ R.locals) (hrv : ∃ cell : Cell, H[b]? = some cell ∧ cell.vm.isStatics = false ∧ s.vm.findClass C = some cell.cls) (hbl : ∀ (U : State) (g : JFrame) (mk : MethodId) (a : Array Value), Pre U → Pre (U.calling g mk a)) (hpre : ∀ U : State, U.heap = H → s.WarmedH U.vm → Pre U)
    (hn : As.length = n) (hsize : ls.size = nL) (hstack : st0 = As.reverse ++ .ref b :: rest) (hW : (rest.map fun v => v.category).sum ≤ 8) (hdg : decode cc pc = .ok (.invokevirtual index, 3)) (hcap : cells ≤ R.cells ∧ slots ≤ R.slots)
    (kk : W p l e R s m args below meth c H locs cells slots Q (F0 m (pc + 3) ls (v :: rest))) : W p l e R s m args below meth c H locs cells slots Q (F0 m pc ls st0) := by
  have hT : ∀ w ∈ BIG, w.before args s = true := fun w h => hts w (List.mem_cons_of_mem _ h)
  refine q_run (a := (Value.ref b :: As).toArray) (va_runV (Ts := c0 :: BIG) (own := own) (index := index) (n := n) (C := C) (b := b) (As := As) ⟨hx, hb, hml, hown, hts⟩ hM ⟨callB_of n hts (gBig hcode) rfl hrc hrs (hT _ hini) (hT _ hlk) hd hR, hT _ him, hT _ hsel⟩ ⟨fun a U g mk q => ⟨q.1, hbl U g mk a q.2⟩, hrv, fun U hU hW => ⟨rfl, hpre U hU hW⟩⟩ rfl hn hsize hstack (lv_room hW) hdg hcap) kk
end QR
section OP
variable {l : Launch} {y : MethodName} {cc : ByteArray} {maxL : Nat} {rm : Room} {vs : List Value} {Pre : State → Prop}
theorem pOpen_l {r : Int64} (hy : plainName y.cls = true) (hlen : (lg_sl vs).length ≤ maxL)
    (body : ∀ (p : Program) (e : Env) (s : State) (m : MethodId) (args : Array Value) (below : List Frame) (meth : Method) (c : Code) (Q : State → Prop) (ls : Array Slot), p.tables.exec = Jvm.exec → c.code = cc → c.maxLocals = maxL → s.vm.findClass y.cls = some m.cls → (∀ w ∈ Cond.code y cc maxL (some .long) :: BIG, w.before args s = true) → (∀ w ∈ BIG, w.before args s = true) → Pre s → lv_has ls maxL (lv_args 0 vs) →
      (∀ (pc : Nat) (ls : Array Slot) (v : Int64), v = r → decode cc pc = .ok (.lreturn, 1) → W p l e rm s m args below meth c s.heap [] 0 0 Q (F0 m pc ls [.long v])) → W p l e rm s m args below meth c s.heap [] 0 0 Q (F0 m 0 ls [])) :
    Met l y (Cond.code y cc maxL (some .long) :: BIG) rm (va_Pc vs Pre) (pQ (.long r)) 0 0 (fun _ => False) := by
  refine Met.ofW (cc := cc) (maxL := maxL) (ret := some .long) hy rfl ?_
  intro p e s m args below meth c s₁ B hml hv
  obtain ⟨rfl, hp⟩ := hv
  have hl := lv_entry vs (n := maxL) hlen
  rw [lg_entry_eq]
  have hts := atoms_spec (ws := Cond.code y cc maxL (some .long) :: BIG) B.pre
  have hlocks := B.notSynchronized
  exact body p e s m _ below meth c _ _ B.exec B.bytes hml (findClass_of_methodNamed B.named) hts (fun w h => hts w (List.mem_cons_of_mem _ h)) hp hl (fun pc ls v hv hd => W.lret B.exec B.bytes B.returns (fun t ht _ => ⟨by rw [hv], ht⟩) (fun q hq => nomatch hq) hd)
theorem pOpen_i {r : Int32} (hy : plainName y.cls = true) (hlen : (lg_sl vs).length ≤ maxL)
    (body : ∀ (p : Program) (e : Env) (s : State) (m : MethodId) (args : Array Value) (below : List Frame) (meth : Method) (c : Code) (Q : State → Prop) (ls : Array Slot), p.tables.exec = Jvm.exec → c.code = cc → c.maxLocals = maxL → s.vm.findClass y.cls = some m.cls → (∀ w ∈ Cond.code y cc maxL (some .int) :: BIG, w.before args s = true) → (∀ w ∈ BIG, w.before args s = true) → Pre s → lv_has ls maxL (lv_args 0 vs) →
      (∀ (pc : Nat) (ls : Array Slot) (v : Int32), v = r → decode cc pc = .ok (.ireturn, 1) → W p l e rm s m args below meth c s.heap [] 0 0 Q (F0 m pc ls [.int v])) → W p l e rm s m args below meth c s.heap [] 0 0 Q (F0 m 0 ls [])) :
    Met l y (Cond.code y cc maxL (some .int) :: BIG) rm (va_Pc vs Pre) (pQ (.int r)) 0 0 (fun _ => False) := by
  refine Met.ofW (cc := cc) (maxL := maxL) (ret := some .int) hy rfl ?_
  intro p e s m args below meth c s₁ B hml hv
  obtain ⟨rfl, hp⟩ := hv
  have hl := lv_entry vs (n := maxL) hlen
  rw [lg_entry_eq]
  have hts := atoms_spec (ws := Cond.code y cc maxL (some .int) :: BIG) B.pre
  have hlocks := B.notSynchronized
  exact body p e s m _ below meth c _ _ B.exec B.bytes hml (findClass_of_methodNamed B.named) hts (fun w h => hts w (List.mem_cons_of_mem _ h)) hp hl (fun pc ls v hv hd => W.iret B.exec B.bytes B.returns (fun t ht _ => ⟨by rw [hv], ht⟩) (fun q hq => nomatch hq) hd)
theorem pOpen_z {r : Int32} (hy : plainName y.cls = true) (hlen : (lg_sl vs).length ≤ maxL)
    (body : ∀ (p : Program) (e : Env) (s : State) (m : MethodId) (args : Array Value) (below : List Frame) (meth : Method) (c : Code) (Q : State → Prop) (ls : Array Slot), p.tables.exec = Jvm.exec → c.code = cc → c.maxLocals = maxL → s.vm.findClass y.cls = some m.cls → (∀ w ∈ Cond.code y cc maxL (some .boolean) :: BIG, w.before args s = true) → (∀ w ∈ BIG, w.before args s = true) → Pre s → lv_has ls maxL (lv_args 0 vs) →
      (∀ (pc : Nat) (ls : Array Slot) (v : Int32), v = r → decode cc pc = .ok (.ireturn, 1) → narrow .boolean (.int v) = .int v → W p l e rm s m args below meth c s.heap [] 0 0 Q (F0 m pc ls [.int v])) → W p l e rm s m args below meth c s.heap [] 0 0 Q (F0 m 0 ls [])) :
    Met l y (Cond.code y cc maxL (some .boolean) :: BIG) rm (va_Pc vs Pre) (pQ (.int r)) 0 0 (fun _ => False) := by
  refine Met.ofW (cc := cc) (maxL := maxL) (ret := some .boolean) hy rfl ?_
  intro p e s m args below meth c s₁ B hml hv
  obtain ⟨rfl, hp⟩ := hv
  have hl := lv_entry vs (n := maxL) hlen
  rw [lg_entry_eq]
  have hts := atoms_spec (ws := Cond.code y cc maxL (some .boolean) :: BIG) B.pre
  have hlocks := B.notSynchronized
  exact body p e s m _ below meth c _ _ B.exec B.bytes hml (findClass_of_methodNamed B.named) hts (fun w h => hts w (List.mem_cons_of_mem _ h)) hp hl (fun pc ls v hv hd hz => W.zret B.exec B.bytes B.returns hz (fun t ht _ => ⟨by rw [hv], ht⟩) (fun q hq => nomatch hq) hd)
end OP
theorem ic_m1 : Int32.ofInt (-1) = -1 := by decide
theorem ic_0 : Int32.ofInt 0 = 0 := by decide
theorem ic_1 : Int32.ofInt 1 = 1 := by decide
theorem ic_2 : Int32.ofInt 2 = 2 := by decide
theorem ic_3 : Int32.ofInt 3 = 3 := by decide
theorem ic_4 : Int32.ofInt 4 = 4 := by decide
theorem ic_5 : Int32.ofInt 5 = 5 := by decide
theorem lc_0 : Int64.ofNat ((0 : Fin 2) : Nat) = 0 := by decide
theorem lc_1 : Int64.ofNat ((1 : Fin 2) : Nat) = 1 := by decide
/-! Contracts over a world: the cells w0 before, w1 behind; nothing outside A changes, no cell is made. -/
def gPre (D : va_G) (A : Nat → Prop) (tys : List (ClassId × FieldType)) (w0 : va_W) (U : State) : Prop := nB U ∧ va_P D cls w0 U.heap ∧ va_K D cls tys U ∧ va_D A w0
def gQ (D : va_G) (A : Nat → Prop) (v : Option Value) (w1 : va_W) : Array Value → State → Outcome → State → Prop := fun _ st oc t => oc = .returned v ∧ va_P D cls w1 t.heap ∧ va_D A w1 ∧ va_F A st t
theorem gPre_bl {D : va_G} {A : Nat → Prop} {tys : List (ClassId × FieldType)} {w0 : va_W} (U : State) (g : JFrame) (mk : MethodId) (a : Array Value) (h : gPre D A tys w0 U) : gPre D A tys w0 (U.calling g mk a) := ⟨nB_bl U g mk a h.1, h.2.1, va_K.moved (u := U) (U := U.calling g mk a) (Vm.Alike.refl U.vm) h.2.2.1, h.2.2.2⟩
section GO
variable {l : Launch} {y : MethodName} {cc : ByteArray} {maxL : Nat} {rm : Room} {vs : List Value} {D : va_G} {A : Nat → Prop} {tys : List (ClassId × FieldType)} {w0 w1 : va_W}
theorem gOpen_l {r : Int64} (hy : plainName y.cls = true) (hlen : (lg_sl vs).length ≤ maxL) 
    (body : ∀ (p : Program) (e : Env) (s : State) (m : MethodId) (args : Array Value) (below : List Frame) (meth : Method) (c : Code) (Q : State → Prop) (ls : Array Slot), p.tables.exec = Jvm.exec → c.code = cc → c.maxLocals = maxL → s.vm.findClass y.cls = some m.cls → (∀ w ∈ Cond.code y cc maxL (some .long) :: BIG, w.before args s = true) → (∀ w ∈ BIG, w.before args s = true) → nB s → va_P D cls w0 s.heap → va_K D cls tys s → va_D A w0 → lv_has ls maxL (lv_args 0 vs) →
      (∀ (pc : Nat) (ls : Array Slot) (H : Heap) (locs : List Loc) (v : Int64), v = r → va_P D cls w1 H → va_D A w1 → va_S A s.heap H locs → decode cc pc = .ok (.lreturn, 1) → W p l e rm s m args below meth c H locs 0 0 Q (F0 m pc ls [.long v])) → W p l e rm s m args below meth c s.heap [] 0 0 Q (F0 m 0 ls [])) :
    Met l y (Cond.code y cc maxL (some .long) :: BIG) rm (va_Pc vs (gPre D A tys w0)) (gQ D A (some (.long r)) w1) 0 0 A := by
  refine Met.ofW (cc := cc) (maxL := maxL) (ret := (some .long)) hy rfl ?_
  intro p e s m args below meth c s₁ B hml hv
  obtain ⟨rfl, hN, hP, hK, hD⟩ := hv
  have hl := lv_entry vs (n := maxL) hlen
  rw [lg_entry_eq]
  have hts := atoms_spec (ws := Cond.code y cc maxL (some .long) :: BIG) B.pre
  have hlocks := B.notSynchronized
  exact body p e s m _ below meth c _ _ B.exec B.bytes hml (findClass_of_methodNamed B.named) hts (fun w h => hts w (List.mem_cons_of_mem _ h)) hN hP hK hD hl (fun pc ls H locs v hv hP hD hS hd => W.lret B.exec B.bytes B.returns (fun t ht _ => ⟨by rw [hv], by rw [ht]; exact hP, hD, hS.F ht⟩) hS.2.2 hd)
theorem gOpen_i {r : Int32} (hy : plainName y.cls = true) (hlen : (lg_sl vs).length ≤ maxL) 
    (body : ∀ (p : Program) (e : Env) (s : State) (m : MethodId) (args : Array Value) (below : List Frame) (meth : Method) (c : Code) (Q : State → Prop) (ls : Array Slot), p.tables.exec = Jvm.exec → c.code = cc → c.maxLocals = maxL → s.vm.findClass y.cls = some m.cls → (∀ w ∈ Cond.code y cc maxL (some .int) :: BIG, w.before args s = true) → (∀ w ∈ BIG, w.before args s = true) → nB s → va_P D cls w0 s.heap → va_K D cls tys s → va_D A w0 → lv_has ls maxL (lv_args 0 vs) →
      (∀ (pc : Nat) (ls : Array Slot) (H : Heap) (locs : List Loc) (v : Int32), v = r → va_P D cls w1 H → va_D A w1 → va_S A s.heap H locs → decode cc pc = .ok (.ireturn, 1) → W p l e rm s m args below meth c H locs 0 0 Q (F0 m pc ls [.int v])) → W p l e rm s m args below meth c s.heap [] 0 0 Q (F0 m 0 ls [])) :
    Met l y (Cond.code y cc maxL (some .int) :: BIG) rm (va_Pc vs (gPre D A tys w0)) (gQ D A (some (.int r)) w1) 0 0 A := by
  refine Met.ofW (cc := cc) (maxL := maxL) (ret := (some .int)) hy rfl ?_
  intro p e s m args below meth c s₁ B hml hv
  obtain ⟨rfl, hN, hP, hK, hD⟩ := hv
  have hl := lv_entry vs (n := maxL) hlen
  rw [lg_entry_eq]
  have hts := atoms_spec (ws := Cond.code y cc maxL (some .int) :: BIG) B.pre
  have hlocks := B.notSynchronized
  exact body p e s m _ below meth c _ _ B.exec B.bytes hml (findClass_of_methodNamed B.named) hts (fun w h => hts w (List.mem_cons_of_mem _ h)) hN hP hK hD hl (fun pc ls H locs v hv hP hD hS hd => W.iret B.exec B.bytes B.returns (fun t ht _ => ⟨by rw [hv], by rw [ht]; exact hP, hD, hS.F ht⟩) hS.2.2 hd)
theorem gOpen_z {r : Int32} (hy : plainName y.cls = true) (hlen : (lg_sl vs).length ≤ maxL)
    (body : ∀ (p : Program) (e : Env) (s : State) (m : MethodId) (args : Array Value) (below : List Frame) (meth : Method) (c : Code) (Q : State → Prop) (ls : Array Slot), p.tables.exec = Jvm.exec → c.code = cc → c.maxLocals = maxL → s.vm.findClass y.cls = some m.cls → (∀ w ∈ Cond.code y cc maxL (some .boolean) :: BIG, w.before args s = true) → (∀ w ∈ BIG, w.before args s = true) → nB s → va_P D cls w0 s.heap → va_K D cls tys s → va_D A w0 → lv_has ls maxL (lv_args 0 vs) →
      (∀ (pc : Nat) (ls : Array Slot) (H : Heap) (locs : List Loc) (v : Int32), v = r → va_P D cls w1 H → va_D A w1 → va_S A s.heap H locs → decode cc pc = .ok (.ireturn, 1) → narrow .boolean (.int v) = .int v → W p l e rm s m args below meth c H locs 0 0 Q (F0 m pc ls [.int v])) → W p l e rm s m args below meth c s.heap [] 0 0 Q (F0 m 0 ls [])) :
    Met l y (Cond.code y cc maxL (some .boolean) :: BIG) rm (va_Pc vs (gPre D A tys w0)) (gQ D A (some (.int r)) w1) 0 0 A := by
  refine Met.ofW (cc := cc) (maxL := maxL) (ret := (some .boolean)) hy rfl ?_
  intro p e s m args below meth c s₁ B hml hv
  obtain ⟨rfl, hN, hP, hK, hD⟩ := hv
  have hl := lv_entry vs (n := maxL) hlen
  rw [lg_entry_eq]
  have hts := atoms_spec (ws := Cond.code y cc maxL (some .boolean) :: BIG) B.pre
  have hlocks := B.notSynchronized
  exact body p e s m _ below meth c _ _ B.exec B.bytes hml (findClass_of_methodNamed B.named) hts (fun w h => hts w (List.mem_cons_of_mem _ h)) hN hP hK hD hl (fun pc ls H locs v hv hP hD hS hd hz => W.zret B.exec B.bytes B.returns hz (fun t ht _ => ⟨by rw [hv], by rw [ht]; exact hP, hD, hS.F ht⟩) hS.2.2 hd)
theorem gOpen_v (hy : plainName y.cls = true) (hlen : (lg_sl vs).length ≤ maxL) 
    (body : ∀ (p : Program) (e : Env) (s : State) (m : MethodId) (args : Array Value) (below : List Frame) (meth : Method) (c : Code) (Q : State → Prop) (ls : Array Slot), p.tables.exec = Jvm.exec → c.code = cc → c.maxLocals = maxL → s.vm.findClass y.cls = some m.cls → (∀ w ∈ Cond.code y cc maxL none :: BIG, w.before args s = true) → (∀ w ∈ BIG, w.before args s = true) → nB s → va_P D cls w0 s.heap → va_K D cls tys s → va_D A w0 → lv_has ls maxL (lv_args 0 vs) →
      (∀ (pc : Nat) (ls : Array Slot) (H : Heap) (locs : List Loc), va_P D cls w1 H → va_D A w1 → va_S A s.heap H locs → decode cc pc = .ok (.return_, 1) → W p l e rm s m args below meth c H locs 0 0 Q (F0 m pc ls [])) → W p l e rm s m args below meth c s.heap [] 0 0 Q (F0 m 0 ls [])) :
    Met l y (Cond.code y cc maxL none :: BIG) rm (va_Pc vs (gPre D A tys w0)) (gQ D A none w1) 0 0 A := by
  refine Met.ofW (cc := cc) (maxL := maxL) (ret := none) hy rfl ?_
  intro p e s m args below meth c s₁ B hml hv
  obtain ⟨rfl, hN, hP, hK, hD⟩ := hv
  have hl := lv_entry vs (n := maxL) hlen
  rw [lg_entry_eq]
  have hts := atoms_spec (ws := Cond.code y cc maxL none :: BIG) B.pre
  have hlocks := B.notSynchronized
  exact body p e s m _ below meth c _ _ B.exec B.bytes hml (findClass_of_methodNamed B.named) hts (fun w h => hts w (List.mem_cons_of_mem _ h)) hN hP hK hD hl (fun pc ls H locs hP hD hS hd => W.vret B.exec B.bytes B.returns (fun t ht _ => ⟨rfl, by rw [ht]; exact hP, hD, hS.F ht⟩) hS.2.2 hd)
end GO
section GC
variable {p : Program} {l : Launch} {e : Env} {R : Room} {s : State} {m : MethodId} {args : Array Value} {below : List Frame} {meth : Method} {c : Code} {H H0 : Heap} {locs : List Loc} {cells slots : Nat} {Q : State → Prop}
variable {cc : ByteArray} {nL : Nat} {own : String} {c0 : Cond} {y : MethodName} {bytes : ByteArray} {maxL n index : Nat} {ret : Option FieldType} {rm : Room} {v : Option Value} {As rest st0 : List Value} {pc : Nat} {ls : Array Slot}
variable {D : va_G} {A : Nat → Prop} {tys : List (ClassId × FieldType)} {w0 w1 : va_W}
theorem q_grun {a : Array Value} (hr : va_Run p l e R s m args below meth c H locs cells slots 0 0 (F0 m pc ls st0) rest (gQ D A v w1 a) A) (hS : va_S A H0 H locs)
    (kk : ∀ (H1 : Heap) (locs1 : List Loc), va_P D cls w1 H1 → va_D A w1 → va_S A H0 H1 locs1 → W p l e R s m args below meth c H1 locs1 cells slots Q (F0 m (pc + 3) ls (v.toList ++ rest))) : W p l e R s m args below meth c H locs cells slots Q (F0 m pc ls st0) := by
  intro T hT X
  obtain ⟨v', st₀, t, T', L, h0, X', hL, e1, e2, ⟨hv, hP, hD, hz, hk⟩, st⟩ := hr T hT X
  cases hv
  rw [h0] at hz hk
  obtain ⟨t2, a1, b1⟩ := kk T'.heap (locs ++ L) (by rw [e1]; exact hP) hD
    ⟨Nat.le_trans hS.1 (by rw [e1]; exact hz), fun q h1 h2 => by rw [e1, hk q (Nat.lt_of_lt_of_le h1 hS.1) h2]; exact hS.2.1 q h1 h2, fun q hq => by
      rcases List.mem_append.mp hq with h | h
      · exact hS.2.2 q h
      · exact hL q h⟩ T' rfl X'
  exact ⟨t2, st t2 a1, b1⟩
theorem q_GS (hx : p.tables.exec = Jvm.exec) (hb : c.code = cc) (hml : c.maxLocals = nL) (hown : s.vm.findClass own = some m.cls) (hts : ∀ w ∈ c0 :: BIG, w.before args s = true)
    (hM : Met l y (Cond.code y bytes maxL ret :: BIG) rm (va_Pc As (gPre D A tys w0)) (gQ D A v w1) 0 0 A) (hrc : rm.cells = 0) (hrs : rm.slots = 0)
    (hcode : Cond.code y bytes maxL ret ∈ BIG) (hlk : Cond.methodLink own index y ∈ BIG) (hst : Cond.static y ∈ BIG) (hini : Cond.initialized y.cls ∈ BIG)
    (hd : y.cls ≠ "java/lang/invoke/MethodHandle" ∧ y.cls ≠ "java/lang/invoke/VarHandle" ∧ (parseMethodDescriptor y.desc).map (fun d => d.parameters.length) = some n)
    (hR : rm.frames + 1 ≤ R.frames ∧ 8 + (maxL + 11) + rm.locals ≤ R.locals) (hN : nB s) (hK : va_K D cls tys s) (hP : va_P D cls w0 H) (hD : va_D A w0) (hS : va_S A H0 H locs)
    (hn : As.length = n) (hsize : ls.size = nL) (hstack : st0 = As.reverse ++ rest) (hW : (rest.map fun v => v.category).sum ≤ 8) (hdg : decode cc pc = .ok (.invokestatic index, 3)) (hcap : cells ≤ R.cells ∧ slots ≤ R.slots)
    (kk : ∀ (H1 : Heap) (locs1 : List Loc), va_P D cls w1 H1 → va_D A w1 → va_S A H0 H1 locs1 → W p l e R s m args below meth c H1 locs1 cells slots Q (F0 m (pc + 3) ls (v.toList ++ rest))) : W p l e R s m args below meth c H locs cells slots Q (F0 m pc ls st0) := by
  have hT : ∀ w ∈ BIG, w.before args s = true := fun w h => hts w (List.mem_cons_of_mem _ h)
  refine q_grun (a := As.toArray) (va_runS (Ts := c0 :: BIG) (own := own) (index := index) (n := n) ⟨hx, hb, hml, hown, hts⟩ hM ⟨callB_of n hts (gBig hcode) rfl hrc hrs (hT _ hini) (hT _ hlk) hd hR, hT _ hst⟩ ⟨fun a U g mk q => ⟨q.1, gPre_bl U g mk a q.2⟩, fun U hU hW => ⟨rfl, nB_mv hW hN, by rw [hU]; exact hP, va_K.moved hW.alike hK, hD⟩⟩ rfl hn hsize hstack (lv_room hW) hdg hcap) hS kk
theorem q_GV {C : String} {b : Nat} (hx : p.tables.exec = Jvm.exec) (hb : c.code = cc) (hml : c.maxLocals = nL) (hown : s.vm.findClass own = some m.cls) (hts : ∀ w ∈ c0 :: BIG, w.before args s = true)
    (hM : Met l y (Cond.code y bytes maxL ret :: BIG) rm (va_Pc (.ref b :: As) (gPre D A tys w0)) (gQ D A v w1) 0 0 A) (hrc : rm.cells = 0) (hrs : rm.slots = 0)
    (hcode : Cond.code y bytes maxL ret ∈ BIG) (hlk : Cond.methodLink own index y ∈ BIG) (him : Cond.instanceMethod y ∈ BIG) (hsel : Cond.selects C y y ∈ BIG) (hini : Cond.initialized y.cls ∈ BIG)
    (hd : y.cls ≠ "java/lang/invoke/MethodHandle" ∧ y.cls ≠ "java/lang/invoke/VarHandle" ∧ (parseMethodDescriptor y.desc).map (fun d => d.parameters.length) = some n)
    (hR : rm.frames + 1 ≤ R.frames ∧ 8 + (maxL + 11) + rm.locals ≤ R.locals) (hrv : ∃ cell : Cell, H[b]? = some cell ∧ cell.vm.isStatics = false ∧ s.vm.findClass C = some cell.cls) (hN : nB s) (hK : va_K D cls tys s) (hP : va_P D cls w0 H) (hD : va_D A w0) (hS : va_S A H0 H locs)
    (hn : As.length = n) (hsize : ls.size = nL) (hstack : st0 = As.reverse ++ .ref b :: rest) (hW : (rest.map fun v => v.category).sum ≤ 8) (hdg : decode cc pc = .ok (.invokevirtual index, 3)) (hcap : cells ≤ R.cells ∧ slots ≤ R.slots)
    (kk : ∀ (H1 : Heap) (locs1 : List Loc), va_P D cls w1 H1 → va_D A w1 → va_S A H0 H1 locs1 → W p l e R s m args below meth c H1 locs1 cells slots Q (F0 m (pc + 3) ls (v.toList ++ rest))) : W p l e R s m args below meth c H locs cells slots Q (F0 m pc ls st0) := by
  have hT : ∀ w ∈ BIG, w.before args s = true := fun w h => hts w (List.mem_cons_of_mem _ h)
  refine q_grun (a := (Value.ref b :: As).toArray) (va_runV (Ts := c0 :: BIG) (own := own) (index := index) (n := n) (C := C) (b := b) (As := As) ⟨hx, hb, hml, hown, hts⟩ hM ⟨callB_of n hts (gBig hcode) rfl hrc hrs (hT _ hini) (hT _ hlk) hd hR, hT _ him, hT _ hsel⟩ ⟨fun a U g mk q => ⟨q.1, gPre_bl U g mk a q.2⟩, hrv, fun U hU hW => ⟨rfl, nB_mv hW hN, by rw [hU]; exact hP, va_K.moved hW.alike hK, hD⟩⟩ rfl hn hsize hstack (lv_room hW) hdg hcap) hS kk
end GC
theorem nb_n {v : Int32} (h : ¬ ¬ (v = 0 ∨ v = 1)) : narrow .boolean (.int v) = .int v := by
  exact nb_1 (Classical.not_not.mp h)
theorem nb_f {v : Int32} (h : ¬ ¬ (v = 0 ∨ v = 1)) : fits .boolean (.int v) = true := nb_2 (Classical.not_not.mp h)
/-! One array, or two, at any place of a world -/
abbrev wA (ws : va_W) (q x : Nat) (cA : ClassId) (N : Nat) (f : Nat → Int32) : va_W := ws.set q (x, .inl (cA, N, .inl f))
theorem wA_get {ws : va_W} {q x : Nat} {cA : ClassId} {N : Nat} {f : Nat → Int32} (hq : q < ws.length) : (wA ws q x cA N f)[q]? = some (x, .inl (cA, N, .inl f)) := List.getElem?_set_self hq
theorem wA_set {ws : va_W} {q x : Nat} {cA : ClassId} {N : Nat} {f g : Nat → Int32} : (wA ws q x cA N f).set q (x, .inl (cA, N, .inl g)) = wA ws q x cA N g := List.set_set ..
theorem wA_ne {ws : va_W} {q q' x : Nat} {cA : ClassId} {N : Nat} {f : Nat → Int32} {z : Nat × va_E} (hq : q ≠ q') (h : ws[q']? = some z) : (wA ws q x cA N f)[q']? = some z := by
  rw [List.getElem?_set_ne hq]; exact h
theorem bp_m64 : (Int8.ofInt (-64)).toInt32 = -64 := by decide
theorem bp_m60 : (Int8.ofInt (-60)).toInt32 = -60 := by decide
theorem bp_m32 : (Int8.ofInt (-32)).toInt32 = -32 := by decide
theorem bp_m3 : (Int8.ofInt (-3)).toInt32 = -3 := by decide
theorem bp_6 : (Int8.ofInt 6).toInt32 = 6 := by decide
theorem bp_7 : (Int8.ofInt 7).toInt32 = 7 := by decide
theorem bp_8 : (Int8.ofInt 8).toInt32 = 8 := by decide
theorem bp_9 : (Int8.ofInt 9).toInt32 = 9 := by decide
theorem bp_10 : (Int8.ofInt 10).toInt32 = 10 := by decide
theorem bp_13 : (Int8.ofInt 13).toInt32 = 13 := by decide
theorem bp_16 : (Int8.ofInt 16).toInt32 = 16 := by decide
theorem bp_17 : (Int8.ofInt 17).toInt32 = 17 := by decide
theorem bp_18 : (Int8.ofInt 18).toInt32 = 18 := by decide
theorem bp_19 : (Int8.ofInt 19).toInt32 = 19 := by decide
theorem bp_20 : (Int8.ofInt 20).toInt32 = 20 := by decide
theorem bp_23 : (Int8.ofInt 23).toInt32 = 23 := by decide
theorem bp_24 : (Int8.ofInt 24).toInt32 = 24 := by decide
theorem bp_27 : (Int8.ofInt 27).toInt32 = 27 := by decide
theorem bp_31 : (Int8.ofInt 31).toInt32 = 31 := by decide
theorem bp_32 : (Int8.ofInt 32).toInt32 = 32 := by decide
theorem bp_36 : (Int8.ofInt 36).toInt32 = 36 := by decide
theorem bp_41 : (Int8.ofInt 41).toInt32 = 41 := by decide
theorem bp_45 : (Int8.ofInt 45).toInt32 = 45 := by decide
theorem bp_46 : (Int8.ofInt 46).toInt32 = 46 := by decide
theorem bp_48 : (Int8.ofInt 48).toInt32 = 48 := by decide
theorem bp_52 : (Int8.ofInt 52).toInt32 = 52 := by decide
theorem bp_53 : (Int8.ofInt 53).toInt32 = 53 := by decide
theorem bp_54 : (Int8.ofInt 54).toInt32 = 54 := by decide
theorem bp_60 : (Int8.ofInt 60).toInt32 = 60 := by decide
theorem bp_61 : (Int8.ofInt 61).toInt32 = 61 := by decide
theorem bp_62 : (Int8.ofInt 62).toInt32 = 62 := by decide
theorem bp_63 : (Int8.ofInt 63).toInt32 = 63 := by decide
theorem bp_64 : (Int8.ofInt 64).toInt32 = 64 := by decide
theorem bp_69 : (Int8.ofInt 69).toInt32 = 69 := by decide
theorem sp_m1074 : (Int16.ofInt (-1074)).toInt32 = -1074 := by decide
theorem sp_m330 : (Int16.ofInt (-330)).toInt32 = -330 := by decide
theorem sp_m149 : (Int16.ofInt (-149)).toInt32 = -149 := by decide
theorem sp_150 : (Int16.ofInt 150).toInt32 = 150 := by decide
theorem sp_255 : (Int16.ofInt 255).toInt32 = 255 := by decide
theorem sp_310 : (Int16.ofInt 310).toInt32 = 310 := by decide
theorem sp_1075 : (Int16.ofInt 1075).toInt32 = 1075 := by decide
theorem sp_2047 : (Int16.ofInt 2047).toInt32 = 2047 := by decide
end
section
-- PB_isArithmetic
theorem d_PB_isArithmetic_0 : decode b_PB_isArithmetic 0 = .ok (.iload_n 0, 1) := by decide +kernel
theorem d_PB_isArithmetic_1 : decode b_PB_isArithmetic 1 = .ok (.iconst 3, 1) := by decide +kernel
theorem d_PB_isArithmetic_2 : decode b_PB_isArithmetic 2 = .ok (.if_icmp .lt 13, 3) := by decide +kernel
theorem d_PB_isArithmetic_5 : decode b_PB_isArithmetic 5 = .ok (.iload_n 0, 1) := by decide +kernel
theorem d_PB_isArithmetic_6 : decode b_PB_isArithmetic 6 = .ok (.bipush 6, 2) := by decide +kernel
theorem d_PB_isArithmetic_8 : decode b_PB_isArithmetic 8 = .ok (.if_icmp .gt 7, 3) := by decide +kernel
theorem d_PB_isArithmetic_11 : decode b_PB_isArithmetic 11 = .ok (.iconst 1, 1) := by decide +kernel
theorem d_PB_isArithmetic_12 : decode b_PB_isArithmetic 12 = .ok (.goto 4, 3) := by decide +kernel
theorem d_PB_isArithmetic_15 : decode b_PB_isArithmetic 15 = .ok (.iconst 0, 1) := by decide +kernel
theorem d_PB_isArithmetic_16 : decode b_PB_isArithmetic 16 = .ok (.ireturn, 1) := by decide +kernel
def F_PB_isArithmetic (a0 : Int32) : Int32 := lt_ (if a0 < (3 : Int32) then (0 : Int32) else if (6 : Int32) < a0 then (0 : Int32) else (1 : Int32)) fun x1 => x1
set_option maxHeartbeats 4000000 in
set_option maxRecDepth 100000 in
theorem c_PB_isArithmetic (l : Launch) (a0 : Int32) : Met l y_PB_isArithmetic (.code y_PB_isArithmetic b_PB_isArithmetic 1 (some .boolean) :: BIG) ({ frames := 0, cells := 0, slots := 0, locals := 0 } : Room) (va_Pc [.int a0] (pre0)) (pQ (.int (F_PB_isArithmetic a0))) 0 0 (fun _ => False) := by
  refine pOpen_z rfl (Nat.le_of_ble_eq_true rfl) ?_
  intro p e s m args below meth c Q ls hx hb hml hown hts hT hp hl hret
  have hNB := hp
  have hown : s.vm.findClass R_PB = some m.cls := hown
  have hl : lv_has ls 1 [(0, .int a0)] := hl
  obtain ⟨r, h⟩ : ∃ r, F_PB_isArithmetic a0 = r := ⟨_, rfl⟩
  rw [h] at hret
  have h : (lt_ (if a0 < (3 : Int32) then (0 : Int32) else if (6 : Int32) < a0 then (0 : Int32) else (1 : Int32)) fun x1 => x1) = r := h
  refine lv_iload_n hx hb d_PB_isArithmetic_0 rfl (lv_at hl 0 rfl) ?_
  refine lv_iconst hx hb d_PB_isArithmetic_1 ic_3 ?_
  obtain ⟨x1, e_x1, h⟩ := lt_o h
  have hJ16 : ∀ (x1' : Int32) (ls : Array Slot), x1 = x1' → lv_has ls 1 [] → W p l e ({ frames := 0, cells := 0, slots := 0, locals := 0 } : Room) s m args below meth c s.heap [] 0 0 Q (F0 m 16 ls [.int x1']) := by
    intro x1' ls q_x1 hl
    subst q_x1
    exact hret 16 ls _ h d_PB_isArithmetic_16 (nb_1 ((by rw [e_x1]; exact ite01 (Or.inl rfl) (ite01 (Or.inl rfl) (Or.inr rfl)))))
  refine lv_icmp_lt (tgt := 15) hx hb d_PB_isArithmetic_2 rfl (fun hc => ?_) (fun hc => ?_)
  · have e_x1 := e_x1.trans (if_pos hc)
    refine lv_iconst hx hb d_PB_isArithmetic_15 ic_0 ?_
    exact hJ16 _ ls e_x1 (lv_sub hl [] rfl)
  · have e_x1 := e_x1.trans (if_neg hc)
    refine lv_iload_n hx hb d_PB_isArithmetic_5 rfl (lv_at hl 0 rfl) ?_
    refine lv_bipush hx hb d_PB_isArithmetic_6 bp_6 ?_
    refine lv_icmp_gt (tgt := 15) hx hb d_PB_isArithmetic_8 rfl (fun hc => ?_) (fun hc => ?_)
    · have e_x1 := e_x1.trans (if_pos hc)
      refine lv_iconst hx hb d_PB_isArithmetic_15 ic_0 ?_
      exact hJ16 _ ls e_x1 (lv_sub hl [] rfl)
    · have e_x1 := e_x1.trans (if_neg hc)
      refine lv_iconst hx hb d_PB_isArithmetic_11 ic_1 ?_
      refine lv_goto (tgt := 16) hx hb d_PB_isArithmetic_12 rfl ?_
      exact hJ16 _ ls e_x1 (lv_sub hl [] rfl)
-- PB_isWhole
theorem d_PB_isWhole_0 : decode b_PB_isWhole 0 = .ok (.iload_n 0, 1) := by decide +kernel
theorem d_PB_isWhole_1 : decode b_PB_isWhole 1 = .ok (.iconst 4, 1) := by decide +kernel
theorem d_PB_isWhole_2 : decode b_PB_isWhole 2 = .ok (.if_icmp .gt 7, 3) := by decide +kernel
theorem d_PB_isWhole_5 : decode b_PB_isWhole 5 = .ok (.iconst 1, 1) := by decide +kernel
theorem d_PB_isWhole_6 : decode b_PB_isWhole 6 = .ok (.goto 4, 3) := by decide +kernel
theorem d_PB_isWhole_9 : decode b_PB_isWhole 9 = .ok (.iconst 0, 1) := by decide +kernel
theorem d_PB_isWhole_10 : decode b_PB_isWhole 10 = .ok (.ireturn, 1) := by decide +kernel
def F_PB_isWhole (a0 : Int32) : Int32 := lt_ (if (4 : Int32) < a0 then (0 : Int32) else (1 : Int32)) fun x1 => x1
set_option maxHeartbeats 4000000 in
set_option maxRecDepth 100000 in
theorem c_PB_isWhole (l : Launch) (a0 : Int32) : Met l y_PB_isWhole (.code y_PB_isWhole b_PB_isWhole 1 (some .boolean) :: BIG) ({ frames := 0, cells := 0, slots := 0, locals := 0 } : Room) (va_Pc [.int a0] (pre0)) (pQ (.int (F_PB_isWhole a0))) 0 0 (fun _ => False) := by
  refine pOpen_z rfl (Nat.le_of_ble_eq_true rfl) ?_
  intro p e s m args below meth c Q ls hx hb hml hown hts hT hp hl hret
  have hNB := hp
  have hown : s.vm.findClass R_PB = some m.cls := hown
  have hl : lv_has ls 1 [(0, .int a0)] := hl
  obtain ⟨r, h⟩ : ∃ r, F_PB_isWhole a0 = r := ⟨_, rfl⟩
  rw [h] at hret
  have h : (lt_ (if (4 : Int32) < a0 then (0 : Int32) else (1 : Int32)) fun x1 => x1) = r := h
  refine lv_iload_n hx hb d_PB_isWhole_0 rfl (lv_at hl 0 rfl) ?_
  refine lv_iconst hx hb d_PB_isWhole_1 ic_4 ?_
  obtain ⟨x1, e_x1, h⟩ := lt_o h
  have hJ10 : ∀ (x1' : Int32) (ls : Array Slot), x1 = x1' → lv_has ls 1 [] → W p l e ({ frames := 0, cells := 0, slots := 0, locals := 0 } : Room) s m args below meth c s.heap [] 0 0 Q (F0 m 10 ls [.int x1']) := by
    intro x1' ls q_x1 hl
    subst q_x1
    exact hret 10 ls _ h d_PB_isWhole_10 (nb_1 ((by rw [e_x1]; exact ite01 (Or.inl rfl) (Or.inr rfl))))
  refine lv_icmp_gt (tgt := 9) hx hb d_PB_isWhole_2 rfl (fun hc => ?_) (fun hc => ?_)
  · have e_x1 := e_x1.trans (if_pos hc)
    refine lv_iconst hx hb d_PB_isWhole_9 ic_0 ?_
    exact hJ10 _ ls e_x1 (lv_sub hl [] rfl)
  · have e_x1 := e_x1.trans (if_neg hc)
    refine lv_iconst hx hb d_PB_isWhole_5 ic_1 ?_
    refine lv_goto (tgt := 10) hx hb d_PB_isWhole_6 rfl ?_
    exact hJ10 _ ls e_x1 (lv_sub hl [] rfl)
-- PB_lastOperator
theorem d_PB_lastOperator_0 : decode b_PB_lastOperator 0 = .ok (.iload_n 0, 1) := by decide +kernel
theorem d_PB_lastOperator_1 : decode b_PB_lastOperator 1 = .ok (.invokestatic 38, 3) := by decide +kernel
theorem d_PB_lastOperator_4 : decode b_PB_lastOperator 4 = .ok (.ifCond .eq 8, 3) := by decide +kernel
theorem d_PB_lastOperator_7 : decode b_PB_lastOperator 7 = .ok (.bipush 10, 2) := by decide +kernel
theorem d_PB_lastOperator_9 : decode b_PB_lastOperator 9 = .ok (.goto 4, 3) := by decide +kernel
theorem d_PB_lastOperator_12 : decode b_PB_lastOperator 12 = .ok (.iconst 4, 1) := by decide +kernel
theorem d_PB_lastOperator_13 : decode b_PB_lastOperator 13 = .ok (.ireturn, 1) := by decide +kernel
def F_PB_lastOperator (a0 : Int32) : Int32 := lt_ (if (F_PB_isWhole a0) = 0 then (4 : Int32) else (10 : Int32)) fun x1 => x1
set_option maxHeartbeats 4000000 in
set_option maxRecDepth 100000 in
theorem c_PB_lastOperator (l : Launch) (a0 : Int32) : Met l y_PB_lastOperator (.code y_PB_lastOperator b_PB_lastOperator 1 (some .int) :: BIG) ({ frames := 1, cells := 0, slots := 0, locals := 20 } : Room) (va_Pc [.int a0] (pre0)) (pQ (.int (F_PB_lastOperator a0))) 0 0 (fun _ => False) := by
  refine pOpen_i rfl (Nat.le_of_ble_eq_true rfl) ?_
  intro p e s m args below meth c Q ls hx hb hml hown hts hT hp hl hret
  have hNB := hp
  have hown : s.vm.findClass R_PB = some m.cls := hown
  have hl : lv_has ls 1 [(0, .int a0)] := hl
  obtain ⟨r, h⟩ : ∃ r, F_PB_lastOperator a0 = r := ⟨_, rfl⟩
  rw [h] at hret
  have h : (lt_ (if (F_PB_isWhole a0) = 0 then (4 : Int32) else (10 : Int32)) fun x1 => x1) = r := h
  refine lv_iload_n hx hb d_PB_lastOperator_0 rfl (lv_at hl 0 rfl) ?_
  refine q_S (As := [.int a0]) (rest := []) (n := 1) hx hb hml hown hts (c_PB_isWhole l a0) rfl rfl m_0 m_1 m_2 m_3 (by decide +kernel) ⟨Nat.le_of_ble_eq_true rfl, Nat.le_of_ble_eq_true rfl⟩ (p0_bl) (fun U hU hW => p0_mv hU hW hNB) rfl hl.1 rfl (Nat.le_of_ble_eq_true rfl) d_PB_lastOperator_1 ⟨Nat.zero_le _, Nat.zero_le _⟩ ?_
  obtain ⟨x1, e_x1, h⟩ := lt_o h
  have hJ13 : ∀ (x1' : Int32) (ls : Array Slot), x1 = x1' → lv_has ls 1 [] → W p l e ({ frames := 1, cells := 0, slots := 0, locals := 20 } : Room) s m args below meth c s.heap [] 0 0 Q (F0 m 13 ls [.int x1']) := by
    intro x1' ls q_x1 hl
    subst q_x1
    exact hret 13 ls _ h d_PB_lastOperator_13
  refine lv_if_eq (tgt := 12) hx hb d_PB_lastOperator_4 rfl (fun hc => ?_) (fun hc => ?_)
  · have e_x1 := e_x1.trans (if_pos hc)
    refine lv_iconst hx hb d_PB_lastOperator_12 ic_4 ?_
    exact hJ13 _ ls e_x1 (lv_sub hl [] rfl)
  · have e_x1 := e_x1.trans (if_neg hc)
    refine lv_bipush hx hb d_PB_lastOperator_7 bp_10 ?_
    refine lv_goto (tgt := 13) hx hb d_PB_lastOperator_9 rfl ?_
    exact hJ13 _ ls e_x1 (lv_sub hl [] rfl)
-- PB_wholeOf
theorem d_PB_wholeOf_0 : decode b_PB_wholeOf 0 = .ok (.iload_n 2, 1) := by decide +kernel
theorem d_PB_wholeOf_1 : decode b_PB_wholeOf 1 = .ok (.tableswitch 50 0 3 #[31, 36, 41, 46], 31) := by decide +kernel
theorem d_PB_wholeOf_32 : decode b_PB_wholeOf 32 = .ok (.lload_n 0, 1) := by decide +kernel
theorem d_PB_wholeOf_33 : decode b_PB_wholeOf 33 = .ok (.l2i, 1) := by decide +kernel
theorem d_PB_wholeOf_34 : decode b_PB_wholeOf 34 = .ok (.i2c, 1) := by decide +kernel
theorem d_PB_wholeOf_35 : decode b_PB_wholeOf 35 = .ok (.i2l, 1) := by decide +kernel
theorem d_PB_wholeOf_36 : decode b_PB_wholeOf 36 = .ok (.lreturn, 1) := by decide +kernel
theorem d_PB_wholeOf_37 : decode b_PB_wholeOf 37 = .ok (.lload_n 0, 1) := by decide +kernel
theorem d_PB_wholeOf_38 : decode b_PB_wholeOf 38 = .ok (.l2i, 1) := by decide +kernel
theorem d_PB_wholeOf_39 : decode b_PB_wholeOf 39 = .ok (.i2b, 1) := by decide +kernel
theorem d_PB_wholeOf_40 : decode b_PB_wholeOf 40 = .ok (.i2l, 1) := by decide +kernel
theorem d_PB_wholeOf_41 : decode b_PB_wholeOf 41 = .ok (.lreturn, 1) := by decide +kernel
theorem d_PB_wholeOf_42 : decode b_PB_wholeOf 42 = .ok (.lload_n 0, 1) := by decide +kernel
theorem d_PB_wholeOf_43 : decode b_PB_wholeOf 43 = .ok (.l2i, 1) := by decide +kernel
theorem d_PB_wholeOf_44 : decode b_PB_wholeOf 44 = .ok (.i2s, 1) := by decide +kernel
theorem d_PB_wholeOf_45 : decode b_PB_wholeOf 45 = .ok (.i2l, 1) := by decide +kernel
theorem d_PB_wholeOf_46 : decode b_PB_wholeOf 46 = .ok (.lreturn, 1) := by decide +kernel
theorem d_PB_wholeOf_47 : decode b_PB_wholeOf 47 = .ok (.lload_n 0, 1) := by decide +kernel
theorem d_PB_wholeOf_48 : decode b_PB_wholeOf 48 = .ok (.l2i, 1) := by decide +kernel
theorem d_PB_wholeOf_49 : decode b_PB_wholeOf 49 = .ok (.i2l, 1) := by decide +kernel
theorem d_PB_wholeOf_50 : decode b_PB_wholeOf 50 = .ok (.lreturn, 1) := by decide +kernel
theorem d_PB_wholeOf_51 : decode b_PB_wholeOf 51 = .ok (.lload_n 0, 1) := by decide +kernel
theorem d_PB_wholeOf_52 : decode b_PB_wholeOf 52 = .ok (.lreturn, 1) := by decide +kernel
def F_PB_wholeOf (a0 : Int64) (a1 : Int32) : Int64 := if a1 = (0 : Int32) then (((((a0).toInt32).toUInt32 % 65536).toInt32).toInt64) else if a1 = (1 : Int32) then ((((a0).toInt32).toInt8.toInt32).toInt64) else if a1 = (2 : Int32) then ((((a0).toInt32).toInt16.toInt32).toInt64) else if a1 = (3 : Int32) then (((a0).toInt32).toInt64) else a0
set_option maxHeartbeats 4000000 in
set_option maxRecDepth 100000 in
theorem c_PB_wholeOf (l : Launch) (a0 : Int64) (a1 : Int32) : Met l y_PB_wholeOf (.code y_PB_wholeOf b_PB_wholeOf 3 (some .long) :: BIG) ({ frames := 0, cells := 0, slots := 0, locals := 0 } : Room) (va_Pc [.long a0, .int a1] (pre0)) (pQ (.long (F_PB_wholeOf a0 a1))) 0 0 (fun _ => False) := by
  refine pOpen_l rfl (Nat.le_of_ble_eq_true rfl) ?_
  intro p e s m args below meth c Q ls hx hb hml hown hts hT hp hl hret
  have hNB := hp
  have hown : s.vm.findClass R_PB = some m.cls := hown
  have hl : lv_has ls 3 [(0, .long a0), (2, .int a1)] := hl
  obtain ⟨r, h⟩ : ∃ r, F_PB_wholeOf a0 a1 = r := ⟨_, rfl⟩
  rw [h] at hret
  have h : (if a1 = (0 : Int32) then (((((a0).toInt32).toUInt32 % 65536).toInt32).toInt64) else if a1 = (1 : Int32) then ((((a0).toInt32).toInt8.toInt32).toInt64) else if a1 = (2 : Int32) then ((((a0).toInt32).toInt16.toInt32).toInt64) else if a1 = (3 : Int32) then (((a0).toInt32).toInt64) else a0) = r := h
  refine lv_iload_n hx hb d_PB_wholeOf_0 rfl (lv_at hl 1 rfl) ?_
  by_cases hc0 : a1 = (0 : Int32)
  · have h := ite_t hc0 h
    refine lv_tableIn (off := 31) (tgt := 32) hx hb d_PB_wholeOf_1 (by rw [hc0]; decide) (by rw [hc0]; decide) (by rw [hc0]; rfl) rfl ?_
    refine lv_lload_n hx hb d_PB_wholeOf_32 rfl (lv_at hl 0 rfl) ?_
    refine lv_l2i hx hb d_PB_wholeOf_33 rfl ?_
    refine lv_i2c hx hb d_PB_wholeOf_34 rfl ?_
    refine lv_i2l hx hb d_PB_wholeOf_35 rfl ?_
    exact hret 36 ls _ h d_PB_wholeOf_36
  have h := ite_f hc0 h
  by_cases hc1 : a1 = (1 : Int32)
  · have h := ite_t hc1 h
    refine lv_tableIn (off := 36) (tgt := 37) hx hb d_PB_wholeOf_1 (by rw [hc1]; decide) (by rw [hc1]; decide) (by rw [hc1]; rfl) rfl ?_
    refine lv_lload_n hx hb d_PB_wholeOf_37 rfl (lv_at hl 0 rfl) ?_
    refine lv_l2i hx hb d_PB_wholeOf_38 rfl ?_
    refine lv_i2b hx hb d_PB_wholeOf_39 rfl ?_
    refine lv_i2l hx hb d_PB_wholeOf_40 rfl ?_
    exact hret 41 ls _ h d_PB_wholeOf_41
  have h := ite_f hc1 h
  by_cases hc2 : a1 = (2 : Int32)
  · have h := ite_t hc2 h
    refine lv_tableIn (off := 41) (tgt := 42) hx hb d_PB_wholeOf_1 (by rw [hc2]; decide) (by rw [hc2]; decide) (by rw [hc2]; rfl) rfl ?_
    refine lv_lload_n hx hb d_PB_wholeOf_42 rfl (lv_at hl 0 rfl) ?_
    refine lv_l2i hx hb d_PB_wholeOf_43 rfl ?_
    refine lv_i2s hx hb d_PB_wholeOf_44 rfl ?_
    refine lv_i2l hx hb d_PB_wholeOf_45 rfl ?_
    exact hret 46 ls _ h d_PB_wholeOf_46
  have h := ite_f hc2 h
  by_cases hc3 : a1 = (3 : Int32)
  · have h := ite_t hc3 h
    refine lv_tableIn (off := 46) (tgt := 47) hx hb d_PB_wholeOf_1 (by rw [hc3]; decide) (by rw [hc3]; decide) (by rw [hc3]; rfl) rfl ?_
    refine lv_lload_n hx hb d_PB_wholeOf_47 rfl (lv_at hl 0 rfl) ?_
    refine lv_l2i hx hb d_PB_wholeOf_48 rfl ?_
    refine lv_i2l hx hb d_PB_wholeOf_49 rfl ?_
    exact hret 50 ls _ h d_PB_wholeOf_50
  have h := ite_f hc3 h
  refine lv_tableOut (tgt := 51) hx hb d_PB_wholeOf_1 (by have n0 := lv_neT hc0 (show ((0 : Int32)).toInt = 0 from rfl); have n1 := lv_neT hc1 (show ((1 : Int32)).toInt = 1 from rfl); have n2 := lv_neT hc2 (show ((2 : Int32)).toInt = 2 from rfl); have n3 := lv_neT hc3 (show ((3 : Int32)).toInt = 3 from rfl); omega) rfl ?_
  refine lv_lload_n hx hb d_PB_wholeOf_51 rfl (lv_at hl 0 rfl) ?_
  exact hret 52 ls _ h d_PB_wholeOf_52
-- PB_order
theorem d_PB_order_0 : decode b_PB_order 0 = .ok (.lload_n 0, 1) := by decide +kernel
theorem d_PB_order_1 : decode b_PB_order 1 = .ok (.lload_n 2, 1) := by decide +kernel
theorem d_PB_order_2 : decode b_PB_order 2 = .ok (.lcmp, 1) := by decide +kernel
theorem d_PB_order_3 : decode b_PB_order 3 = .ok (.ifCond .ge 7, 3) := by decide +kernel
theorem d_PB_order_6 : decode b_PB_order 6 = .ok (.iconst (-1), 1) := by decide +kernel
theorem d_PB_order_7 : decode b_PB_order 7 = .ok (.goto 14, 3) := by decide +kernel
theorem d_PB_order_10 : decode b_PB_order 10 = .ok (.lload_n 0, 1) := by decide +kernel
theorem d_PB_order_11 : decode b_PB_order 11 = .ok (.lload_n 2, 1) := by decide +kernel
theorem d_PB_order_12 : decode b_PB_order 12 = .ok (.lcmp, 1) := by decide +kernel
theorem d_PB_order_13 : decode b_PB_order 13 = .ok (.ifCond .le 7, 3) := by decide +kernel
theorem d_PB_order_16 : decode b_PB_order 16 = .ok (.iconst 1, 1) := by decide +kernel
theorem d_PB_order_17 : decode b_PB_order 17 = .ok (.goto 4, 3) := by decide +kernel
theorem d_PB_order_20 : decode b_PB_order 20 = .ok (.iconst 0, 1) := by decide +kernel
theorem d_PB_order_21 : decode b_PB_order 21 = .ok (.ireturn, 1) := by decide +kernel
def F_PB_order (a0 : Int64) (a1 : Int64) : Int32 := lt_ (if a1 ≤ a0 then if a0 ≤ a1 then (0 : Int32) else (1 : Int32) else (-1 : Int32)) fun x1 => x1
set_option maxHeartbeats 4000000 in
set_option maxRecDepth 100000 in
theorem c_PB_order (l : Launch) (a0 : Int64) (a1 : Int64) : Met l y_PB_order (.code y_PB_order b_PB_order 4 (some .int) :: BIG) ({ frames := 0, cells := 0, slots := 0, locals := 0 } : Room) (va_Pc [.long a0, .long a1] (pre0)) (pQ (.int (F_PB_order a0 a1))) 0 0 (fun _ => False) := by
  refine pOpen_i rfl (Nat.le_of_ble_eq_true rfl) ?_
  intro p e s m args below meth c Q ls hx hb hml hown hts hT hp hl hret
  have hNB := hp
  have hown : s.vm.findClass R_PB = some m.cls := hown
  have hl : lv_has ls 4 [(0, .long a0), (2, .long a1)] := hl
  obtain ⟨r, h⟩ : ∃ r, F_PB_order a0 a1 = r := ⟨_, rfl⟩
  rw [h] at hret
  have h : (lt_ (if a1 ≤ a0 then if a0 ≤ a1 then (0 : Int32) else (1 : Int32) else (-1 : Int32)) fun x1 => x1) = r := h
  refine lv_lload_n hx hb d_PB_order_0 rfl (lv_at hl 0 rfl) ?_
  refine lv_lload_n hx hb d_PB_order_1 rfl (lv_at hl 1 rfl) ?_
  refine W.lcmp hx hb d_PB_order_2 ?_
  obtain ⟨x1, e_x1, h⟩ := lt_o h
  have hJ21 : ∀ (x1' : Int32) (ls : Array Slot), x1 = x1' → lv_has ls 4 [] → W p l e ({ frames := 0, cells := 0, slots := 0, locals := 0 } : Room) s m args below meth c s.heap [] 0 0 Q (F0 m 21 ls [.int x1']) := by
    intro x1' ls q_x1 hl
    subst q_x1
    exact hret 21 ls _ h d_PB_order_21
  refine lv_if_ge (tgt := 10) hx hb d_PB_order_3 rfl (fun hc => ?_) (fun hc => ?_)
  · have hc := (lg_cmp_ge _ _).mp hc
    have e_x1 := e_x1.trans (if_pos hc)
    refine lv_lload_n hx hb d_PB_order_10 rfl (lv_at hl 0 rfl) ?_
    refine lv_lload_n hx hb d_PB_order_11 rfl (lv_at hl 1 rfl) ?_
    refine W.lcmp hx hb d_PB_order_12 ?_
    refine lv_if_le (tgt := 20) hx hb d_PB_order_13 rfl (fun hc => ?_) (fun hc => ?_)
    · have hc := (lg_cmp_le _ _).mp hc
      have e_x1 := e_x1.trans (if_pos hc)
      refine lv_iconst hx hb d_PB_order_20 ic_0 ?_
      exact hJ21 _ ls e_x1 (lv_sub hl [] rfl)
    · have hc := mt (lg_cmp_le _ _).mpr hc
      have e_x1 := e_x1.trans (if_neg hc)
      refine lv_iconst hx hb d_PB_order_16 ic_1 ?_
      refine lv_goto (tgt := 21) hx hb d_PB_order_17 rfl ?_
      exact hJ21 _ ls e_x1 (lv_sub hl [] rfl)
  · have hc := mt (lg_cmp_ge _ _).mpr hc
    have e_x1 := e_x1.trans (if_neg hc)
    refine lv_iconst hx hb d_PB_order_6 ic_m1 ?_
    refine lv_goto (tgt := 21) hx hb d_PB_order_7 rfl ?_
    exact hJ21 _ ls e_x1 (lv_sub hl [] rfl)
-- PB_shiftedInt
theorem d_PB_shiftedInt_0 : decode b_PB_shiftedInt 0 = .ok (.iload_n 0, 1) := by decide +kernel
theorem d_PB_shiftedInt_1 : decode b_PB_shiftedInt 1 = .ok (.lookupswitch 43 #[(8, 27), (9, 35)], 27) := by decide +kernel
theorem d_PB_shiftedInt_28 : decode b_PB_shiftedInt 28 = .ok (.iload_n 1, 1) := by decide +kernel
theorem d_PB_shiftedInt_29 : decode b_PB_shiftedInt 29 = .ok (.iload_n 2, 1) := by decide +kernel
theorem d_PB_shiftedInt_30 : decode b_PB_shiftedInt 30 = .ok (.bipush 31, 2) := by decide +kernel
theorem d_PB_shiftedInt_32 : decode b_PB_shiftedInt 32 = .ok (.iand, 1) := by decide +kernel
theorem d_PB_shiftedInt_33 : decode b_PB_shiftedInt 33 = .ok (.ishl, 1) := by decide +kernel
theorem d_PB_shiftedInt_34 : decode b_PB_shiftedInt 34 = .ok (.i2l, 1) := by decide +kernel
theorem d_PB_shiftedInt_35 : decode b_PB_shiftedInt 35 = .ok (.lreturn, 1) := by decide +kernel
theorem d_PB_shiftedInt_36 : decode b_PB_shiftedInt 36 = .ok (.iload_n 1, 1) := by decide +kernel
theorem d_PB_shiftedInt_37 : decode b_PB_shiftedInt 37 = .ok (.iload_n 2, 1) := by decide +kernel
theorem d_PB_shiftedInt_38 : decode b_PB_shiftedInt 38 = .ok (.bipush 31, 2) := by decide +kernel
theorem d_PB_shiftedInt_40 : decode b_PB_shiftedInt 40 = .ok (.iand, 1) := by decide +kernel
theorem d_PB_shiftedInt_41 : decode b_PB_shiftedInt 41 = .ok (.ishr, 1) := by decide +kernel
theorem d_PB_shiftedInt_42 : decode b_PB_shiftedInt 42 = .ok (.i2l, 1) := by decide +kernel
theorem d_PB_shiftedInt_43 : decode b_PB_shiftedInt 43 = .ok (.lreturn, 1) := by decide +kernel
theorem d_PB_shiftedInt_44 : decode b_PB_shiftedInt 44 = .ok (.iload_n 1, 1) := by decide +kernel
theorem d_PB_shiftedInt_45 : decode b_PB_shiftedInt 45 = .ok (.iload_n 2, 1) := by decide +kernel
theorem d_PB_shiftedInt_46 : decode b_PB_shiftedInt 46 = .ok (.bipush 31, 2) := by decide +kernel
theorem d_PB_shiftedInt_48 : decode b_PB_shiftedInt 48 = .ok (.iand, 1) := by decide +kernel
theorem d_PB_shiftedInt_49 : decode b_PB_shiftedInt 49 = .ok (.iushr, 1) := by decide +kernel
theorem d_PB_shiftedInt_50 : decode b_PB_shiftedInt 50 = .ok (.i2l, 1) := by decide +kernel
theorem d_PB_shiftedInt_51 : decode b_PB_shiftedInt 51 = .ok (.lreturn, 1) := by decide +kernel
def F_PB_shiftedInt (a0 : Int32) (a1 : Int32) (a2 : Int32) : Int64 := if a0 = (8 : Int32) then ((a1 <<< ((a2 &&& (31 : Int32)) &&& 31)).toInt64) else if a0 = (9 : Int32) then ((a1 >>> ((a2 &&& (31 : Int32)) &&& 31)).toInt64) else ((((a1).toUInt32 >>> ((a2 &&& (31 : Int32)).toUInt32 &&& Int32.toUInt32 31)).toInt32).toInt64)
set_option maxHeartbeats 4000000 in
set_option maxRecDepth 100000 in
theorem c_PB_shiftedInt (l : Launch) (a0 : Int32) (a1 : Int32) (a2 : Int32) : Met l y_PB_shiftedInt (.code y_PB_shiftedInt b_PB_shiftedInt 3 (some .long) :: BIG) ({ frames := 0, cells := 0, slots := 0, locals := 0 } : Room) (va_Pc [.int a0, .int a1, .int a2] (pre0)) (pQ (.long (F_PB_shiftedInt a0 a1 a2))) 0 0 (fun _ => False) := by
  refine pOpen_l rfl (Nat.le_of_ble_eq_true rfl) ?_
  intro p e s m args below meth c Q ls hx hb hml hown hts hT hp hl hret
  have hNB := hp
  have hown : s.vm.findClass R_PB = some m.cls := hown
  have hl : lv_has ls 3 [(0, .int a0), (1, .int a1), (2, .int a2)] := hl
  obtain ⟨r, h⟩ : ∃ r, F_PB_shiftedInt a0 a1 a2 = r := ⟨_, rfl⟩
  rw [h] at hret
  have h : (if a0 = (8 : Int32) then ((a1 <<< ((a2 &&& (31 : Int32)) &&& 31)).toInt64) else if a0 = (9 : Int32) then ((a1 >>> ((a2 &&& (31 : Int32)) &&& 31)).toInt64) else ((((a1).toUInt32 >>> ((a2 &&& (31 : Int32)).toUInt32 &&& Int32.toUInt32 31)).toInt32).toInt64)) = r := h
  refine lv_iload_n hx hb d_PB_shiftedInt_0 rfl (lv_at hl 0 rfl) ?_
  by_cases hc8 : a0 = (8 : Int32)
  · have h := ite_t hc8 h
    refine lv_lookup (off := 27) (tgt := 28) hx hb d_PB_shiftedInt_1 (by decide) (by rw [hc8]; rfl) rfl ?_
    refine lv_iload_n hx hb d_PB_shiftedInt_28 rfl (lv_at hl 1 rfl) ?_
    refine lv_iload_n hx hb d_PB_shiftedInt_29 rfl (lv_at hl 2 rfl) ?_
    refine lv_bipush hx hb d_PB_shiftedInt_30 bp_31 ?_
    refine lv_iand hx hb d_PB_shiftedInt_32 ?_
    refine lv_ishl hx hb d_PB_shiftedInt_33 ?_
    refine lv_i2l hx hb d_PB_shiftedInt_34 rfl ?_
    exact hret 35 ls _ h d_PB_shiftedInt_35
  have h := ite_f hc8 h
  by_cases hc9 : a0 = (9 : Int32)
  · have h := ite_t hc9 h
    refine lv_lookup (off := 35) (tgt := 36) hx hb d_PB_shiftedInt_1 (by decide) (by rw [hc9]; rfl) rfl ?_
    refine lv_iload_n hx hb d_PB_shiftedInt_36 rfl (lv_at hl 1 rfl) ?_
    refine lv_iload_n hx hb d_PB_shiftedInt_37 rfl (lv_at hl 2 rfl) ?_
    refine lv_bipush hx hb d_PB_shiftedInt_38 bp_31 ?_
    refine lv_iand hx hb d_PB_shiftedInt_40 ?_
    refine lv_ishr hx hb d_PB_shiftedInt_41 ?_
    refine lv_i2l hx hb d_PB_shiftedInt_42 rfl ?_
    exact hret 43 ls _ h d_PB_shiftedInt_43
  have h := ite_f hc9 h
  refine lv_lookup (off := 43) (tgt := 44) hx hb d_PB_shiftedInt_1 (by decide) (by rw [lv_osw hc8 (show ((8 : Int32)).toInt = 8 from rfl)]; rw [lv_osw hc9 (show ((9 : Int32)).toInt = 9 from rfl)]; rfl) rfl ?_
  refine lv_iload_n hx hb d_PB_shiftedInt_44 rfl (lv_at hl 1 rfl) ?_
  refine lv_iload_n hx hb d_PB_shiftedInt_45 rfl (lv_at hl 2 rfl) ?_
  refine lv_bipush hx hb d_PB_shiftedInt_46 bp_31 ?_
  refine lv_iand hx hb d_PB_shiftedInt_48 ?_
  refine lv_iushr hx hb d_PB_shiftedInt_49 rfl ?_
  refine lv_i2l hx hb d_PB_shiftedInt_50 rfl ?_
  exact hret 51 ls _ h d_PB_shiftedInt_51
-- PB_shiftedLong
theorem d_PB_shiftedLong_0 : decode b_PB_shiftedLong 0 = .ok (.iload_n 0, 1) := by decide +kernel
theorem d_PB_shiftedLong_1 : decode b_PB_shiftedLong 1 = .ok (.lookupswitch 41 #[(8, 27), (9, 34)], 27) := by decide +kernel
theorem d_PB_shiftedLong_28 : decode b_PB_shiftedLong 28 = .ok (.lload_n 1, 1) := by decide +kernel
theorem d_PB_shiftedLong_29 : decode b_PB_shiftedLong 29 = .ok (.iload_n 3, 1) := by decide +kernel
theorem d_PB_shiftedLong_30 : decode b_PB_shiftedLong 30 = .ok (.bipush 63, 2) := by decide +kernel
theorem d_PB_shiftedLong_32 : decode b_PB_shiftedLong 32 = .ok (.iand, 1) := by decide +kernel
theorem d_PB_shiftedLong_33 : decode b_PB_shiftedLong 33 = .ok (.lshl, 1) := by decide +kernel
theorem d_PB_shiftedLong_34 : decode b_PB_shiftedLong 34 = .ok (.lreturn, 1) := by decide +kernel
theorem d_PB_shiftedLong_35 : decode b_PB_shiftedLong 35 = .ok (.lload_n 1, 1) := by decide +kernel
theorem d_PB_shiftedLong_36 : decode b_PB_shiftedLong 36 = .ok (.iload_n 3, 1) := by decide +kernel
theorem d_PB_shiftedLong_37 : decode b_PB_shiftedLong 37 = .ok (.bipush 63, 2) := by decide +kernel
theorem d_PB_shiftedLong_39 : decode b_PB_shiftedLong 39 = .ok (.iand, 1) := by decide +kernel
theorem d_PB_shiftedLong_40 : decode b_PB_shiftedLong 40 = .ok (.lshr, 1) := by decide +kernel
theorem d_PB_shiftedLong_41 : decode b_PB_shiftedLong 41 = .ok (.lreturn, 1) := by decide +kernel
theorem d_PB_shiftedLong_42 : decode b_PB_shiftedLong 42 = .ok (.lload_n 1, 1) := by decide +kernel
theorem d_PB_shiftedLong_43 : decode b_PB_shiftedLong 43 = .ok (.iload_n 3, 1) := by decide +kernel
theorem d_PB_shiftedLong_44 : decode b_PB_shiftedLong 44 = .ok (.bipush 63, 2) := by decide +kernel
theorem d_PB_shiftedLong_46 : decode b_PB_shiftedLong 46 = .ok (.iand, 1) := by decide +kernel
theorem d_PB_shiftedLong_47 : decode b_PB_shiftedLong 47 = .ok (.lushr, 1) := by decide +kernel
theorem d_PB_shiftedLong_48 : decode b_PB_shiftedLong 48 = .ok (.lreturn, 1) := by decide +kernel
def F_PB_shiftedLong (a0 : Int32) (a1 : Int64) (a2 : Int32) : Int64 := if a0 = (8 : Int32) then (a1 <<< ((a2 &&& (63 : Int32)).toInt64 &&& 63)) else if a0 = (9 : Int32) then (a1 >>> ((a2 &&& (63 : Int32)).toInt64 &&& 63)) else (((a1).toUInt64 >>> ((a2 &&& (63 : Int32)).toInt64.toUInt64 &&& Int64.toUInt64 63)).toInt64)
set_option maxHeartbeats 4000000 in
set_option maxRecDepth 100000 in
theorem c_PB_shiftedLong (l : Launch) (a0 : Int32) (a1 : Int64) (a2 : Int32) : Met l y_PB_shiftedLong (.code y_PB_shiftedLong b_PB_shiftedLong 4 (some .long) :: BIG) ({ frames := 0, cells := 0, slots := 0, locals := 0 } : Room) (va_Pc [.int a0, .long a1, .int a2] (pre0)) (pQ (.long (F_PB_shiftedLong a0 a1 a2))) 0 0 (fun _ => False) := by
  refine pOpen_l rfl (Nat.le_of_ble_eq_true rfl) ?_
  intro p e s m args below meth c Q ls hx hb hml hown hts hT hp hl hret
  have hNB := hp
  have hown : s.vm.findClass R_PB = some m.cls := hown
  have hl : lv_has ls 4 [(0, .int a0), (1, .long a1), (3, .int a2)] := hl
  obtain ⟨r, h⟩ : ∃ r, F_PB_shiftedLong a0 a1 a2 = r := ⟨_, rfl⟩
  rw [h] at hret
  have h : (if a0 = (8 : Int32) then (a1 <<< ((a2 &&& (63 : Int32)).toInt64 &&& 63)) else if a0 = (9 : Int32) then (a1 >>> ((a2 &&& (63 : Int32)).toInt64 &&& 63)) else (((a1).toUInt64 >>> ((a2 &&& (63 : Int32)).toInt64.toUInt64 &&& Int64.toUInt64 63)).toInt64)) = r := h
  refine lv_iload_n hx hb d_PB_shiftedLong_0 rfl (lv_at hl 0 rfl) ?_
  by_cases hc8 : a0 = (8 : Int32)
  · have h := ite_t hc8 h
    refine lv_lookup (off := 27) (tgt := 28) hx hb d_PB_shiftedLong_1 (by decide) (by rw [hc8]; rfl) rfl ?_
    refine lv_lload_n hx hb d_PB_shiftedLong_28 rfl (lv_at hl 1 rfl) ?_
    refine lv_iload_n hx hb d_PB_shiftedLong_29 rfl (lv_at hl 2 rfl) ?_
    refine lv_bipush hx hb d_PB_shiftedLong_30 bp_63 ?_
    refine lv_iand hx hb d_PB_shiftedLong_32 ?_
    refine lv_lshl hx hb d_PB_shiftedLong_33 rfl ?_
    exact hret 34 ls _ h d_PB_shiftedLong_34
  have h := ite_f hc8 h
  by_cases hc9 : a0 = (9 : Int32)
  · have h := ite_t hc9 h
    refine lv_lookup (off := 34) (tgt := 35) hx hb d_PB_shiftedLong_1 (by decide) (by rw [hc9]; rfl) rfl ?_
    refine lv_lload_n hx hb d_PB_shiftedLong_35 rfl (lv_at hl 1 rfl) ?_
    refine lv_iload_n hx hb d_PB_shiftedLong_36 rfl (lv_at hl 2 rfl) ?_
    refine lv_bipush hx hb d_PB_shiftedLong_37 bp_63 ?_
    refine lv_iand hx hb d_PB_shiftedLong_39 ?_
    refine lv_lshr hx hb d_PB_shiftedLong_40 rfl ?_
    exact hret 41 ls _ h d_PB_shiftedLong_41
  have h := ite_f hc9 h
  refine lv_lookup (off := 41) (tgt := 42) hx hb d_PB_shiftedLong_1 (by decide) (by rw [lv_osw hc8 (show ((8 : Int32)).toInt = 8 from rfl)]; rw [lv_osw hc9 (show ((9 : Int32)).toInt = 9 from rfl)]; rfl) rfl ?_
  refine lv_lload_n hx hb d_PB_shiftedLong_42 rfl (lv_at hl 1 rfl) ?_
  refine lv_iload_n hx hb d_PB_shiftedLong_43 rfl (lv_at hl 2 rfl) ?_
  refine lv_bipush hx hb d_PB_shiftedLong_44 bp_63 ?_
  refine lv_iand hx hb d_PB_shiftedLong_46 ?_
  refine lv_lushr hx hb d_PB_shiftedLong_47 rfl ?_
  exact hret 48 ls _ h d_PB_shiftedLong_48
-- PB_leadingZeros
theorem d_PB_leadingZeros_0 : decode b_PB_leadingZeros 0 = .ok (.iconst 0, 1) := by decide +kernel
theorem d_PB_leadingZeros_1 : decode b_PB_leadingZeros 1 = .ok (.istore_n 2, 1) := by decide +kernel
theorem d_PB_leadingZeros_2 : decode b_PB_leadingZeros 2 = .ok (.lload_n 0, 1) := by decide +kernel
theorem d_PB_leadingZeros_3 : decode b_PB_leadingZeros 3 = .ok (.lstore_n 3, 1) := by decide +kernel
theorem d_PB_leadingZeros_4 : decode b_PB_leadingZeros 4 = .ok (.bipush 32, 2) := by decide +kernel
theorem d_PB_leadingZeros_6 : decode b_PB_leadingZeros 6 = .ok (.istore 5, 2) := by decide +kernel
theorem d_PB_leadingZeros_8 : decode b_PB_leadingZeros 8 = .ok (.iload 5, 2) := by decide +kernel
theorem d_PB_leadingZeros_10 : decode b_PB_leadingZeros 10 = .ok (.ifCond .le 34, 3) := by decide +kernel
theorem d_PB_leadingZeros_13 : decode b_PB_leadingZeros 13 = .ok (.lload_n 3, 1) := by decide +kernel
theorem d_PB_leadingZeros_14 : decode b_PB_leadingZeros 14 = .ok (.bipush 64, 2) := by decide +kernel
theorem d_PB_leadingZeros_16 : decode b_PB_leadingZeros 16 = .ok (.iload 5, 2) := by decide +kernel
theorem d_PB_leadingZeros_18 : decode b_PB_leadingZeros 18 = .ok (.isub, 1) := by decide +kernel
theorem d_PB_leadingZeros_19 : decode b_PB_leadingZeros 19 = .ok (.lushr, 1) := by decide +kernel
theorem d_PB_leadingZeros_20 : decode b_PB_leadingZeros 20 = .ok (.lconst 0, 1) := by decide +kernel
theorem d_PB_leadingZeros_21 : decode b_PB_leadingZeros 21 = .ok (.lcmp, 1) := by decide +kernel
theorem d_PB_leadingZeros_22 : decode b_PB_leadingZeros 22 = .ok (.ifCond .ne 13, 3) := by decide +kernel
theorem d_PB_leadingZeros_25 : decode b_PB_leadingZeros 25 = .ok (.iload_n 2, 1) := by decide +kernel
theorem d_PB_leadingZeros_26 : decode b_PB_leadingZeros 26 = .ok (.iload 5, 2) := by decide +kernel
theorem d_PB_leadingZeros_28 : decode b_PB_leadingZeros 28 = .ok (.iadd, 1) := by decide +kernel
theorem d_PB_leadingZeros_29 : decode b_PB_leadingZeros 29 = .ok (.istore_n 2, 1) := by decide +kernel
theorem d_PB_leadingZeros_30 : decode b_PB_leadingZeros 30 = .ok (.lload_n 3, 1) := by decide +kernel
theorem d_PB_leadingZeros_31 : decode b_PB_leadingZeros 31 = .ok (.iload 5, 2) := by decide +kernel
theorem d_PB_leadingZeros_33 : decode b_PB_leadingZeros 33 = .ok (.lshl, 1) := by decide +kernel
theorem d_PB_leadingZeros_34 : decode b_PB_leadingZeros 34 = .ok (.lstore_n 3, 1) := by decide +kernel
theorem d_PB_leadingZeros_35 : decode b_PB_leadingZeros 35 = .ok (.iload 5, 2) := by decide +kernel
theorem d_PB_leadingZeros_37 : decode b_PB_leadingZeros 37 = .ok (.iconst 1, 1) := by decide +kernel
theorem d_PB_leadingZeros_38 : decode b_PB_leadingZeros 38 = .ok (.ishr, 1) := by decide +kernel
theorem d_PB_leadingZeros_39 : decode b_PB_leadingZeros 39 = .ok (.istore 5, 2) := by decide +kernel
theorem d_PB_leadingZeros_41 : decode b_PB_leadingZeros 41 = .ok (.goto (-33), 3) := by decide +kernel
theorem d_PB_leadingZeros_44 : decode b_PB_leadingZeros 44 = .ok (.iload_n 2, 1) := by decide +kernel
theorem d_PB_leadingZeros_45 : decode b_PB_leadingZeros 45 = .ok (.ireturn, 1) := by decide +kernel
def F_PB_leadingZeros_L8 (j44 : (Int32 → Option (Int32))) : Nat → Int32 → Int64 → Int32 → Option (Int32)
  | 0, _, _, _ => none
  | n+1, y2, y3, y4 => if y4 ≤ 0 then (j44 y2) else (lt_ (if ¬ (((y3).toUInt64 >>> (((64 : Int32) - y4).toInt64.toUInt64 &&& Int64.toUInt64 63)).toInt64) = (0 : Int64) then y2 else y2 + y4) fun x5 => lt_ (if ¬ (((y3).toUInt64 >>> (((64 : Int32) - y4).toInt64.toUInt64 &&& Int64.toUInt64 63)).toInt64) = (0 : Int64) then y3 else y3 <<< ((y4).toInt64 &&& 63)) fun x6 => lt_ (y4 >>> ((1 : Int32) &&& 31)) fun x7 => F_PB_leadingZeros_L8 j44 n x5 x6 x7)
def F_PB_leadingZeros (n : Nat) (a0 : Int64) : Option (Int32) := lt_ (fun (y1 : Int32) => some y1) fun j44 => F_PB_leadingZeros_L8 j44 n (0 : Int32) a0 (32 : Int32)
set_option maxHeartbeats 4000000 in
set_option maxRecDepth 100000 in
theorem c_PB_leadingZeros (l : Launch) (n : Nat) (a0 : Int64) (r : Int32) (h : F_PB_leadingZeros n a0 = some r) : Met l y_PB_leadingZeros (.code y_PB_leadingZeros b_PB_leadingZeros 6 (some .int) :: BIG) ({ frames := 0, cells := 0, slots := 0, locals := 0 } : Room) (va_Pc [.long a0] (pre0)) (pQ (.int r)) 0 0 (fun _ => False) := by
  refine pOpen_i rfl (Nat.le_of_ble_eq_true rfl) ?_
  intro p e s m args below meth c Q ls hx hb hml hown hts hT hp hl hret
  have hNB := hp
  have hown : s.vm.findClass R_PB = some m.cls := hown
  have hl : lv_has ls 6 [(0, .long a0)] := hl
  have h : (lt_ (fun (y1 : Int32) => some y1) fun j44 => F_PB_leadingZeros_L8 j44 n (0 : Int32) a0 (32 : Int32)) = some r := h
  refine lv_iconst hx hb d_PB_leadingZeros_0 ic_0 ?_
  refine lv_istore_n hx hb d_PB_leadingZeros_1 rfl hl (by decide) rfl (fun ls hl => ?_)
  have hl : lv_has ls 6 [(2, .int (0 : Int32)), (0, .long a0)] := hl
  refine lv_lload_n hx hb d_PB_leadingZeros_2 rfl (lv_at hl 1 rfl) ?_
  refine lv_lstore_n hx hb d_PB_leadingZeros_3 rfl hl (by decide) rfl (fun ls hl => ?_)
  have hl : lv_has ls 6 [(3, .long a0), (2, .int (0 : Int32)), (0, .long a0)] := hl
  refine lv_bipush hx hb d_PB_leadingZeros_4 bp_32 ?_
  refine lv_istore hx hb d_PB_leadingZeros_6 hl (by decide) rfl (fun ls hl => ?_)
  have hl : lv_has ls 6 [(5, .int (32 : Int32)), (3, .long a0), (2, .int (0 : Int32)), (0, .long a0)] := hl
  obtain ⟨j44, e_j44, h⟩ := lt_o h
  have hJ44 : ∀ (y1 : Int32) (ls : Array Slot), lv_has ls 6 [(2, .int y1)] → j44 y1 = some r → W p l e ({ frames := 0, cells := 0, slots := 0, locals := 0 } : Room) s m args below meth c s.heap [] 0 0 Q (F0 m 44 ls []) := by
    intro y1 ls hl h
    rw [e_j44] at h
    refine lv_iload_n hx hb d_PB_leadingZeros_44 rfl (lv_at hl 0 rfl) ?_
    exact hret 45 ls _ (Option.some.inj h) d_PB_leadingZeros_45
  have hL8 : ∀ (n : Nat) (y2 : Int32) (y3 : Int64) (y4 : Int32) (ls : Array Slot), lv_has ls 6 [(2, .int y2), (3, .long y3), (5, .int y4)] → F_PB_leadingZeros_L8 j44 n y2 y3 y4 = some r → W p l e ({ frames := 0, cells := 0, slots := 0, locals := 0 } : Room) s m args below meth c s.heap [] 0 0 Q (F0 m 8 ls []) := by
    intro n
    induction n with
    | zero => intro y2 y3 y4 ls hl h; exact no_s h
    | succ n ih =>
      intro y2 y3 y4 ls hl h
      have h : (if y4 ≤ 0 then (j44 y2) else (lt_ (if ¬ (((y3).toUInt64 >>> (((64 : Int32) - y4).toInt64.toUInt64 &&& Int64.toUInt64 63)).toInt64) = (0 : Int64) then y2 else y2 + y4) fun x5 => lt_ (if ¬ (((y3).toUInt64 >>> (((64 : Int32) - y4).toInt64.toUInt64 &&& Int64.toUInt64 63)).toInt64) = (0 : Int64) then y3 else y3 <<< ((y4).toInt64 &&& 63)) fun x6 => lt_ (y4 >>> ((1 : Int32) &&& 31)) fun x7 => F_PB_leadingZeros_L8 j44 n x5 x6 x7)) = some r := h
      refine lv_iload hx hb d_PB_leadingZeros_8 (lv_at hl 2 rfl) ?_
      refine lv_if_le (tgt := 44) hx hb d_PB_leadingZeros_10 rfl (fun hc => ?_) (fun hc => ?_)
      · have h := ite_t hc h
        exact hJ44 _ ls (lv_sub hl [0] rfl) h
      · have h := ite_f hc h
        refine lv_lload_n hx hb d_PB_leadingZeros_13 rfl (lv_at hl 1 rfl) ?_
        refine lv_bipush hx hb d_PB_leadingZeros_14 bp_64 ?_
        refine lv_iload hx hb d_PB_leadingZeros_16 (lv_at hl 2 rfl) ?_
        refine lv_isub hx hb d_PB_leadingZeros_18 ?_
        refine lv_lushr hx hb d_PB_leadingZeros_19 rfl ?_
        refine lv_lconst hx hb d_PB_leadingZeros_20 lc_0 ?_
        refine W.lcmp hx hb d_PB_leadingZeros_21 ?_
        obtain ⟨x5, e_x5, h⟩ := lt_o h
        obtain ⟨x6, e_x6, h⟩ := lt_o h
        have hJ35 : ∀ (x5' : Int32) (x6' : Int64) (ls : Array Slot), x5 = x5' → x6 = x6' → lv_has ls 6 [(2, .int x5'), (3, .long x6'), (5, .int y4)] → W p l e ({ frames := 0, cells := 0, slots := 0, locals := 0 } : Room) s m args below meth c s.heap [] 0 0 Q (F0 m 35 ls []) := by
          intro x5' x6' ls q_x5 q_x6 hl
          subst q_x5
          subst q_x6
          refine lv_iload hx hb d_PB_leadingZeros_35 (lv_at hl 2 rfl) ?_
          refine lv_iconst hx hb d_PB_leadingZeros_37 ic_1 ?_
          refine lv_ishr hx hb d_PB_leadingZeros_38 ?_
          refine lv_topi (fun x7 e_x7 => ?_)
          have h := lt_h e_x7 h
          refine lv_istore hx hb d_PB_leadingZeros_39 hl (by decide) rfl (fun ls hl => ?_)
          have hl : lv_has ls 6 [(5, .int x7), (2, .int x5), (3, .long x6)] := hl
          refine lv_goto (tgt := 8) hx hb d_PB_leadingZeros_41 rfl ?_
          exact ih _ _ _ ls (lv_sub hl [1, 2, 0] rfl) h
        refine lv_if_ne (tgt := 35) hx hb d_PB_leadingZeros_22 rfl (fun hc => ?_) (fun hc => ?_)
        · have hc := mt (lg_cmp_eq _ _).mpr hc
          have e_x5 := e_x5.trans (if_pos hc)
          have e_x6 := e_x6.trans (if_pos hc)
          exact hJ35 _ _ ls e_x5 e_x6 (lv_sub hl [0, 1, 2] rfl)
        · have hc := not_not_intro ((lg_cmp_eq _ _).mp hc)
          have e_x5 := e_x5.trans (if_neg hc)
          have e_x6 := e_x6.trans (if_neg hc)
          refine lv_iload_n hx hb d_PB_leadingZeros_25 rfl (lv_at hl 0 rfl) ?_
          refine lv_iload hx hb d_PB_leadingZeros_26 (lv_at hl 2 rfl) ?_
          refine lv_iadd hx hb d_PB_leadingZeros_28 ?_
          refine lv_istore_n hx hb d_PB_leadingZeros_29 rfl hl (by decide) rfl (fun ls hl => ?_)
          have hl : lv_has ls 6 [(2, .int (y2 + y4)), (3, .long y3), (5, .int y4)] := hl
          refine lv_lload_n hx hb d_PB_leadingZeros_30 rfl (lv_at hl 1 rfl) ?_
          refine lv_iload hx hb d_PB_leadingZeros_31 (lv_at hl 2 rfl) ?_
          refine lv_lshl hx hb d_PB_leadingZeros_33 rfl ?_
          refine lv_lstore_n hx hb d_PB_leadingZeros_34 rfl hl (by decide) rfl (fun ls hl => ?_)
          have hl : lv_has ls 6 [(3, .long (y3 <<< ((y4).toInt64 &&& 63))), (2, .int (y2 + y4)), (5, .int y4)] := hl
          exact hJ35 _ _ ls e_x5 e_x6 (lv_sub hl [1, 0, 2] rfl)
  exact hL8 n _ _ _ ls (lv_sub hl [2, 1, 0] rfl) h
-- Real_nan
theorem d_Real_nan_0 : decode b_Real_nan 0 = .ok (.aload_n 0, 1) := by decide +kernel
theorem d_Real_nan_1 : decode b_Real_nan 1 = .ok (.getfield 45, 3) := by decide +kernel
theorem d_Real_nan_4 : decode b_Real_nan 4 = .ok (.lconst 1, 1) := by decide +kernel
theorem d_Real_nan_5 : decode b_Real_nan 5 = .ok (.aload_n 0, 1) := by decide +kernel
theorem d_Real_nan_6 : decode b_Real_nan 6 = .ok (.getfield 31, 3) := by decide +kernel
theorem d_Real_nan_9 : decode b_Real_nan 9 = .ok (.iconst 1, 1) := by decide +kernel
theorem d_Real_nan_10 : decode b_Real_nan 10 = .ok (.isub, 1) := by decide +kernel
theorem d_Real_nan_11 : decode b_Real_nan 11 = .ok (.lshl, 1) := by decide +kernel
theorem d_Real_nan_12 : decode b_Real_nan 12 = .ok (.lor, 1) := by decide +kernel
theorem d_Real_nan_13 : decode b_Real_nan 13 = .ok (.lreturn, 1) := by decide +kernel
def F_Real_nan (K0 : rK) : Int64 := K0.2.2.2.2 ||| ((1 : Int64) <<< ((K0.1 - (1 : Int32)).toInt64 &&& 63))
set_option maxHeartbeats 4000000 in
set_option maxRecDepth 100000 in
theorem c_Real_nan (l : Launch) (o0 : Nat) (K0 : rK) : Met l y_Real_nan (.code y_Real_nan b_Real_nan 1 (some .long) :: BIG) ({ frames := 0, cells := 0, slots := 0, locals := 0 } : Room) (va_Pc [.ref o0] (pre1 o0 K0)) (pQ (.long (F_Real_nan K0))) 0 0 (fun _ => False) := by
  refine pOpen_l rfl (Nat.le_of_ble_eq_true rfl) ?_
  intro p e s m args below meth c Q ls hx hb hml hown hts hT hp hl hret
  obtain ⟨hNB, hRe_o0⟩ := hp
  have hown : s.vm.findClass R_Real = some m.cls := hown
  have hl : lv_has ls 1 [(0, .ref o0)] := hl
  obtain ⟨r, h⟩ : ∃ r, F_Real_nan K0 = r := ⟨_, rfl⟩
  rw [h] at hret
  have h : (K0.2.2.2.2 ||| ((1 : Int64) <<< ((K0.1 - (1 : Int32)).toInt64 &&& 63))) = r := h
  refine lv_aload_n hx hb d_Real_nan_0 rfl (lv_at hl 0 rfl) ?_
  refine vk_getf hx hb (hRe_o0.2.2.2.2.2) va_S.rf hown (hT _ m_4) (fun _ h9 => h9) d_Real_nan_1 ?_
  refine lv_lconst hx hb d_Real_nan_4 lc_1 ?_
  refine lv_aload_n hx hb d_Real_nan_5 rfl (lv_at hl 0 rfl) ?_
  refine vk_getf hx hb (hRe_o0.2.1) va_S.rf hown (hT _ m_5) (fun _ h9 => h9) d_Real_nan_6 ?_
  refine lv_iconst hx hb d_Real_nan_9 ic_1 ?_
  refine lv_isub hx hb d_Real_nan_10 ?_
  refine lv_lshl hx hb d_Real_nan_11 rfl ?_
  refine lv_lor hx hb d_Real_nan_12 ?_
  exact hret 13 ls _ h d_Real_nan_13
-- Real_isNegative
theorem d_Real_isNegative_0 : decode b_Real_isNegative 0 = .ok (.lload_n 1, 1) := by decide +kernel
theorem d_Real_isNegative_1 : decode b_Real_isNegative 1 = .ok (.aload_n 0, 1) := by decide +kernel
theorem d_Real_isNegative_2 : decode b_Real_isNegative 2 = .ok (.getfield 41, 3) := by decide +kernel
theorem d_Real_isNegative_5 : decode b_Real_isNegative 5 = .ok (.land, 1) := by decide +kernel
theorem d_Real_isNegative_6 : decode b_Real_isNegative 6 = .ok (.lconst 0, 1) := by decide +kernel
theorem d_Real_isNegative_7 : decode b_Real_isNegative 7 = .ok (.lcmp, 1) := by decide +kernel
theorem d_Real_isNegative_8 : decode b_Real_isNegative 8 = .ok (.ifCond .eq 7, 3) := by decide +kernel
theorem d_Real_isNegative_11 : decode b_Real_isNegative 11 = .ok (.iconst 1, 1) := by decide +kernel
theorem d_Real_isNegative_12 : decode b_Real_isNegative 12 = .ok (.goto 4, 3) := by decide +kernel
theorem d_Real_isNegative_15 : decode b_Real_isNegative 15 = .ok (.iconst 0, 1) := by decide +kernel
theorem d_Real_isNegative_16 : decode b_Real_isNegative 16 = .ok (.ireturn, 1) := by decide +kernel
def F_Real_isNegative (K0 : rK) (a1 : Int64) : Int32 := lt_ (if (a1 &&& K0.2.2.2.1) = (0 : Int64) then (0 : Int32) else (1 : Int32)) fun x1 => x1
set_option maxHeartbeats 4000000 in
set_option maxRecDepth 100000 in
theorem c_Real_isNegative (l : Launch) (o0 : Nat) (K0 : rK) (a1 : Int64) : Met l y_Real_isNegative (.code y_Real_isNegative b_Real_isNegative 3 (some .boolean) :: BIG) ({ frames := 0, cells := 0, slots := 0, locals := 0 } : Room) (va_Pc [.ref o0, .long a1] (pre1 o0 K0)) (pQ (.int (F_Real_isNegative K0 a1))) 0 0 (fun _ => False) := by
  refine pOpen_z rfl (Nat.le_of_ble_eq_true rfl) ?_
  intro p e s m args below meth c Q ls hx hb hml hown hts hT hp hl hret
  obtain ⟨hNB, hRe_o0⟩ := hp
  have hown : s.vm.findClass R_Real = some m.cls := hown
  have hl : lv_has ls 3 [(0, .ref o0), (1, .long a1)] := hl
  obtain ⟨r, h⟩ : ∃ r, F_Real_isNegative K0 a1 = r := ⟨_, rfl⟩
  rw [h] at hret
  have h : (lt_ (if (a1 &&& K0.2.2.2.1) = (0 : Int64) then (0 : Int32) else (1 : Int32)) fun x1 => x1) = r := h
  refine lv_lload_n hx hb d_Real_isNegative_0 rfl (lv_at hl 1 rfl) ?_
  refine lv_aload_n hx hb d_Real_isNegative_1 rfl (lv_at hl 0 rfl) ?_
  refine vk_getf hx hb (hRe_o0.2.2.2.2.1) va_S.rf hown (hT _ m_6) (fun _ h9 => h9) d_Real_isNegative_2 ?_
  refine lv_land hx hb d_Real_isNegative_5 ?_
  refine lv_lconst hx hb d_Real_isNegative_6 lc_0 ?_
  refine W.lcmp hx hb d_Real_isNegative_7 ?_
  obtain ⟨x1, e_x1, h⟩ := lt_o h
  have hJ16 : ∀ (x1' : Int32) (ls : Array Slot), x1 = x1' → lv_has ls 3 [] → W p l e ({ frames := 0, cells := 0, slots := 0, locals := 0 } : Room) s m args below meth c s.heap [] 0 0 Q (F0 m 16 ls [.int x1']) := by
    intro x1' ls q_x1 hl
    subst q_x1
    exact hret 16 ls _ h d_Real_isNegative_16 (nb_1 ((by rw [e_x1]; exact ite01 (Or.inl rfl) (Or.inr rfl))))
  refine lv_if_eq (tgt := 15) hx hb d_Real_isNegative_8 rfl (fun hc => ?_) (fun hc => ?_)
  · have hc := (lg_cmp_eq _ _).mp hc
    have e_x1 := e_x1.trans (if_pos hc)
    refine lv_iconst hx hb d_Real_isNegative_15 ic_0 ?_
    exact hJ16 _ ls e_x1 (lv_sub hl [] rfl)
  · have hc := mt (lg_cmp_eq _ _).mpr hc
    have e_x1 := e_x1.trans (if_neg hc)
    refine lv_iconst hx hb d_Real_isNegative_11 ic_1 ?_
    refine lv_goto (tgt := 16) hx hb d_Real_isNegative_12 rfl ?_
    exact hJ16 _ ls e_x1 (lv_sub hl [] rfl)
-- Real_magnitude
theorem d_Real_magnitude_0 : decode b_Real_magnitude 0 = .ok (.lload_n 1, 1) := by decide +kernel
theorem d_Real_magnitude_1 : decode b_Real_magnitude 1 = .ok (.aload_n 0, 1) := by decide +kernel
theorem d_Real_magnitude_2 : decode b_Real_magnitude 2 = .ok (.getfield 41, 3) := by decide +kernel
theorem d_Real_magnitude_5 : decode b_Real_magnitude 5 = .ok (.lconst 1, 1) := by decide +kernel
theorem d_Real_magnitude_6 : decode b_Real_magnitude 6 = .ok (.lsub, 1) := by decide +kernel
theorem d_Real_magnitude_7 : decode b_Real_magnitude 7 = .ok (.land, 1) := by decide +kernel
theorem d_Real_magnitude_8 : decode b_Real_magnitude 8 = .ok (.lreturn, 1) := by decide +kernel
def F_Real_magnitude (K0 : rK) (a1 : Int64) : Int64 := a1 &&& (K0.2.2.2.1 - (1 : Int64))
set_option maxHeartbeats 4000000 in
set_option maxRecDepth 100000 in
theorem c_Real_magnitude (l : Launch) (o0 : Nat) (K0 : rK) (a1 : Int64) : Met l y_Real_magnitude (.code y_Real_magnitude b_Real_magnitude 3 (some .long) :: BIG) ({ frames := 0, cells := 0, slots := 0, locals := 0 } : Room) (va_Pc [.ref o0, .long a1] (pre1 o0 K0)) (pQ (.long (F_Real_magnitude K0 a1))) 0 0 (fun _ => False) := by
  refine pOpen_l rfl (Nat.le_of_ble_eq_true rfl) ?_
  intro p e s m args below meth c Q ls hx hb hml hown hts hT hp hl hret
  obtain ⟨hNB, hRe_o0⟩ := hp
  have hown : s.vm.findClass R_Real = some m.cls := hown
  have hl : lv_has ls 3 [(0, .ref o0), (1, .long a1)] := hl
  obtain ⟨r, h⟩ : ∃ r, F_Real_magnitude K0 a1 = r := ⟨_, rfl⟩
  rw [h] at hret
  have h : (a1 &&& (K0.2.2.2.1 - (1 : Int64))) = r := h
  refine lv_lload_n hx hb d_Real_magnitude_0 rfl (lv_at hl 1 rfl) ?_
  refine lv_aload_n hx hb d_Real_magnitude_1 rfl (lv_at hl 0 rfl) ?_
  refine vk_getf hx hb (hRe_o0.2.2.2.2.1) va_S.rf hown (hT _ m_6) (fun _ h9 => h9) d_Real_magnitude_2 ?_
  refine lv_lconst hx hb d_Real_magnitude_5 lc_1 ?_
  refine lv_lsub hx hb d_Real_magnitude_6 ?_
  refine lv_land hx hb d_Real_magnitude_7 ?_
  exact hret 8 ls _ h d_Real_magnitude_8
-- Real_isNan
theorem d_Real_isNan_0 : decode b_Real_isNan 0 = .ok (.aload_n 0, 1) := by decide +kernel
theorem d_Real_isNan_1 : decode b_Real_isNan 1 = .ok (.lload_n 1, 1) := by decide +kernel
theorem d_Real_isNan_2 : decode b_Real_isNan 2 = .ok (.invokevirtual 48, 3) := by decide +kernel
theorem d_Real_isNan_5 : decode b_Real_isNan 5 = .ok (.aload_n 0, 1) := by decide +kernel
theorem d_Real_isNan_6 : decode b_Real_isNan 6 = .ok (.getfield 45, 3) := by decide +kernel
theorem d_Real_isNan_9 : decode b_Real_isNan 9 = .ok (.lcmp, 1) := by decide +kernel
theorem d_Real_isNan_10 : decode b_Real_isNan 10 = .ok (.ifCond .le 7, 3) := by decide +kernel
theorem d_Real_isNan_13 : decode b_Real_isNan 13 = .ok (.iconst 1, 1) := by decide +kernel
theorem d_Real_isNan_14 : decode b_Real_isNan 14 = .ok (.goto 4, 3) := by decide +kernel
theorem d_Real_isNan_17 : decode b_Real_isNan 17 = .ok (.iconst 0, 1) := by decide +kernel
theorem d_Real_isNan_18 : decode b_Real_isNan 18 = .ok (.ireturn, 1) := by decide +kernel
def F_Real_isNan (K0 : rK) (a1 : Int64) : Int32 := lt_ (if (F_Real_magnitude K0 a1) ≤ K0.2.2.2.2 then (0 : Int32) else (1 : Int32)) fun x1 => x1
set_option maxHeartbeats 4000000 in
set_option maxRecDepth 100000 in
theorem c_Real_isNan (l : Launch) (o0 : Nat) (K0 : rK) (a1 : Int64) : Met l y_Real_isNan (.code y_Real_isNan b_Real_isNan 3 (some .boolean) :: BIG) ({ frames := 1, cells := 0, slots := 0, locals := 22 } : Room) (va_Pc [.ref o0, .long a1] (pre1 o0 K0)) (pQ (.int (F_Real_isNan K0 a1))) 0 0 (fun _ => False) := by
  refine pOpen_z rfl (Nat.le_of_ble_eq_true rfl) ?_
  intro p e s m args below meth c Q ls hx hb hml hown hts hT hp hl hret
  obtain ⟨hNB, hRe_o0⟩ := hp
  have hown : s.vm.findClass R_Real = some m.cls := hown
  have hl : lv_has ls 3 [(0, .ref o0), (1, .long a1)] := hl
  obtain ⟨r, h⟩ : ∃ r, F_Real_isNan K0 a1 = r := ⟨_, rfl⟩
  rw [h] at hret
  have h : (lt_ (if (F_Real_magnitude K0 a1) ≤ K0.2.2.2.2 then (0 : Int32) else (1 : Int32)) fun x1 => x1) = r := h
  refine lv_aload_n hx hb d_Real_isNan_0 rfl (lv_at hl 0 rfl) ?_
  refine lv_lload_n hx hb d_Real_isNan_1 rfl (lv_at hl 1 rfl) ?_
  refine q_V (As := [.long a1]) (rest := []) (n := 1) hx hb hml hown hts (c_Real_magnitude l o0 K0 a1) rfl rfl m_7 m_8 m_9 m_10 m_11 (by decide +kernel) ⟨Nat.le_of_ble_eq_true rfl, Nat.le_of_ble_eq_true rfl⟩ (rAt_rc hRe_o0) (p1_bl) (fun U hU hW => p1_mv hU hW hNB hRe_o0) rfl hl.1 rfl (Nat.le_of_ble_eq_true rfl) d_Real_isNan_2 ⟨Nat.zero_le _, Nat.zero_le _⟩ ?_
  refine lv_aload_n hx hb d_Real_isNan_5 rfl (lv_at hl 0 rfl) ?_
  refine vk_getf hx hb (hRe_o0.2.2.2.2.2) va_S.rf hown (hT _ m_4) (fun _ h9 => h9) d_Real_isNan_6 ?_
  refine W.lcmp hx hb d_Real_isNan_9 ?_
  obtain ⟨x1, e_x1, h⟩ := lt_o h
  have hJ18 : ∀ (x1' : Int32) (ls : Array Slot), x1 = x1' → lv_has ls 3 [] → W p l e ({ frames := 1, cells := 0, slots := 0, locals := 22 } : Room) s m args below meth c s.heap [] 0 0 Q (F0 m 18 ls [.int x1']) := by
    intro x1' ls q_x1 hl
    subst q_x1
    exact hret 18 ls _ h d_Real_isNan_18 (nb_1 ((by rw [e_x1]; exact ite01 (Or.inl rfl) (Or.inr rfl))))
  refine lv_if_le (tgt := 17) hx hb d_Real_isNan_10 rfl (fun hc => ?_) (fun hc => ?_)
  · have hc := (lg_cmp_le _ _).mp hc
    have e_x1 := e_x1.trans (if_pos hc)
    refine lv_iconst hx hb d_Real_isNan_17 ic_0 ?_
    exact hJ18 _ ls e_x1 (lv_sub hl [] rfl)
  · have hc := mt (lg_cmp_le _ _).mpr hc
    have e_x1 := e_x1.trans (if_neg hc)
    refine lv_iconst hx hb d_Real_isNan_13 ic_1 ?_
    refine lv_goto (tgt := 18) hx hb d_Real_isNan_14 rfl ?_
    exact hJ18 _ ls e_x1 (lv_sub hl [] rfl)
-- Real_isInfinite
theorem d_Real_isInfinite_0 : decode b_Real_isInfinite 0 = .ok (.aload_n 0, 1) := by decide +kernel
theorem d_Real_isInfinite_1 : decode b_Real_isInfinite 1 = .ok (.lload_n 1, 1) := by decide +kernel
theorem d_Real_isInfinite_2 : decode b_Real_isInfinite 2 = .ok (.invokevirtual 48, 3) := by decide +kernel
theorem d_Real_isInfinite_5 : decode b_Real_isInfinite 5 = .ok (.aload_n 0, 1) := by decide +kernel
theorem d_Real_isInfinite_6 : decode b_Real_isInfinite 6 = .ok (.getfield 45, 3) := by decide +kernel
theorem d_Real_isInfinite_9 : decode b_Real_isInfinite 9 = .ok (.lcmp, 1) := by decide +kernel
theorem d_Real_isInfinite_10 : decode b_Real_isInfinite 10 = .ok (.ifCond .ne 7, 3) := by decide +kernel
theorem d_Real_isInfinite_13 : decode b_Real_isInfinite 13 = .ok (.iconst 1, 1) := by decide +kernel
theorem d_Real_isInfinite_14 : decode b_Real_isInfinite 14 = .ok (.goto 4, 3) := by decide +kernel
theorem d_Real_isInfinite_17 : decode b_Real_isInfinite 17 = .ok (.iconst 0, 1) := by decide +kernel
theorem d_Real_isInfinite_18 : decode b_Real_isInfinite 18 = .ok (.ireturn, 1) := by decide +kernel
def F_Real_isInfinite (K0 : rK) (a1 : Int64) : Int32 := lt_ (if ¬ (F_Real_magnitude K0 a1) = K0.2.2.2.2 then (0 : Int32) else (1 : Int32)) fun x1 => x1
set_option maxHeartbeats 4000000 in
set_option maxRecDepth 100000 in
theorem c_Real_isInfinite (l : Launch) (o0 : Nat) (K0 : rK) (a1 : Int64) : Met l y_Real_isInfinite (.code y_Real_isInfinite b_Real_isInfinite 3 (some .boolean) :: BIG) ({ frames := 1, cells := 0, slots := 0, locals := 22 } : Room) (va_Pc [.ref o0, .long a1] (pre1 o0 K0)) (pQ (.int (F_Real_isInfinite K0 a1))) 0 0 (fun _ => False) := by
  refine pOpen_z rfl (Nat.le_of_ble_eq_true rfl) ?_
  intro p e s m args below meth c Q ls hx hb hml hown hts hT hp hl hret
  obtain ⟨hNB, hRe_o0⟩ := hp
  have hown : s.vm.findClass R_Real = some m.cls := hown
  have hl : lv_has ls 3 [(0, .ref o0), (1, .long a1)] := hl
  obtain ⟨r, h⟩ : ∃ r, F_Real_isInfinite K0 a1 = r := ⟨_, rfl⟩
  rw [h] at hret
  have h : (lt_ (if ¬ (F_Real_magnitude K0 a1) = K0.2.2.2.2 then (0 : Int32) else (1 : Int32)) fun x1 => x1) = r := h
  refine lv_aload_n hx hb d_Real_isInfinite_0 rfl (lv_at hl 0 rfl) ?_
  refine lv_lload_n hx hb d_Real_isInfinite_1 rfl (lv_at hl 1 rfl) ?_
  refine q_V (As := [.long a1]) (rest := []) (n := 1) hx hb hml hown hts (c_Real_magnitude l o0 K0 a1) rfl rfl m_7 m_8 m_9 m_10 m_11 (by decide +kernel) ⟨Nat.le_of_ble_eq_true rfl, Nat.le_of_ble_eq_true rfl⟩ (rAt_rc hRe_o0) (p1_bl) (fun U hU hW => p1_mv hU hW hNB hRe_o0) rfl hl.1 rfl (Nat.le_of_ble_eq_true rfl) d_Real_isInfinite_2 ⟨Nat.zero_le _, Nat.zero_le _⟩ ?_
  refine lv_aload_n hx hb d_Real_isInfinite_5 rfl (lv_at hl 0 rfl) ?_
  refine vk_getf hx hb (hRe_o0.2.2.2.2.2) va_S.rf hown (hT _ m_4) (fun _ h9 => h9) d_Real_isInfinite_6 ?_
  refine W.lcmp hx hb d_Real_isInfinite_9 ?_
  obtain ⟨x1, e_x1, h⟩ := lt_o h
  have hJ18 : ∀ (x1' : Int32) (ls : Array Slot), x1 = x1' → lv_has ls 3 [] → W p l e ({ frames := 1, cells := 0, slots := 0, locals := 22 } : Room) s m args below meth c s.heap [] 0 0 Q (F0 m 18 ls [.int x1']) := by
    intro x1' ls q_x1 hl
    subst q_x1
    exact hret 18 ls _ h d_Real_isInfinite_18 (nb_1 ((by rw [e_x1]; exact ite01 (Or.inl rfl) (Or.inr rfl))))
  refine lv_if_ne (tgt := 17) hx hb d_Real_isInfinite_10 rfl (fun hc => ?_) (fun hc => ?_)
  · have hc := mt (lg_cmp_eq _ _).mpr hc
    have e_x1 := e_x1.trans (if_pos hc)
    refine lv_iconst hx hb d_Real_isInfinite_17 ic_0 ?_
    exact hJ18 _ ls e_x1 (lv_sub hl [] rfl)
  · have hc := not_not_intro ((lg_cmp_eq _ _).mp hc)
    have e_x1 := e_x1.trans (if_neg hc)
    refine lv_iconst hx hb d_Real_isInfinite_13 ic_1 ?_
    refine lv_goto (tgt := 18) hx hb d_Real_isInfinite_14 rfl ?_
    exact hJ18 _ ls e_x1 (lv_sub hl [] rfl)
-- Real_isZero
theorem d_Real_isZero_0 : decode b_Real_isZero 0 = .ok (.aload_n 0, 1) := by decide +kernel
theorem d_Real_isZero_1 : decode b_Real_isZero 1 = .ok (.lload_n 1, 1) := by decide +kernel
theorem d_Real_isZero_2 : decode b_Real_isZero 2 = .ok (.invokevirtual 48, 3) := by decide +kernel
theorem d_Real_isZero_5 : decode b_Real_isZero 5 = .ok (.lconst 0, 1) := by decide +kernel
theorem d_Real_isZero_6 : decode b_Real_isZero 6 = .ok (.lcmp, 1) := by decide +kernel
theorem d_Real_isZero_7 : decode b_Real_isZero 7 = .ok (.ifCond .ne 7, 3) := by decide +kernel
theorem d_Real_isZero_10 : decode b_Real_isZero 10 = .ok (.iconst 1, 1) := by decide +kernel
theorem d_Real_isZero_11 : decode b_Real_isZero 11 = .ok (.goto 4, 3) := by decide +kernel
theorem d_Real_isZero_14 : decode b_Real_isZero 14 = .ok (.iconst 0, 1) := by decide +kernel
theorem d_Real_isZero_15 : decode b_Real_isZero 15 = .ok (.ireturn, 1) := by decide +kernel
def F_Real_isZero (K0 : rK) (a1 : Int64) : Int32 := lt_ (if ¬ (F_Real_magnitude K0 a1) = (0 : Int64) then (0 : Int32) else (1 : Int32)) fun x1 => x1
set_option maxHeartbeats 4000000 in
set_option maxRecDepth 100000 in
theorem c_Real_isZero (l : Launch) (o0 : Nat) (K0 : rK) (a1 : Int64) : Met l y_Real_isZero (.code y_Real_isZero b_Real_isZero 3 (some .boolean) :: BIG) ({ frames := 1, cells := 0, slots := 0, locals := 22 } : Room) (va_Pc [.ref o0, .long a1] (pre1 o0 K0)) (pQ (.int (F_Real_isZero K0 a1))) 0 0 (fun _ => False) := by
  refine pOpen_z rfl (Nat.le_of_ble_eq_true rfl) ?_
  intro p e s m args below meth c Q ls hx hb hml hown hts hT hp hl hret
  obtain ⟨hNB, hRe_o0⟩ := hp
  have hown : s.vm.findClass R_Real = some m.cls := hown
  have hl : lv_has ls 3 [(0, .ref o0), (1, .long a1)] := hl
  obtain ⟨r, h⟩ : ∃ r, F_Real_isZero K0 a1 = r := ⟨_, rfl⟩
  rw [h] at hret
  have h : (lt_ (if ¬ (F_Real_magnitude K0 a1) = (0 : Int64) then (0 : Int32) else (1 : Int32)) fun x1 => x1) = r := h
  refine lv_aload_n hx hb d_Real_isZero_0 rfl (lv_at hl 0 rfl) ?_
  refine lv_lload_n hx hb d_Real_isZero_1 rfl (lv_at hl 1 rfl) ?_
  refine q_V (As := [.long a1]) (rest := []) (n := 1) hx hb hml hown hts (c_Real_magnitude l o0 K0 a1) rfl rfl m_7 m_8 m_9 m_10 m_11 (by decide +kernel) ⟨Nat.le_of_ble_eq_true rfl, Nat.le_of_ble_eq_true rfl⟩ (rAt_rc hRe_o0) (p1_bl) (fun U hU hW => p1_mv hU hW hNB hRe_o0) rfl hl.1 rfl (Nat.le_of_ble_eq_true rfl) d_Real_isZero_2 ⟨Nat.zero_le _, Nat.zero_le _⟩ ?_
  refine lv_lconst hx hb d_Real_isZero_5 lc_0 ?_
  refine W.lcmp hx hb d_Real_isZero_6 ?_
  obtain ⟨x1, e_x1, h⟩ := lt_o h
  have hJ15 : ∀ (x1' : Int32) (ls : Array Slot), x1 = x1' → lv_has ls 3 [] → W p l e ({ frames := 1, cells := 0, slots := 0, locals := 22 } : Room) s m args below meth c s.heap [] 0 0 Q (F0 m 15 ls [.int x1']) := by
    intro x1' ls q_x1 hl
    subst q_x1
    exact hret 15 ls _ h d_Real_isZero_15 (nb_1 ((by rw [e_x1]; exact ite01 (Or.inl rfl) (Or.inr rfl))))
  refine lv_if_ne (tgt := 14) hx hb d_Real_isZero_7 rfl (fun hc => ?_) (fun hc => ?_)
  · have hc := mt (lg_cmp_eq _ _).mpr hc
    have e_x1 := e_x1.trans (if_pos hc)
    refine lv_iconst hx hb d_Real_isZero_14 ic_0 ?_
    exact hJ15 _ ls e_x1 (lv_sub hl [] rfl)
  · have hc := not_not_intro ((lg_cmp_eq _ _).mp hc)
    have e_x1 := e_x1.trans (if_neg hc)
    refine lv_iconst hx hb d_Real_isZero_10 ic_1 ?_
    refine lv_goto (tgt := 15) hx hb d_Real_isZero_11 rfl ?_
    exact hJ15 _ ls e_x1 (lv_sub hl [] rfl)
-- Real_rank
theorem d_Real_rank_0 : decode b_Real_rank 0 = .ok (.aload_n 0, 1) := by decide +kernel
theorem d_Real_rank_1 : decode b_Real_rank 1 = .ok (.lload_n 1, 1) := by decide +kernel
theorem d_Real_rank_2 : decode b_Real_rank 2 = .ok (.invokevirtual 52, 3) := by decide +kernel
theorem d_Real_rank_5 : decode b_Real_rank 5 = .ok (.ifCond .eq 12, 3) := by decide +kernel
theorem d_Real_rank_8 : decode b_Real_rank 8 = .ok (.aload_n 0, 1) := by decide +kernel
theorem d_Real_rank_9 : decode b_Real_rank 9 = .ok (.lload_n 1, 1) := by decide +kernel
theorem d_Real_rank_10 : decode b_Real_rank 10 = .ok (.invokevirtual 48, 3) := by decide +kernel
theorem d_Real_rank_13 : decode b_Real_rank 13 = .ok (.lneg, 1) := by decide +kernel
theorem d_Real_rank_14 : decode b_Real_rank 14 = .ok (.goto 8, 3) := by decide +kernel
theorem d_Real_rank_17 : decode b_Real_rank 17 = .ok (.aload_n 0, 1) := by decide +kernel
theorem d_Real_rank_18 : decode b_Real_rank 18 = .ok (.lload_n 1, 1) := by decide +kernel
theorem d_Real_rank_19 : decode b_Real_rank 19 = .ok (.invokevirtual 48, 3) := by decide +kernel
theorem d_Real_rank_22 : decode b_Real_rank 22 = .ok (.lreturn, 1) := by decide +kernel
def F_Real_rank (K0 : rK) (a1 : Int64) : Int64 := lt_ (if (F_Real_isNegative K0 a1) = 0 then F_Real_magnitude K0 a1 else -(F_Real_magnitude K0 a1)) fun x1 => x1
set_option maxHeartbeats 4000000 in
set_option maxRecDepth 100000 in
theorem c_Real_rank (l : Launch) (o0 : Nat) (K0 : rK) (a1 : Int64) : Met l y_Real_rank (.code y_Real_rank b_Real_rank 3 (some .long) :: BIG) ({ frames := 1, cells := 0, slots := 0, locals := 22 } : Room) (va_Pc [.ref o0, .long a1] (pre1 o0 K0)) (pQ (.long (F_Real_rank K0 a1))) 0 0 (fun _ => False) := by
  refine pOpen_l rfl (Nat.le_of_ble_eq_true rfl) ?_
  intro p e s m args below meth c Q ls hx hb hml hown hts hT hp hl hret
  obtain ⟨hNB, hRe_o0⟩ := hp
  have hown : s.vm.findClass R_Real = some m.cls := hown
  have hl : lv_has ls 3 [(0, .ref o0), (1, .long a1)] := hl
  obtain ⟨r, h⟩ : ∃ r, F_Real_rank K0 a1 = r := ⟨_, rfl⟩
  rw [h] at hret
  have h : (lt_ (if (F_Real_isNegative K0 a1) = 0 then F_Real_magnitude K0 a1 else -(F_Real_magnitude K0 a1)) fun x1 => x1) = r := h
  refine lv_aload_n hx hb d_Real_rank_0 rfl (lv_at hl 0 rfl) ?_
  refine lv_lload_n hx hb d_Real_rank_1 rfl (lv_at hl 1 rfl) ?_
  refine q_V (As := [.long a1]) (rest := []) (n := 1) hx hb hml hown hts (c_Real_isNegative l o0 K0 a1) rfl rfl m_12 m_13 m_14 m_15 m_11 (by decide +kernel) ⟨Nat.le_of_ble_eq_true rfl, Nat.le_of_ble_eq_true rfl⟩ (rAt_rc hRe_o0) (p1_bl) (fun U hU hW => p1_mv hU hW hNB hRe_o0) rfl hl.1 rfl (Nat.le_of_ble_eq_true rfl) d_Real_rank_2 ⟨Nat.zero_le _, Nat.zero_le _⟩ ?_
  obtain ⟨x1, e_x1, h⟩ := lt_o h
  have hJ22 : ∀ (x1' : Int64) (ls : Array Slot), x1 = x1' → lv_has ls 3 [] → W p l e ({ frames := 1, cells := 0, slots := 0, locals := 22 } : Room) s m args below meth c s.heap [] 0 0 Q (F0 m 22 ls [.long x1']) := by
    intro x1' ls q_x1 hl
    subst q_x1
    exact hret 22 ls _ h d_Real_rank_22
  refine lv_if_eq (tgt := 17) hx hb d_Real_rank_5 rfl (fun hc => ?_) (fun hc => ?_)
  · have e_x1 := e_x1.trans (if_pos hc)
    refine lv_aload_n hx hb d_Real_rank_17 rfl (lv_at hl 0 rfl) ?_
    refine lv_lload_n hx hb d_Real_rank_18 rfl (lv_at hl 1 rfl) ?_
    refine q_V (As := [.long a1]) (rest := []) (n := 1) hx hb hml hown hts (c_Real_magnitude l o0 K0 a1) rfl rfl m_7 m_8 m_9 m_10 m_11 (by decide +kernel) ⟨Nat.le_of_ble_eq_true rfl, Nat.le_of_ble_eq_true rfl⟩ (rAt_rc hRe_o0) (p1_bl) (fun U hU hW => p1_mv hU hW hNB hRe_o0) rfl hl.1 rfl (Nat.le_of_ble_eq_true rfl) d_Real_rank_19 ⟨Nat.zero_le _, Nat.zero_le _⟩ ?_
    exact hJ22 _ ls e_x1 (lv_sub hl [] rfl)
  · have e_x1 := e_x1.trans (if_neg hc)
    refine lv_aload_n hx hb d_Real_rank_8 rfl (lv_at hl 0 rfl) ?_
    refine lv_lload_n hx hb d_Real_rank_9 rfl (lv_at hl 1 rfl) ?_
    refine q_V (As := [.long a1]) (rest := []) (n := 1) hx hb hml hown hts (c_Real_magnitude l o0 K0 a1) rfl rfl m_7 m_8 m_9 m_10 m_11 (by decide +kernel) ⟨Nat.le_of_ble_eq_true rfl, Nat.le_of_ble_eq_true rfl⟩ (rAt_rc hRe_o0) (p1_bl) (fun U hU hW => p1_mv hU hW hNB hRe_o0) rfl hl.1 rfl (Nat.le_of_ble_eq_true rfl) d_Real_rank_10 ⟨Nat.zero_le _, Nat.zero_le _⟩ ?_
    refine lv_lneg hx hb d_Real_rank_13 ?_
    refine lv_goto (tgt := 22) hx hb d_Real_rank_14 rfl ?_
    exact hJ22 _ ls e_x1 (lv_sub hl [] rfl)
-- Real_exponent
theorem d_Real_exponent_0 : decode b_Real_exponent 0 = .ok (.lload_n 1, 1) := by decide +kernel
theorem d_Real_exponent_1 : decode b_Real_exponent 1 = .ok (.aload_n 0, 1) := by decide +kernel
theorem d_Real_exponent_2 : decode b_Real_exponent 2 = .ok (.getfield 31, 3) := by decide +kernel
theorem d_Real_exponent_5 : decode b_Real_exponent 5 = .ok (.lushr, 1) := by decide +kernel
theorem d_Real_exponent_6 : decode b_Real_exponent 6 = .ok (.l2i, 1) := by decide +kernel
theorem d_Real_exponent_7 : decode b_Real_exponent 7 = .ok (.aload_n 0, 1) := by decide +kernel
theorem d_Real_exponent_8 : decode b_Real_exponent 8 = .ok (.getfield 35, 3) := by decide +kernel
theorem d_Real_exponent_11 : decode b_Real_exponent 11 = .ok (.iand, 1) := by decide +kernel
theorem d_Real_exponent_12 : decode b_Real_exponent 12 = .ok (.ireturn, 1) := by decide +kernel
def F_Real_exponent (K0 : rK) (a1 : Int64) : Int32 := ((((a1).toUInt64 >>> ((K0.1).toInt64.toUInt64 &&& Int64.toUInt64 63)).toInt64).toInt32) &&& K0.2.1
set_option maxHeartbeats 4000000 in
set_option maxRecDepth 100000 in
theorem c_Real_exponent (l : Launch) (o0 : Nat) (K0 : rK) (a1 : Int64) : Met l y_Real_exponent (.code y_Real_exponent b_Real_exponent 3 (some .int) :: BIG) ({ frames := 0, cells := 0, slots := 0, locals := 0 } : Room) (va_Pc [.ref o0, .long a1] (pre1 o0 K0)) (pQ (.int (F_Real_exponent K0 a1))) 0 0 (fun _ => False) := by
  refine pOpen_i rfl (Nat.le_of_ble_eq_true rfl) ?_
  intro p e s m args below meth c Q ls hx hb hml hown hts hT hp hl hret
  obtain ⟨hNB, hRe_o0⟩ := hp
  have hown : s.vm.findClass R_Real = some m.cls := hown
  have hl : lv_has ls 3 [(0, .ref o0), (1, .long a1)] := hl
  obtain ⟨r, h⟩ : ∃ r, F_Real_exponent K0 a1 = r := ⟨_, rfl⟩
  rw [h] at hret
  have h : (((((a1).toUInt64 >>> ((K0.1).toInt64.toUInt64 &&& Int64.toUInt64 63)).toInt64).toInt32) &&& K0.2.1) = r := h
  refine lv_lload_n hx hb d_Real_exponent_0 rfl (lv_at hl 1 rfl) ?_
  refine lv_aload_n hx hb d_Real_exponent_1 rfl (lv_at hl 0 rfl) ?_
  refine vk_getf hx hb (hRe_o0.2.1) va_S.rf hown (hT _ m_5) (fun _ h9 => h9) d_Real_exponent_2 ?_
  refine lv_lushr hx hb d_Real_exponent_5 rfl ?_
  refine lv_l2i hx hb d_Real_exponent_6 rfl ?_
  refine lv_aload_n hx hb d_Real_exponent_7 rfl (lv_at hl 0 rfl) ?_
  refine vk_getf hx hb (hRe_o0.2.2.1) va_S.rf hown (hT _ m_16) (fun _ h9 => h9) d_Real_exponent_8 ?_
  refine lv_iand hx hb d_Real_exponent_11 ?_
  exact hret 12 ls _ h d_Real_exponent_12
-- Real_fraction
theorem d_Real_fraction_0 : decode b_Real_fraction 0 = .ok (.lload_n 1, 1) := by decide +kernel
theorem d_Real_fraction_1 : decode b_Real_fraction 1 = .ok (.lconst 1, 1) := by decide +kernel
theorem d_Real_fraction_2 : decode b_Real_fraction 2 = .ok (.aload_n 0, 1) := by decide +kernel
theorem d_Real_fraction_3 : decode b_Real_fraction 3 = .ok (.getfield 31, 3) := by decide +kernel
theorem d_Real_fraction_6 : decode b_Real_fraction 6 = .ok (.lshl, 1) := by decide +kernel
theorem d_Real_fraction_7 : decode b_Real_fraction 7 = .ok (.lconst 1, 1) := by decide +kernel
theorem d_Real_fraction_8 : decode b_Real_fraction 8 = .ok (.lsub, 1) := by decide +kernel
theorem d_Real_fraction_9 : decode b_Real_fraction 9 = .ok (.land, 1) := by decide +kernel
theorem d_Real_fraction_10 : decode b_Real_fraction 10 = .ok (.lreturn, 1) := by decide +kernel
def F_Real_fraction (K0 : rK) (a1 : Int64) : Int64 := a1 &&& (((1 : Int64) <<< ((K0.1).toInt64 &&& 63)) - (1 : Int64))
set_option maxHeartbeats 4000000 in
set_option maxRecDepth 100000 in
theorem c_Real_fraction (l : Launch) (o0 : Nat) (K0 : rK) (a1 : Int64) : Met l y_Real_fraction (.code y_Real_fraction b_Real_fraction 3 (some .long) :: BIG) ({ frames := 0, cells := 0, slots := 0, locals := 0 } : Room) (va_Pc [.ref o0, .long a1] (pre1 o0 K0)) (pQ (.long (F_Real_fraction K0 a1))) 0 0 (fun _ => False) := by
  refine pOpen_l rfl (Nat.le_of_ble_eq_true rfl) ?_
  intro p e s m args below meth c Q ls hx hb hml hown hts hT hp hl hret
  obtain ⟨hNB, hRe_o0⟩ := hp
  have hown : s.vm.findClass R_Real = some m.cls := hown
  have hl : lv_has ls 3 [(0, .ref o0), (1, .long a1)] := hl
  obtain ⟨r, h⟩ : ∃ r, F_Real_fraction K0 a1 = r := ⟨_, rfl⟩
  rw [h] at hret
  have h : (a1 &&& (((1 : Int64) <<< ((K0.1).toInt64 &&& 63)) - (1 : Int64))) = r := h
  refine lv_lload_n hx hb d_Real_fraction_0 rfl (lv_at hl 1 rfl) ?_
  refine lv_lconst hx hb d_Real_fraction_1 lc_1 ?_
  refine lv_aload_n hx hb d_Real_fraction_2 rfl (lv_at hl 0 rfl) ?_
  refine vk_getf hx hb (hRe_o0.2.1) va_S.rf hown (hT _ m_5) (fun _ h9 => h9) d_Real_fraction_3 ?_
  refine lv_lshl hx hb d_Real_fraction_6 rfl ?_
  refine lv_lconst hx hb d_Real_fraction_7 lc_1 ?_
  refine lv_lsub hx hb d_Real_fraction_8 ?_
  refine lv_land hx hb d_Real_fraction_9 ?_
  exact hret 10 ls _ h d_Real_fraction_10
-- Real_significand
theorem d_Real_significand_0 : decode b_Real_significand 0 = .ok (.aload_n 0, 1) := by decide +kernel
theorem d_Real_significand_1 : decode b_Real_significand 1 = .ok (.lload_n 1, 1) := by decide +kernel
theorem d_Real_significand_2 : decode b_Real_significand 2 = .ok (.invokevirtual 56, 3) := by decide +kernel
theorem d_Real_significand_5 : decode b_Real_significand 5 = .ok (.ifCond .ne 11, 3) := by decide +kernel
theorem d_Real_significand_8 : decode b_Real_significand 8 = .ok (.aload_n 0, 1) := by decide +kernel
theorem d_Real_significand_9 : decode b_Real_significand 9 = .ok (.lload_n 1, 1) := by decide +kernel
theorem d_Real_significand_10 : decode b_Real_significand 10 = .ok (.invokevirtual 60, 3) := by decide +kernel
theorem d_Real_significand_13 : decode b_Real_significand 13 = .ok (.goto 15, 3) := by decide +kernel
theorem d_Real_significand_16 : decode b_Real_significand 16 = .ok (.aload_n 0, 1) := by decide +kernel
theorem d_Real_significand_17 : decode b_Real_significand 17 = .ok (.lload_n 1, 1) := by decide +kernel
theorem d_Real_significand_18 : decode b_Real_significand 18 = .ok (.invokevirtual 60, 3) := by decide +kernel
theorem d_Real_significand_21 : decode b_Real_significand 21 = .ok (.lconst 1, 1) := by decide +kernel
theorem d_Real_significand_22 : decode b_Real_significand 22 = .ok (.aload_n 0, 1) := by decide +kernel
theorem d_Real_significand_23 : decode b_Real_significand 23 = .ok (.getfield 31, 3) := by decide +kernel
theorem d_Real_significand_26 : decode b_Real_significand 26 = .ok (.lshl, 1) := by decide +kernel
theorem d_Real_significand_27 : decode b_Real_significand 27 = .ok (.lor, 1) := by decide +kernel
theorem d_Real_significand_28 : decode b_Real_significand 28 = .ok (.lreturn, 1) := by decide +kernel
def F_Real_significand (K0 : rK) (a1 : Int64) : Int64 := lt_ (if ¬ (F_Real_exponent K0 a1) = 0 then (F_Real_fraction K0 a1) ||| ((1 : Int64) <<< ((K0.1).toInt64 &&& 63)) else F_Real_fraction K0 a1) fun x1 => x1
set_option maxHeartbeats 4000000 in
set_option maxRecDepth 100000 in
theorem c_Real_significand (l : Launch) (o0 : Nat) (K0 : rK) (a1 : Int64) : Met l y_Real_significand (.code y_Real_significand b_Real_significand 3 (some .long) :: BIG) ({ frames := 1, cells := 0, slots := 0, locals := 22 } : Room) (va_Pc [.ref o0, .long a1] (pre1 o0 K0)) (pQ (.long (F_Real_significand K0 a1))) 0 0 (fun _ => False) := by
  refine pOpen_l rfl (Nat.le_of_ble_eq_true rfl) ?_
  intro p e s m args below meth c Q ls hx hb hml hown hts hT hp hl hret
  obtain ⟨hNB, hRe_o0⟩ := hp
  have hown : s.vm.findClass R_Real = some m.cls := hown
  have hl : lv_has ls 3 [(0, .ref o0), (1, .long a1)] := hl
  obtain ⟨r, h⟩ : ∃ r, F_Real_significand K0 a1 = r := ⟨_, rfl⟩
  rw [h] at hret
  have h : (lt_ (if ¬ (F_Real_exponent K0 a1) = 0 then (F_Real_fraction K0 a1) ||| ((1 : Int64) <<< ((K0.1).toInt64 &&& 63)) else F_Real_fraction K0 a1) fun x1 => x1) = r := h
  refine lv_aload_n hx hb d_Real_significand_0 rfl (lv_at hl 0 rfl) ?_
  refine lv_lload_n hx hb d_Real_significand_1 rfl (lv_at hl 1 rfl) ?_
  refine q_V (As := [.long a1]) (rest := []) (n := 1) hx hb hml hown hts (c_Real_exponent l o0 K0 a1) rfl rfl m_17 m_18 m_19 m_20 m_11 (by decide +kernel) ⟨Nat.le_of_ble_eq_true rfl, Nat.le_of_ble_eq_true rfl⟩ (rAt_rc hRe_o0) (p1_bl) (fun U hU hW => p1_mv hU hW hNB hRe_o0) rfl hl.1 rfl (Nat.le_of_ble_eq_true rfl) d_Real_significand_2 ⟨Nat.zero_le _, Nat.zero_le _⟩ ?_
  obtain ⟨x1, e_x1, h⟩ := lt_o h
  have hJ28 : ∀ (x1' : Int64) (ls : Array Slot), x1 = x1' → lv_has ls 3 [] → W p l e ({ frames := 1, cells := 0, slots := 0, locals := 22 } : Room) s m args below meth c s.heap [] 0 0 Q (F0 m 28 ls [.long x1']) := by
    intro x1' ls q_x1 hl
    subst q_x1
    exact hret 28 ls _ h d_Real_significand_28
  refine lv_if_ne (tgt := 16) hx hb d_Real_significand_5 rfl (fun hc => ?_) (fun hc => ?_)
  · have e_x1 := e_x1.trans (if_pos hc)
    refine lv_aload_n hx hb d_Real_significand_16 rfl (lv_at hl 0 rfl) ?_
    refine lv_lload_n hx hb d_Real_significand_17 rfl (lv_at hl 1 rfl) ?_
    refine q_V (As := [.long a1]) (rest := []) (n := 1) hx hb hml hown hts (c_Real_fraction l o0 K0 a1) rfl rfl m_21 m_22 m_23 m_24 m_11 (by decide +kernel) ⟨Nat.le_of_ble_eq_true rfl, Nat.le_of_ble_eq_true rfl⟩ (rAt_rc hRe_o0) (p1_bl) (fun U hU hW => p1_mv hU hW hNB hRe_o0) rfl hl.1 rfl (Nat.le_of_ble_eq_true rfl) d_Real_significand_18 ⟨Nat.zero_le _, Nat.zero_le _⟩ ?_
    refine lv_lconst hx hb d_Real_significand_21 lc_1 ?_
    refine lv_aload_n hx hb d_Real_significand_22 rfl (lv_at hl 0 rfl) ?_
    refine vk_getf hx hb (hRe_o0.2.1) va_S.rf hown (hT _ m_5) (fun _ h9 => h9) d_Real_significand_23 ?_
    refine lv_lshl hx hb d_Real_significand_26 rfl ?_
    refine lv_lor hx hb d_Real_significand_27 ?_
    exact hJ28 _ ls e_x1 (lv_sub hl [] rfl)
  · have hc := not_not_intro hc
    have e_x1 := e_x1.trans (if_neg hc)
    refine lv_aload_n hx hb d_Real_significand_8 rfl (lv_at hl 0 rfl) ?_
    refine lv_lload_n hx hb d_Real_significand_9 rfl (lv_at hl 1 rfl) ?_
    refine q_V (As := [.long a1]) (rest := []) (n := 1) hx hb hml hown hts (c_Real_fraction l o0 K0 a1) rfl rfl m_21 m_22 m_23 m_24 m_11 (by decide +kernel) ⟨Nat.le_of_ble_eq_true rfl, Nat.le_of_ble_eq_true rfl⟩ (rAt_rc hRe_o0) (p1_bl) (fun U hU hW => p1_mv hU hW hNB hRe_o0) rfl hl.1 rfl (Nat.le_of_ble_eq_true rfl) d_Real_significand_10 ⟨Nat.zero_le _, Nat.zero_le _⟩ ?_
    refine lv_goto (tgt := 28) hx hb d_Real_significand_13 rfl ?_
    exact hJ28 _ ls e_x1 (lv_sub hl [] rfl)
-- Real_power
theorem d_Real_power_0 : decode b_Real_power 0 = .ok (.aload_n 0, 1) := by decide +kernel
theorem d_Real_power_1 : decode b_Real_power 1 = .ok (.getfield 38, 3) := by decide +kernel
theorem d_Real_power_4 : decode b_Real_power 4 = .ok (.aload_n 0, 1) := by decide +kernel
theorem d_Real_power_5 : decode b_Real_power 5 = .ok (.lload_n 1, 1) := by decide +kernel
theorem d_Real_power_6 : decode b_Real_power 6 = .ok (.invokevirtual 56, 3) := by decide +kernel
theorem d_Real_power_9 : decode b_Real_power 9 = .ok (.iconst 1, 1) := by decide +kernel
theorem d_Real_power_10 : decode b_Real_power 10 = .ok (.invokestatic 63, 3) := by decide +kernel
theorem d_Real_power_13 : decode b_Real_power 13 = .ok (.iadd, 1) := by decide +kernel
theorem d_Real_power_14 : decode b_Real_power 14 = .ok (.iconst 1, 1) := by decide +kernel
theorem d_Real_power_15 : decode b_Real_power 15 = .ok (.isub, 1) := by decide +kernel
theorem d_Real_power_16 : decode b_Real_power 16 = .ok (.ireturn, 1) := by decide +kernel
def F_Real_power (K0 : rK) (a1 : Int64) : Int32 := (K0.2.2.1 + (if (F_Real_exponent K0 a1) < (1 : Int32) then (1 : Int32) else F_Real_exponent K0 a1)) - (1 : Int32)
set_option maxHeartbeats 4000000 in
set_option maxRecDepth 100000 in
theorem c_Real_power (l : Launch) (o0 : Nat) (K0 : rK) (a1 : Int64) : Met l y_Real_power (.code y_Real_power b_Real_power 3 (some .int) :: BIG) ({ frames := 1, cells := 0, slots := 0, locals := 22 } : Room) (va_Pc [.ref o0, .long a1] (pre1 o0 K0)) (pQ (.int (F_Real_power K0 a1))) 0 0 (fun _ => False) := by
  refine pOpen_i rfl (Nat.le_of_ble_eq_true rfl) ?_
  intro p e s m args below meth c Q ls hx hb hml hown hts hT hp hl hret
  obtain ⟨hNB, hRe_o0⟩ := hp
  have hown : s.vm.findClass R_Real = some m.cls := hown
  have hl : lv_has ls 3 [(0, .ref o0), (1, .long a1)] := hl
  obtain ⟨r, h⟩ : ∃ r, F_Real_power K0 a1 = r := ⟨_, rfl⟩
  rw [h] at hret
  have h : ((K0.2.2.1 + (if (F_Real_exponent K0 a1) < (1 : Int32) then (1 : Int32) else F_Real_exponent K0 a1)) - (1 : Int32)) = r := h
  refine lv_aload_n hx hb d_Real_power_0 rfl (lv_at hl 0 rfl) ?_
  refine vk_getf hx hb (hRe_o0.2.2.2.1) va_S.rf hown (hT _ m_25) (fun _ h9 => h9) d_Real_power_1 ?_
  refine lv_aload_n hx hb d_Real_power_4 rfl (lv_at hl 0 rfl) ?_
  refine lv_lload_n hx hb d_Real_power_5 rfl (lv_at hl 1 rfl) ?_
  refine q_V (As := [.long a1]) (rest := [.int K0.2.2.1]) (n := 1) hx hb hml hown hts (c_Real_exponent l o0 K0 a1) rfl rfl m_17 m_18 m_19 m_20 m_11 (by decide +kernel) ⟨Nat.le_of_ble_eq_true rfl, Nat.le_of_ble_eq_true rfl⟩ (rAt_rc hRe_o0) (p1_bl) (fun U hU hW => p1_mv hU hW hNB hRe_o0) rfl hl.1 rfl (Nat.le_of_ble_eq_true rfl) d_Real_power_6 ⟨Nat.zero_le _, Nat.zero_le _⟩ ?_
  refine lv_iconst hx hb d_Real_power_9 ic_1 ?_
  refine va_mmax hx hb (hml.trans hl.1.symm) hown (hT _ m_26) (hT _ m_27) (hT _ m_28) (hT _ m_29) (Nat.le_of_ble_eq_true rfl) (Nat.le_of_ble_eq_true rfl) (Nat.zero_le _) (Nat.zero_le _) d_Real_power_10 ?_
  refine lv_iadd hx hb d_Real_power_13 ?_
  refine lv_iconst hx hb d_Real_power_14 ic_1 ?_
  refine lv_isub hx hb d_Real_power_15 ?_
  exact hret 16 ls _ h d_Real_power_16
-- Real_isCloserBelow
theorem d_Real_isCloserBelow_0 : decode b_Real_isCloserBelow 0 = .ok (.aload_n 0, 1) := by decide +kernel
theorem d_Real_isCloserBelow_1 : decode b_Real_isCloserBelow 1 = .ok (.lload_n 1, 1) := by decide +kernel
theorem d_Real_isCloserBelow_2 : decode b_Real_isCloserBelow 2 = .ok (.invokevirtual 60, 3) := by decide +kernel
theorem d_Real_isCloserBelow_5 : decode b_Real_isCloserBelow 5 = .ok (.lconst 0, 1) := by decide +kernel
theorem d_Real_isCloserBelow_6 : decode b_Real_isCloserBelow 6 = .ok (.lcmp, 1) := by decide +kernel
theorem d_Real_isCloserBelow_7 : decode b_Real_isCloserBelow 7 = .ok (.ifCond .ne 16, 3) := by decide +kernel
theorem d_Real_isCloserBelow_10 : decode b_Real_isCloserBelow 10 = .ok (.aload_n 0, 1) := by decide +kernel
theorem d_Real_isCloserBelow_11 : decode b_Real_isCloserBelow 11 = .ok (.lload_n 1, 1) := by decide +kernel
theorem d_Real_isCloserBelow_12 : decode b_Real_isCloserBelow 12 = .ok (.invokevirtual 56, 3) := by decide +kernel
theorem d_Real_isCloserBelow_15 : decode b_Real_isCloserBelow 15 = .ok (.iconst 1, 1) := by decide +kernel
theorem d_Real_isCloserBelow_16 : decode b_Real_isCloserBelow 16 = .ok (.if_icmp .le 7, 3) := by decide +kernel
theorem d_Real_isCloserBelow_19 : decode b_Real_isCloserBelow 19 = .ok (.iconst 1, 1) := by decide +kernel
theorem d_Real_isCloserBelow_20 : decode b_Real_isCloserBelow 20 = .ok (.goto 4, 3) := by decide +kernel
theorem d_Real_isCloserBelow_23 : decode b_Real_isCloserBelow 23 = .ok (.iconst 0, 1) := by decide +kernel
theorem d_Real_isCloserBelow_24 : decode b_Real_isCloserBelow 24 = .ok (.ireturn, 1) := by decide +kernel
def F_Real_isCloserBelow (K0 : rK) (a1 : Int64) : Int32 := lt_ (if ¬ (F_Real_fraction K0 a1) = (0 : Int64) then (0 : Int32) else if (F_Real_exponent K0 a1) ≤ (1 : Int32) then (0 : Int32) else (1 : Int32)) fun x1 => x1
set_option maxHeartbeats 4000000 in
set_option maxRecDepth 100000 in
theorem c_Real_isCloserBelow (l : Launch) (o0 : Nat) (K0 : rK) (a1 : Int64) : Met l y_Real_isCloserBelow (.code y_Real_isCloserBelow b_Real_isCloserBelow 3 (some .boolean) :: BIG) ({ frames := 1, cells := 0, slots := 0, locals := 22 } : Room) (va_Pc [.ref o0, .long a1] (pre1 o0 K0)) (pQ (.int (F_Real_isCloserBelow K0 a1))) 0 0 (fun _ => False) := by
  refine pOpen_z rfl (Nat.le_of_ble_eq_true rfl) ?_
  intro p e s m args below meth c Q ls hx hb hml hown hts hT hp hl hret
  obtain ⟨hNB, hRe_o0⟩ := hp
  have hown : s.vm.findClass R_Real = some m.cls := hown
  have hl : lv_has ls 3 [(0, .ref o0), (1, .long a1)] := hl
  obtain ⟨r, h⟩ : ∃ r, F_Real_isCloserBelow K0 a1 = r := ⟨_, rfl⟩
  rw [h] at hret
  have h : (lt_ (if ¬ (F_Real_fraction K0 a1) = (0 : Int64) then (0 : Int32) else if (F_Real_exponent K0 a1) ≤ (1 : Int32) then (0 : Int32) else (1 : Int32)) fun x1 => x1) = r := h
  refine lv_aload_n hx hb d_Real_isCloserBelow_0 rfl (lv_at hl 0 rfl) ?_
  refine lv_lload_n hx hb d_Real_isCloserBelow_1 rfl (lv_at hl 1 rfl) ?_
  refine q_V (As := [.long a1]) (rest := []) (n := 1) hx hb hml hown hts (c_Real_fraction l o0 K0 a1) rfl rfl m_21 m_22 m_23 m_24 m_11 (by decide +kernel) ⟨Nat.le_of_ble_eq_true rfl, Nat.le_of_ble_eq_true rfl⟩ (rAt_rc hRe_o0) (p1_bl) (fun U hU hW => p1_mv hU hW hNB hRe_o0) rfl hl.1 rfl (Nat.le_of_ble_eq_true rfl) d_Real_isCloserBelow_2 ⟨Nat.zero_le _, Nat.zero_le _⟩ ?_
  refine lv_lconst hx hb d_Real_isCloserBelow_5 lc_0 ?_
  refine W.lcmp hx hb d_Real_isCloserBelow_6 ?_
  obtain ⟨x1, e_x1, h⟩ := lt_o h
  have hJ24 : ∀ (x1' : Int32) (ls : Array Slot), x1 = x1' → lv_has ls 3 [] → W p l e ({ frames := 1, cells := 0, slots := 0, locals := 22 } : Room) s m args below meth c s.heap [] 0 0 Q (F0 m 24 ls [.int x1']) := by
    intro x1' ls q_x1 hl
    subst q_x1
    exact hret 24 ls _ h d_Real_isCloserBelow_24 (nb_1 ((by rw [e_x1]; exact ite01 (Or.inl rfl) (ite01 (Or.inl rfl) (Or.inr rfl)))))
  refine lv_if_ne (tgt := 23) hx hb d_Real_isCloserBelow_7 rfl (fun hc => ?_) (fun hc => ?_)
  · have hc := mt (lg_cmp_eq _ _).mpr hc
    have e_x1 := e_x1.trans (if_pos hc)
    refine lv_iconst hx hb d_Real_isCloserBelow_23 ic_0 ?_
    exact hJ24 _ ls e_x1 (lv_sub hl [] rfl)
  · have hc := not_not_intro ((lg_cmp_eq _ _).mp hc)
    have e_x1 := e_x1.trans (if_neg hc)
    refine lv_aload_n hx hb d_Real_isCloserBelow_10 rfl (lv_at hl 0 rfl) ?_
    refine lv_lload_n hx hb d_Real_isCloserBelow_11 rfl (lv_at hl 1 rfl) ?_
    refine q_V (As := [.long a1]) (rest := []) (n := 1) hx hb hml hown hts (c_Real_exponent l o0 K0 a1) rfl rfl m_17 m_18 m_19 m_20 m_11 (by decide +kernel) ⟨Nat.le_of_ble_eq_true rfl, Nat.le_of_ble_eq_true rfl⟩ (rAt_rc hRe_o0) (p1_bl) (fun U hU hW => p1_mv hU hW hNB hRe_o0) rfl hl.1 rfl (Nat.le_of_ble_eq_true rfl) d_Real_isCloserBelow_12 ⟨Nat.zero_le _, Nat.zero_le _⟩ ?_
    refine lv_iconst hx hb d_Real_isCloserBelow_15 ic_1 ?_
    refine lv_icmp_le (tgt := 23) hx hb d_Real_isCloserBelow_16 rfl (fun hc => ?_) (fun hc => ?_)
    · have e_x1 := e_x1.trans (if_pos hc)
      refine lv_iconst hx hb d_Real_isCloserBelow_23 ic_0 ?_
      exact hJ24 _ ls e_x1 (lv_sub hl [] rfl)
    · have e_x1 := e_x1.trans (if_neg hc)
      refine lv_iconst hx hb d_Real_isCloserBelow_19 ic_1 ?_
      refine lv_goto (tgt := 24) hx hb d_Real_isCloserBelow_20 rfl ?_
      exact hJ24 _ ls e_x1 (lv_sub hl [] rfl)
-- Real_signed
theorem d_Real_signed_0 : decode b_Real_signed 0 = .ok (.iload_n 1, 1) := by decide +kernel
theorem d_Real_signed_1 : decode b_Real_signed 1 = .ok (.ifCond .eq 12, 3) := by decide +kernel
theorem d_Real_signed_4 : decode b_Real_signed 4 = .ok (.lload_n 2, 1) := by decide +kernel
theorem d_Real_signed_5 : decode b_Real_signed 5 = .ok (.aload_n 0, 1) := by decide +kernel
theorem d_Real_signed_6 : decode b_Real_signed 6 = .ok (.getfield 41, 3) := by decide +kernel
theorem d_Real_signed_9 : decode b_Real_signed 9 = .ok (.lor, 1) := by decide +kernel
theorem d_Real_signed_10 : decode b_Real_signed 10 = .ok (.goto 4, 3) := by decide +kernel
theorem d_Real_signed_13 : decode b_Real_signed 13 = .ok (.lload_n 2, 1) := by decide +kernel
theorem d_Real_signed_14 : decode b_Real_signed 14 = .ok (.lreturn, 1) := by decide +kernel
def F_Real_signed (K0 : rK) (a1 : Int32) (a2 : Int64) : Int64 := lt_ (if a1 = 0 then a2 else a2 ||| K0.2.2.2.1) fun x1 => x1
set_option maxHeartbeats 4000000 in
set_option maxRecDepth 100000 in
theorem c_Real_signed (l : Launch) (o0 : Nat) (K0 : rK) (a1 : Int32) (a2 : Int64) : Met l y_Real_signed (.code y_Real_signed b_Real_signed 4 (some .long) :: BIG) ({ frames := 0, cells := 0, slots := 0, locals := 0 } : Room) (va_Pc [.ref o0, .int a1, .long a2] (pre1 o0 K0)) (pQ (.long (F_Real_signed K0 a1 a2))) 0 0 (fun _ => False) := by
  refine pOpen_l rfl (Nat.le_of_ble_eq_true rfl) ?_
  intro p e s m args below meth c Q ls hx hb hml hown hts hT hp hl hret
  obtain ⟨hNB, hRe_o0⟩ := hp
  have hown : s.vm.findClass R_Real = some m.cls := hown
  have hl : lv_has ls 4 [(0, .ref o0), (1, .int a1), (2, .long a2)] := hl
  obtain ⟨r, h⟩ : ∃ r, F_Real_signed K0 a1 a2 = r := ⟨_, rfl⟩
  rw [h] at hret
  have h : (lt_ (if a1 = 0 then a2 else a2 ||| K0.2.2.2.1) fun x1 => x1) = r := h
  refine lv_iload_n hx hb d_Real_signed_0 rfl (lv_at hl 1 rfl) ?_
  obtain ⟨x1, e_x1, h⟩ := lt_o h
  have hJ14 : ∀ (x1' : Int64) (ls : Array Slot), x1 = x1' → lv_has ls 4 [] → W p l e ({ frames := 0, cells := 0, slots := 0, locals := 0 } : Room) s m args below meth c s.heap [] 0 0 Q (F0 m 14 ls [.long x1']) := by
    intro x1' ls q_x1 hl
    subst q_x1
    exact hret 14 ls _ h d_Real_signed_14
  refine lv_if_eq (tgt := 13) hx hb d_Real_signed_1 rfl (fun hc => ?_) (fun hc => ?_)
  · have e_x1 := e_x1.trans (if_pos hc)
    refine lv_lload_n hx hb d_Real_signed_13 rfl (lv_at hl 2 rfl) ?_
    exact hJ14 _ ls e_x1 (lv_sub hl [] rfl)
  · have e_x1 := e_x1.trans (if_neg hc)
    refine lv_lload_n hx hb d_Real_signed_4 rfl (lv_at hl 2 rfl) ?_
    refine lv_aload_n hx hb d_Real_signed_5 rfl (lv_at hl 0 rfl) ?_
    refine vk_getf hx hb (hRe_o0.2.2.2.2.1) va_S.rf hown (hT _ m_6) (fun _ h9 => h9) d_Real_signed_6 ?_
    refine lv_lor hx hb d_Real_signed_9 ?_
    refine lv_goto (tgt := 14) hx hb d_Real_signed_10 rfl ?_
    exact hJ14 _ ls e_x1 (lv_sub hl [] rfl)
-- Real_negate
theorem d_Real_negate_0 : decode b_Real_negate 0 = .ok (.aload_n 0, 1) := by decide +kernel
theorem d_Real_negate_1 : decode b_Real_negate 1 = .ok (.lload_n 1, 1) := by decide +kernel
theorem d_Real_negate_2 : decode b_Real_negate 2 = .ok (.invokevirtual 69, 3) := by decide +kernel
theorem d_Real_negate_5 : decode b_Real_negate 5 = .ok (.ifCond .eq 10, 3) := by decide +kernel
theorem d_Real_negate_8 : decode b_Real_negate 8 = .ok (.aload_n 0, 1) := by decide +kernel
theorem d_Real_negate_9 : decode b_Real_negate 9 = .ok (.invokevirtual 72, 3) := by decide +kernel
theorem d_Real_negate_12 : decode b_Real_negate 12 = .ok (.goto 25, 3) := by decide +kernel
theorem d_Real_negate_15 : decode b_Real_negate 15 = .ok (.aload_n 0, 1) := by decide +kernel
theorem d_Real_negate_16 : decode b_Real_negate 16 = .ok (.aload_n 0, 1) := by decide +kernel
theorem d_Real_negate_17 : decode b_Real_negate 17 = .ok (.lload_n 1, 1) := by decide +kernel
theorem d_Real_negate_18 : decode b_Real_negate 18 = .ok (.invokevirtual 52, 3) := by decide +kernel
theorem d_Real_negate_21 : decode b_Real_negate 21 = .ok (.ifCond .ne 7, 3) := by decide +kernel
theorem d_Real_negate_24 : decode b_Real_negate 24 = .ok (.iconst 1, 1) := by decide +kernel
theorem d_Real_negate_25 : decode b_Real_negate 25 = .ok (.goto 4, 3) := by decide +kernel
theorem d_Real_negate_28 : decode b_Real_negate 28 = .ok (.iconst 0, 1) := by decide +kernel
theorem d_Real_negate_29 : decode b_Real_negate 29 = .ok (.aload_n 0, 1) := by decide +kernel
theorem d_Real_negate_30 : decode b_Real_negate 30 = .ok (.lload_n 1, 1) := by decide +kernel
theorem d_Real_negate_31 : decode b_Real_negate 31 = .ok (.invokevirtual 48, 3) := by decide +kernel
theorem d_Real_negate_34 : decode b_Real_negate 34 = .ok (.invokevirtual 76, 3) := by decide +kernel
theorem d_Real_negate_37 : decode b_Real_negate 37 = .ok (.lreturn, 1) := by decide +kernel
def F_Real_negate (K0 : rK) (a1 : Int64) : Int64 := lt_ (if (F_Real_isNan K0 a1) = 0 then if ¬ (F_Real_isNegative K0 a1) = 0 then F_Real_signed K0 (0 : Int32) (F_Real_magnitude K0 a1) else F_Real_signed K0 (1 : Int32) (F_Real_magnitude K0 a1) else F_Real_nan K0) fun x1 => x1
set_option maxHeartbeats 4000000 in
set_option maxRecDepth 100000 in
theorem c_Real_negate (l : Launch) (o0 : Nat) (K0 : rK) (a1 : Int64) : Met l y_Real_negate (.code y_Real_negate b_Real_negate 3 (some .long) :: BIG) ({ frames := 2, cells := 0, slots := 0, locals := 44 } : Room) (va_Pc [.ref o0, .long a1] (pre1 o0 K0)) (pQ (.long (F_Real_negate K0 a1))) 0 0 (fun _ => False) := by
  refine pOpen_l rfl (Nat.le_of_ble_eq_true rfl) ?_
  intro p e s m args below meth c Q ls hx hb hml hown hts hT hp hl hret
  obtain ⟨hNB, hRe_o0⟩ := hp
  have hown : s.vm.findClass R_Real = some m.cls := hown
  have hl : lv_has ls 3 [(0, .ref o0), (1, .long a1)] := hl
  obtain ⟨r, h⟩ : ∃ r, F_Real_negate K0 a1 = r := ⟨_, rfl⟩
  rw [h] at hret
  have h : (lt_ (if (F_Real_isNan K0 a1) = 0 then if ¬ (F_Real_isNegative K0 a1) = 0 then F_Real_signed K0 (0 : Int32) (F_Real_magnitude K0 a1) else F_Real_signed K0 (1 : Int32) (F_Real_magnitude K0 a1) else F_Real_nan K0) fun x1 => x1) = r := h
  refine lv_aload_n hx hb d_Real_negate_0 rfl (lv_at hl 0 rfl) ?_
  refine lv_lload_n hx hb d_Real_negate_1 rfl (lv_at hl 1 rfl) ?_
  refine q_V (As := [.long a1]) (rest := []) (n := 1) hx hb hml hown hts (c_Real_isNan l o0 K0 a1) rfl rfl m_30 m_31 m_32 m_33 m_11 (by decide +kernel) ⟨Nat.le_of_ble_eq_true rfl, Nat.le_of_ble_eq_true rfl⟩ (rAt_rc hRe_o0) (p1_bl) (fun U hU hW => p1_mv hU hW hNB hRe_o0) rfl hl.1 rfl (Nat.le_of_ble_eq_true rfl) d_Real_negate_2 ⟨Nat.zero_le _, Nat.zero_le _⟩ ?_
  obtain ⟨x1, e_x1, h⟩ := lt_o h
  have hJ37 : ∀ (x1' : Int64) (ls : Array Slot), x1 = x1' → lv_has ls 3 [] → W p l e ({ frames := 2, cells := 0, slots := 0, locals := 44 } : Room) s m args below meth c s.heap [] 0 0 Q (F0 m 37 ls [.long x1']) := by
    intro x1' ls q_x1 hl
    subst q_x1
    exact hret 37 ls _ h d_Real_negate_37
  refine lv_if_eq (tgt := 15) hx hb d_Real_negate_5 rfl (fun hc => ?_) (fun hc => ?_)
  · have e_x1 := e_x1.trans (if_pos hc)
    refine lv_aload_n hx hb d_Real_negate_15 rfl (lv_at hl 0 rfl) ?_
    refine lv_aload_n hx hb d_Real_negate_16 rfl (lv_at hl 0 rfl) ?_
    refine lv_lload_n hx hb d_Real_negate_17 rfl (lv_at hl 1 rfl) ?_
    refine q_V (As := [.long a1]) (rest := [.ref o0]) (n := 1) hx hb hml hown hts (c_Real_isNegative l o0 K0 a1) rfl rfl m_12 m_13 m_14 m_15 m_11 (by decide +kernel) ⟨Nat.le_of_ble_eq_true rfl, Nat.le_of_ble_eq_true rfl⟩ (rAt_rc hRe_o0) (p1_bl) (fun U hU hW => p1_mv hU hW hNB hRe_o0) rfl hl.1 rfl (Nat.le_of_ble_eq_true rfl) d_Real_negate_18 ⟨Nat.zero_le _, Nat.zero_le _⟩ ?_
    refine lv_if_ne (tgt := 28) hx hb d_Real_negate_21 rfl (fun hc => ?_) (fun hc => ?_)
    · have e_x1 := e_x1.trans (if_pos hc)
      refine lv_iconst hx hb d_Real_negate_28 ic_0 ?_
      refine lv_aload_n hx hb d_Real_negate_29 rfl (lv_at hl 0 rfl) ?_
      refine lv_lload_n hx hb d_Real_negate_30 rfl (lv_at hl 1 rfl) ?_
      refine q_V (As := [.long a1]) (rest := [.int (0 : Int32), .ref o0]) (n := 1) hx hb hml hown hts (c_Real_magnitude l o0 K0 a1) rfl rfl m_7 m_8 m_9 m_10 m_11 (by decide +kernel) ⟨Nat.le_of_ble_eq_true rfl, Nat.le_of_ble_eq_true rfl⟩ (rAt_rc hRe_o0) (p1_bl) (fun U hU hW => p1_mv hU hW hNB hRe_o0) rfl hl.1 rfl (Nat.le_of_ble_eq_true rfl) d_Real_negate_31 ⟨Nat.zero_le _, Nat.zero_le _⟩ ?_
      refine q_V (As := [.int (0 : Int32), .long (F_Real_magnitude K0 a1)]) (rest := []) (n := 2) hx hb hml hown hts (c_Real_signed l o0 K0 (0 : Int32) (F_Real_magnitude K0 a1)) rfl rfl m_34 m_35 m_36 m_37 m_11 (by decide +kernel) ⟨Nat.le_of_ble_eq_true rfl, Nat.le_of_ble_eq_true rfl⟩ (rAt_rc hRe_o0) (p1_bl) (fun U hU hW => p1_mv hU hW hNB hRe_o0) rfl hl.1 rfl (Nat.le_of_ble_eq_true rfl) d_Real_negate_34 ⟨Nat.zero_le _, Nat.zero_le _⟩ ?_
      exact hJ37 _ ls e_x1 (lv_sub hl [] rfl)
    · have hc := not_not_intro hc
      have e_x1 := e_x1.trans (if_neg hc)
      refine lv_iconst hx hb d_Real_negate_24 ic_1 ?_
      refine lv_goto (tgt := 29) hx hb d_Real_negate_25 rfl ?_
      refine lv_aload_n hx hb d_Real_negate_29 rfl (lv_at hl 0 rfl) ?_
      refine lv_lload_n hx hb d_Real_negate_30 rfl (lv_at hl 1 rfl) ?_
      refine q_V (As := [.long a1]) (rest := [.int (1 : Int32), .ref o0]) (n := 1) hx hb hml hown hts (c_Real_magnitude l o0 K0 a1) rfl rfl m_7 m_8 m_9 m_10 m_11 (by decide +kernel) ⟨Nat.le_of_ble_eq_true rfl, Nat.le_of_ble_eq_true rfl⟩ (rAt_rc hRe_o0) (p1_bl) (fun U hU hW => p1_mv hU hW hNB hRe_o0) rfl hl.1 rfl (Nat.le_of_ble_eq_true rfl) d_Real_negate_31 ⟨Nat.zero_le _, Nat.zero_le _⟩ ?_
      refine q_V (As := [.int (1 : Int32), .long (F_Real_magnitude K0 a1)]) (rest := []) (n := 2) hx hb hml hown hts (c_Real_signed l o0 K0 (1 : Int32) (F_Real_magnitude K0 a1)) rfl rfl m_34 m_35 m_36 m_37 m_11 (by decide +kernel) ⟨Nat.le_of_ble_eq_true rfl, Nat.le_of_ble_eq_true rfl⟩ (rAt_rc hRe_o0) (p1_bl) (fun U hU hW => p1_mv hU hW hNB hRe_o0) rfl hl.1 rfl (Nat.le_of_ble_eq_true rfl) d_Real_negate_34 ⟨Nat.zero_le _, Nat.zero_le _⟩ ?_
      exact hJ37 _ ls e_x1 (lv_sub hl [] rfl)
  · have e_x1 := e_x1.trans (if_neg hc)
    refine lv_aload_n hx hb d_Real_negate_8 rfl (lv_at hl 0 rfl) ?_
    refine q_V (As := []) (rest := []) (n := 0) hx hb hml hown hts (c_Real_nan l o0 K0) rfl rfl m_38 m_39 m_40 m_41 m_11 (by decide +kernel) ⟨Nat.le_of_ble_eq_true rfl, Nat.le_of_ble_eq_true rfl⟩ (rAt_rc hRe_o0) (p1_bl) (fun U hU hW => p1_mv hU hW hNB hRe_o0) rfl hl.1 rfl (Nat.le_of_ble_eq_true rfl) d_Real_negate_9 ⟨Nat.zero_le _, Nat.zero_le _⟩ ?_
    refine lv_goto (tgt := 37) hx hb d_Real_negate_12 rfl ?_
    exact hJ37 _ ls e_x1 (lv_sub hl [] rfl)
-- Real_infiniteSum
theorem d_Real_infiniteSum_0 : decode b_Real_infiniteSum 0 = .ok (.aload_n 0, 1) := by decide +kernel
theorem d_Real_infiniteSum_1 : decode b_Real_infiniteSum 1 = .ok (.lload_n 1, 1) := by decide +kernel
theorem d_Real_infiniteSum_2 : decode b_Real_infiniteSum 2 = .ok (.invokevirtual 80, 3) := by decide +kernel
theorem d_Real_infiniteSum_5 : decode b_Real_infiniteSum 5 = .ok (.ifCond .eq 29, 3) := by decide +kernel
theorem d_Real_infiniteSum_8 : decode b_Real_infiniteSum 8 = .ok (.aload_n 0, 1) := by decide +kernel
theorem d_Real_infiniteSum_9 : decode b_Real_infiniteSum 9 = .ok (.lload_n 3, 1) := by decide +kernel
theorem d_Real_infiniteSum_10 : decode b_Real_infiniteSum 10 = .ok (.invokevirtual 80, 3) := by decide +kernel
theorem d_Real_infiniteSum_13 : decode b_Real_infiniteSum 13 = .ok (.ifCond .eq 21, 3) := by decide +kernel
theorem d_Real_infiniteSum_16 : decode b_Real_infiniteSum 16 = .ok (.aload_n 0, 1) := by decide +kernel
theorem d_Real_infiniteSum_17 : decode b_Real_infiniteSum 17 = .ok (.lload_n 1, 1) := by decide +kernel
theorem d_Real_infiniteSum_18 : decode b_Real_infiniteSum 18 = .ok (.invokevirtual 52, 3) := by decide +kernel
theorem d_Real_infiniteSum_21 : decode b_Real_infiniteSum 21 = .ok (.aload_n 0, 1) := by decide +kernel
theorem d_Real_infiniteSum_22 : decode b_Real_infiniteSum 22 = .ok (.lload_n 3, 1) := by decide +kernel
theorem d_Real_infiniteSum_23 : decode b_Real_infiniteSum 23 = .ok (.invokevirtual 52, 3) := by decide +kernel
theorem d_Real_infiniteSum_26 : decode b_Real_infiniteSum 26 = .ok (.if_icmp .eq 8, 3) := by decide +kernel
theorem d_Real_infiniteSum_29 : decode b_Real_infiniteSum 29 = .ok (.aload_n 0, 1) := by decide +kernel
theorem d_Real_infiniteSum_30 : decode b_Real_infiniteSum 30 = .ok (.invokevirtual 72, 3) := by decide +kernel
theorem d_Real_infiniteSum_33 : decode b_Real_infiniteSum 33 = .ok (.lreturn, 1) := by decide +kernel
theorem d_Real_infiniteSum_34 : decode b_Real_infiniteSum 34 = .ok (.aload_n 0, 1) := by decide +kernel
theorem d_Real_infiniteSum_35 : decode b_Real_infiniteSum 35 = .ok (.aload_n 0, 1) := by decide +kernel
theorem d_Real_infiniteSum_36 : decode b_Real_infiniteSum 36 = .ok (.lload_n 1, 1) := by decide +kernel
theorem d_Real_infiniteSum_37 : decode b_Real_infiniteSum 37 = .ok (.invokevirtual 80, 3) := by decide +kernel
theorem d_Real_infiniteSum_40 : decode b_Real_infiniteSum 40 = .ok (.ifCond .eq 11, 3) := by decide +kernel
theorem d_Real_infiniteSum_43 : decode b_Real_infiniteSum 43 = .ok (.aload_n 0, 1) := by decide +kernel
theorem d_Real_infiniteSum_44 : decode b_Real_infiniteSum 44 = .ok (.lload_n 1, 1) := by decide +kernel
theorem d_Real_infiniteSum_45 : decode b_Real_infiniteSum 45 = .ok (.invokevirtual 52, 3) := by decide +kernel
theorem d_Real_infiniteSum_48 : decode b_Real_infiniteSum 48 = .ok (.goto 8, 3) := by decide +kernel
theorem d_Real_infiniteSum_51 : decode b_Real_infiniteSum 51 = .ok (.aload_n 0, 1) := by decide +kernel
theorem d_Real_infiniteSum_52 : decode b_Real_infiniteSum 52 = .ok (.lload_n 3, 1) := by decide +kernel
theorem d_Real_infiniteSum_53 : decode b_Real_infiniteSum 53 = .ok (.invokevirtual 52, 3) := by decide +kernel
theorem d_Real_infiniteSum_56 : decode b_Real_infiniteSum 56 = .ok (.aload_n 0, 1) := by decide +kernel
theorem d_Real_infiniteSum_57 : decode b_Real_infiniteSum 57 = .ok (.getfield 45, 3) := by decide +kernel
theorem d_Real_infiniteSum_60 : decode b_Real_infiniteSum 60 = .ok (.invokevirtual 76, 3) := by decide +kernel
theorem d_Real_infiniteSum_63 : decode b_Real_infiniteSum 63 = .ok (.lreturn, 1) := by decide +kernel
def F_Real_infiniteSum (K0 : rK) (a1 : Int64) (a2 : Int64) : Int64 := lt_ (fun (_ : Unit) => lt_ (if (F_Real_isInfinite K0 a1) = 0 then F_Real_isNegative K0 a2 else F_Real_isNegative K0 a1) fun x1 => F_Real_signed K0 x1 K0.2.2.2.2) fun j34 => if (F_Real_isInfinite K0 a1) = 0 then (j34 ()) else (if (F_Real_isInfinite K0 a2) = 0 then (j34 ()) else (if (F_Real_isNegative K0 a1) = (F_Real_isNegative K0 a2) then (j34 ()) else (F_Real_nan K0)))
set_option maxHeartbeats 4000000 in
set_option maxRecDepth 100000 in
theorem c_Real_infiniteSum (l : Launch) (o0 : Nat) (K0 : rK) (a1 : Int64) (a2 : Int64) : Met l y_Real_infiniteSum (.code y_Real_infiniteSum b_Real_infiniteSum 5 (some .long) :: BIG) ({ frames := 2, cells := 0, slots := 0, locals := 44 } : Room) (va_Pc [.ref o0, .long a1, .long a2] (pre1 o0 K0)) (pQ (.long (F_Real_infiniteSum K0 a1 a2))) 0 0 (fun _ => False) := by
  refine pOpen_l rfl (Nat.le_of_ble_eq_true rfl) ?_
  intro p e s m args below meth c Q ls hx hb hml hown hts hT hp hl hret
  obtain ⟨hNB, hRe_o0⟩ := hp
  have hown : s.vm.findClass R_Real = some m.cls := hown
  have hl : lv_has ls 5 [(0, .ref o0), (1, .long a1), (3, .long a2)] := hl
  obtain ⟨r, h⟩ : ∃ r, F_Real_infiniteSum K0 a1 a2 = r := ⟨_, rfl⟩
  rw [h] at hret
  have h : (lt_ (fun (_ : Unit) => lt_ (if (F_Real_isInfinite K0 a1) = 0 then F_Real_isNegative K0 a2 else F_Real_isNegative K0 a1) fun x1 => F_Real_signed K0 x1 K0.2.2.2.2) fun j34 => if (F_Real_isInfinite K0 a1) = 0 then (j34 ()) else (if (F_Real_isInfinite K0 a2) = 0 then (j34 ()) else (if (F_Real_isNegative K0 a1) = (F_Real_isNegative K0 a2) then (j34 ()) else (F_Real_nan K0)))) = r := h
  refine lv_aload_n hx hb d_Real_infiniteSum_0 rfl (lv_at hl 0 rfl) ?_
  refine lv_lload_n hx hb d_Real_infiniteSum_1 rfl (lv_at hl 1 rfl) ?_
  refine q_V (As := [.long a1]) (rest := []) (n := 1) hx hb hml hown hts (c_Real_isInfinite l o0 K0 a1) rfl rfl m_42 m_43 m_44 m_45 m_11 (by decide +kernel) ⟨Nat.le_of_ble_eq_true rfl, Nat.le_of_ble_eq_true rfl⟩ (rAt_rc hRe_o0) (p1_bl) (fun U hU hW => p1_mv hU hW hNB hRe_o0) rfl hl.1 rfl (Nat.le_of_ble_eq_true rfl) d_Real_infiniteSum_2 ⟨Nat.zero_le _, Nat.zero_le _⟩ ?_
  obtain ⟨j34, e_j34, h⟩ := lt_o h
  have hJ34 : ∀ (ls : Array Slot), lv_has ls 5 [(0, .ref o0), (1, .long a1), (3, .long a2)] → j34 () = r → W p l e ({ frames := 2, cells := 0, slots := 0, locals := 44 } : Room) s m args below meth c s.heap [] 0 0 Q (F0 m 34 ls []) := by
    intro  ls hl h
    rw [e_j34] at h
    refine lv_aload_n hx hb d_Real_infiniteSum_34 rfl (lv_at hl 0 rfl) ?_
    refine lv_aload_n hx hb d_Real_infiniteSum_35 rfl (lv_at hl 0 rfl) ?_
    refine lv_lload_n hx hb d_Real_infiniteSum_36 rfl (lv_at hl 1 rfl) ?_
    refine q_V (As := [.long a1]) (rest := [.ref o0]) (n := 1) hx hb hml hown hts (c_Real_isInfinite l o0 K0 a1) rfl rfl m_42 m_43 m_44 m_45 m_11 (by decide +kernel) ⟨Nat.le_of_ble_eq_true rfl, Nat.le_of_ble_eq_true rfl⟩ (rAt_rc hRe_o0) (p1_bl) (fun U hU hW => p1_mv hU hW hNB hRe_o0) rfl hl.1 rfl (Nat.le_of_ble_eq_true rfl) d_Real_infiniteSum_37 ⟨Nat.zero_le _, Nat.zero_le _⟩ ?_
    obtain ⟨x1, e_x1, h⟩ := lt_o h
    have hJ56 : ∀ (x1' : Int32) (ls : Array Slot), x1 = x1' → lv_has ls 5 [(0, .ref o0)] → W p l e ({ frames := 2, cells := 0, slots := 0, locals := 44 } : Room) s m args below meth c s.heap [] 0 0 Q (F0 m 56 ls [.int x1', .ref o0]) := by
      intro x1' ls q_x1 hl
      subst q_x1
      refine lv_aload_n hx hb d_Real_infiniteSum_56 rfl (lv_at hl 0 rfl) ?_
      refine vk_getf hx hb (hRe_o0.2.2.2.2.2) va_S.rf hown (hT _ m_4) (fun _ h9 => h9) d_Real_infiniteSum_57 ?_
      refine q_V (As := [.int x1, .long K0.2.2.2.2]) (rest := []) (n := 2) hx hb hml hown hts (c_Real_signed l o0 K0 x1 K0.2.2.2.2) rfl rfl m_34 m_35 m_36 m_37 m_11 (by decide +kernel) ⟨Nat.le_of_ble_eq_true rfl, Nat.le_of_ble_eq_true rfl⟩ (rAt_rc hRe_o0) (p1_bl) (fun U hU hW => p1_mv hU hW hNB hRe_o0) rfl hl.1 rfl (Nat.le_of_ble_eq_true rfl) d_Real_infiniteSum_60 ⟨Nat.zero_le _, Nat.zero_le _⟩ ?_
      exact hret 63 ls _ h d_Real_infiniteSum_63
    refine lv_if_eq (tgt := 51) hx hb d_Real_infiniteSum_40 rfl (fun hc => ?_) (fun hc => ?_)
    · have e_x1 := e_x1.trans (if_pos hc)
      refine lv_aload_n hx hb d_Real_infiniteSum_51 rfl (lv_at hl 0 rfl) ?_
      refine lv_lload_n hx hb d_Real_infiniteSum_52 rfl (lv_at hl 2 rfl) ?_
      refine q_V (As := [.long a2]) (rest := [.ref o0]) (n := 1) hx hb hml hown hts (c_Real_isNegative l o0 K0 a2) rfl rfl m_12 m_13 m_14 m_15 m_11 (by decide +kernel) ⟨Nat.le_of_ble_eq_true rfl, Nat.le_of_ble_eq_true rfl⟩ (rAt_rc hRe_o0) (p1_bl) (fun U hU hW => p1_mv hU hW hNB hRe_o0) rfl hl.1 rfl (Nat.le_of_ble_eq_true rfl) d_Real_infiniteSum_53 ⟨Nat.zero_le _, Nat.zero_le _⟩ ?_
      exact hJ56 _ ls e_x1 (lv_sub hl [0] rfl)
    · have e_x1 := e_x1.trans (if_neg hc)
      refine lv_aload_n hx hb d_Real_infiniteSum_43 rfl (lv_at hl 0 rfl) ?_
      refine lv_lload_n hx hb d_Real_infiniteSum_44 rfl (lv_at hl 1 rfl) ?_
      refine q_V (As := [.long a1]) (rest := [.ref o0]) (n := 1) hx hb hml hown hts (c_Real_isNegative l o0 K0 a1) rfl rfl m_12 m_13 m_14 m_15 m_11 (by decide +kernel) ⟨Nat.le_of_ble_eq_true rfl, Nat.le_of_ble_eq_true rfl⟩ (rAt_rc hRe_o0) (p1_bl) (fun U hU hW => p1_mv hU hW hNB hRe_o0) rfl hl.1 rfl (Nat.le_of_ble_eq_true rfl) d_Real_infiniteSum_45 ⟨Nat.zero_le _, Nat.zero_le _⟩ ?_
      refine lv_goto (tgt := 56) hx hb d_Real_infiniteSum_48 rfl ?_
      exact hJ56 _ ls e_x1 (lv_sub hl [0] rfl)
  refine lv_if_eq (tgt := 34) hx hb d_Real_infiniteSum_5 rfl (fun hc => ?_) (fun hc => ?_)
  · have h := ite_t hc h
    exact hJ34 ls (lv_sub hl [0, 1, 2] rfl) h
  · have h := ite_f hc h
    refine lv_aload_n hx hb d_Real_infiniteSum_8 rfl (lv_at hl 0 rfl) ?_
    refine lv_lload_n hx hb d_Real_infiniteSum_9 rfl (lv_at hl 2 rfl) ?_
    refine q_V (As := [.long a2]) (rest := []) (n := 1) hx hb hml hown hts (c_Real_isInfinite l o0 K0 a2) rfl rfl m_42 m_43 m_44 m_45 m_11 (by decide +kernel) ⟨Nat.le_of_ble_eq_true rfl, Nat.le_of_ble_eq_true rfl⟩ (rAt_rc hRe_o0) (p1_bl) (fun U hU hW => p1_mv hU hW hNB hRe_o0) rfl hl.1 rfl (Nat.le_of_ble_eq_true rfl) d_Real_infiniteSum_10 ⟨Nat.zero_le _, Nat.zero_le _⟩ ?_
    refine lv_if_eq (tgt := 34) hx hb d_Real_infiniteSum_13 rfl (fun hc => ?_) (fun hc => ?_)
    · have h := ite_t hc h
      exact hJ34 ls (lv_sub hl [0, 1, 2] rfl) h
    · have h := ite_f hc h
      refine lv_aload_n hx hb d_Real_infiniteSum_16 rfl (lv_at hl 0 rfl) ?_
      refine lv_lload_n hx hb d_Real_infiniteSum_17 rfl (lv_at hl 1 rfl) ?_
      refine q_V (As := [.long a1]) (rest := []) (n := 1) hx hb hml hown hts (c_Real_isNegative l o0 K0 a1) rfl rfl m_12 m_13 m_14 m_15 m_11 (by decide +kernel) ⟨Nat.le_of_ble_eq_true rfl, Nat.le_of_ble_eq_true rfl⟩ (rAt_rc hRe_o0) (p1_bl) (fun U hU hW => p1_mv hU hW hNB hRe_o0) rfl hl.1 rfl (Nat.le_of_ble_eq_true rfl) d_Real_infiniteSum_18 ⟨Nat.zero_le _, Nat.zero_le _⟩ ?_
      refine lv_aload_n hx hb d_Real_infiniteSum_21 rfl (lv_at hl 0 rfl) ?_
      refine lv_lload_n hx hb d_Real_infiniteSum_22 rfl (lv_at hl 2 rfl) ?_
      refine q_V (As := [.long a2]) (rest := [.int (F_Real_isNegative K0 a1)]) (n := 1) hx hb hml hown hts (c_Real_isNegative l o0 K0 a2) rfl rfl m_12 m_13 m_14 m_15 m_11 (by decide +kernel) ⟨Nat.le_of_ble_eq_true rfl, Nat.le_of_ble_eq_true rfl⟩ (rAt_rc hRe_o0) (p1_bl) (fun U hU hW => p1_mv hU hW hNB hRe_o0) rfl hl.1 rfl (Nat.le_of_ble_eq_true rfl) d_Real_infiniteSum_23 ⟨Nat.zero_le _, Nat.zero_le _⟩ ?_
      refine lv_icmp_eq (tgt := 34) hx hb d_Real_infiniteSum_26 rfl (fun hc => ?_) (fun hc => ?_)
      · have h := ite_t hc h
        exact hJ34 ls (lv_sub hl [0, 1, 2] rfl) h
      · have h := ite_f hc h
        refine lv_aload_n hx hb d_Real_infiniteSum_29 rfl (lv_at hl 0 rfl) ?_
        refine q_V (As := []) (rest := []) (n := 0) hx hb hml hown hts (c_Real_nan l o0 K0) rfl rfl m_38 m_39 m_40 m_41 m_11 (by decide +kernel) ⟨Nat.le_of_ble_eq_true rfl, Nat.le_of_ble_eq_true rfl⟩ (rAt_rc hRe_o0) (p1_bl) (fun U hU hW => p1_mv hU hW hNB hRe_o0) rfl hl.1 rfl (Nat.le_of_ble_eq_true rfl) d_Real_infiniteSum_30 ⟨Nat.zero_le _, Nat.zero_le _⟩ ?_
        exact hret 33 ls _ h d_Real_infiniteSum_33
-- Real_jammed
theorem d_Real_jammed_0 : decode b_Real_jammed 0 = .ok (.iload_n 2, 1) := by decide +kernel
theorem d_Real_jammed_1 : decode b_Real_jammed 1 = .ok (.ifCond .eq 9, 3) := by decide +kernel
theorem d_Real_jammed_4 : decode b_Real_jammed 4 = .ok (.lload_n 0, 1) := by decide +kernel
theorem d_Real_jammed_5 : decode b_Real_jammed 5 = .ok (.lconst 1, 1) := by decide +kernel
theorem d_Real_jammed_6 : decode b_Real_jammed 6 = .ok (.lor, 1) := by decide +kernel
theorem d_Real_jammed_7 : decode b_Real_jammed 7 = .ok (.goto 4, 3) := by decide +kernel
theorem d_Real_jammed_10 : decode b_Real_jammed 10 = .ok (.lload_n 0, 1) := by decide +kernel
theorem d_Real_jammed_11 : decode b_Real_jammed 11 = .ok (.lreturn, 1) := by decide +kernel
def F_Real_jammed (a0 : Int64) (a1 : Int32) : Int64 := lt_ (if a1 = 0 then a0 else a0 ||| (1 : Int64)) fun x1 => x1
set_option maxHeartbeats 4000000 in
set_option maxRecDepth 100000 in
theorem c_Real_jammed (l : Launch) (a0 : Int64) (a1 : Int32) : Met l y_Real_jammed (.code y_Real_jammed b_Real_jammed 3 (some .long) :: BIG) ({ frames := 0, cells := 0, slots := 0, locals := 0 } : Room) (va_Pc [.long a0, .int a1] (pre0)) (pQ (.long (F_Real_jammed a0 a1))) 0 0 (fun _ => False) := by
  refine pOpen_l rfl (Nat.le_of_ble_eq_true rfl) ?_
  intro p e s m args below meth c Q ls hx hb hml hown hts hT hp hl hret
  have hNB := hp
  have hown : s.vm.findClass R_Real = some m.cls := hown
  have hl : lv_has ls 3 [(0, .long a0), (2, .int a1)] := hl
  obtain ⟨r, h⟩ : ∃ r, F_Real_jammed a0 a1 = r := ⟨_, rfl⟩
  rw [h] at hret
  have h : (lt_ (if a1 = 0 then a0 else a0 ||| (1 : Int64)) fun x1 => x1) = r := h
  refine lv_iload_n hx hb d_Real_jammed_0 rfl (lv_at hl 1 rfl) ?_
  obtain ⟨x1, e_x1, h⟩ := lt_o h
  have hJ11 : ∀ (x1' : Int64) (ls : Array Slot), x1 = x1' → lv_has ls 3 [] → W p l e ({ frames := 0, cells := 0, slots := 0, locals := 0 } : Room) s m args below meth c s.heap [] 0 0 Q (F0 m 11 ls [.long x1']) := by
    intro x1' ls q_x1 hl
    subst q_x1
    exact hret 11 ls _ h d_Real_jammed_11
  refine lv_if_eq (tgt := 10) hx hb d_Real_jammed_1 rfl (fun hc => ?_) (fun hc => ?_)
  · have e_x1 := e_x1.trans (if_pos hc)
    refine lv_lload_n hx hb d_Real_jammed_10 rfl (lv_at hl 0 rfl) ?_
    exact hJ11 _ ls e_x1 (lv_sub hl [] rfl)
  · have e_x1 := e_x1.trans (if_neg hc)
    refine lv_lload_n hx hb d_Real_jammed_4 rfl (lv_at hl 0 rfl) ?_
    refine lv_lconst hx hb d_Real_jammed_5 lc_1 ?_
    refine lv_lor hx hb d_Real_jammed_6 ?_
    refine lv_goto (tgt := 11) hx hb d_Real_jammed_7 rfl ?_
    exact hJ11 _ ls e_x1 (lv_sub hl [] rfl)
-- Real_shiftedDown
theorem d_Real_shiftedDown_0 : decode b_Real_shiftedDown 0 = .ok (.iload_n 2, 1) := by decide +kernel
theorem d_Real_shiftedDown_1 : decode b_Real_shiftedDown 1 = .ok (.bipush 63, 2) := by decide +kernel
theorem d_Real_shiftedDown_3 : decode b_Real_shiftedDown 3 = .ok (.if_icmp .le 19, 3) := by decide +kernel
theorem d_Real_shiftedDown_6 : decode b_Real_shiftedDown 6 = .ok (.lconst 0, 1) := by decide +kernel
theorem d_Real_shiftedDown_7 : decode b_Real_shiftedDown 7 = .ok (.lload_n 0, 1) := by decide +kernel
theorem d_Real_shiftedDown_8 : decode b_Real_shiftedDown 8 = .ok (.lconst 0, 1) := by decide +kernel
theorem d_Real_shiftedDown_9 : decode b_Real_shiftedDown 9 = .ok (.lcmp, 1) := by decide +kernel
theorem d_Real_shiftedDown_10 : decode b_Real_shiftedDown 10 = .ok (.ifCond .eq 7, 3) := by decide +kernel
theorem d_Real_shiftedDown_13 : decode b_Real_shiftedDown 13 = .ok (.iconst 1, 1) := by decide +kernel
theorem d_Real_shiftedDown_14 : decode b_Real_shiftedDown 14 = .ok (.goto 4, 3) := by decide +kernel
theorem d_Real_shiftedDown_17 : decode b_Real_shiftedDown 17 = .ok (.iconst 0, 1) := by decide +kernel
theorem d_Real_shiftedDown_18 : decode b_Real_shiftedDown 18 = .ok (.invokestatic 99, 3) := by decide +kernel
theorem d_Real_shiftedDown_21 : decode b_Real_shiftedDown 21 = .ok (.lreturn, 1) := by decide +kernel
theorem d_Real_shiftedDown_22 : decode b_Real_shiftedDown 22 = .ok (.lload_n 0, 1) := by decide +kernel
theorem d_Real_shiftedDown_23 : decode b_Real_shiftedDown 23 = .ok (.iload_n 2, 1) := by decide +kernel
theorem d_Real_shiftedDown_24 : decode b_Real_shiftedDown 24 = .ok (.lushr, 1) := by decide +kernel
theorem d_Real_shiftedDown_25 : decode b_Real_shiftedDown 25 = .ok (.lload_n 0, 1) := by decide +kernel
theorem d_Real_shiftedDown_26 : decode b_Real_shiftedDown 26 = .ok (.lconst 1, 1) := by decide +kernel
theorem d_Real_shiftedDown_27 : decode b_Real_shiftedDown 27 = .ok (.iload_n 2, 1) := by decide +kernel
theorem d_Real_shiftedDown_28 : decode b_Real_shiftedDown 28 = .ok (.lshl, 1) := by decide +kernel
theorem d_Real_shiftedDown_29 : decode b_Real_shiftedDown 29 = .ok (.lconst 1, 1) := by decide +kernel
theorem d_Real_shiftedDown_30 : decode b_Real_shiftedDown 30 = .ok (.lsub, 1) := by decide +kernel
theorem d_Real_shiftedDown_31 : decode b_Real_shiftedDown 31 = .ok (.land, 1) := by decide +kernel
theorem d_Real_shiftedDown_32 : decode b_Real_shiftedDown 32 = .ok (.lconst 0, 1) := by decide +kernel
theorem d_Real_shiftedDown_33 : decode b_Real_shiftedDown 33 = .ok (.lcmp, 1) := by decide +kernel
theorem d_Real_shiftedDown_34 : decode b_Real_shiftedDown 34 = .ok (.ifCond .eq 7, 3) := by decide +kernel
theorem d_Real_shiftedDown_37 : decode b_Real_shiftedDown 37 = .ok (.iconst 1, 1) := by decide +kernel
theorem d_Real_shiftedDown_38 : decode b_Real_shiftedDown 38 = .ok (.goto 4, 3) := by decide +kernel
theorem d_Real_shiftedDown_41 : decode b_Real_shiftedDown 41 = .ok (.iconst 0, 1) := by decide +kernel
theorem d_Real_shiftedDown_42 : decode b_Real_shiftedDown 42 = .ok (.invokestatic 99, 3) := by decide +kernel
theorem d_Real_shiftedDown_45 : decode b_Real_shiftedDown 45 = .ok (.lreturn, 1) := by decide +kernel
def F_Real_shiftedDown (a0 : Int64) (a1 : Int32) : Int64 := if a1 ≤ (63 : Int32) then (lt_ (if (a0 &&& (((1 : Int64) <<< ((a1).toInt64 &&& 63)) - (1 : Int64))) = (0 : Int64) then (0 : Int32) else (1 : Int32)) fun x1 => F_Real_jammed (((a0).toUInt64 >>> ((a1).toInt64.toUInt64 &&& Int64.toUInt64 63)).toInt64) x1) else (lt_ (if a0 = (0 : Int64) then (0 : Int32) else (1 : Int32)) fun x2 => F_Real_jammed (0 : Int64) x2)
set_option maxHeartbeats 4000000 in
set_option maxRecDepth 100000 in
theorem c_Real_shiftedDown (l : Launch) (a0 : Int64) (a1 : Int32) : Met l y_Real_shiftedDown (.code y_Real_shiftedDown b_Real_shiftedDown 3 (some .long) :: BIG) ({ frames := 1, cells := 0, slots := 0, locals := 22 } : Room) (va_Pc [.long a0, .int a1] (pre0)) (pQ (.long (F_Real_shiftedDown a0 a1))) 0 0 (fun _ => False) := by
  refine pOpen_l rfl (Nat.le_of_ble_eq_true rfl) ?_
  intro p e s m args below meth c Q ls hx hb hml hown hts hT hp hl hret
  have hNB := hp
  have hown : s.vm.findClass R_Real = some m.cls := hown
  have hl : lv_has ls 3 [(0, .long a0), (2, .int a1)] := hl
  obtain ⟨r, h⟩ : ∃ r, F_Real_shiftedDown a0 a1 = r := ⟨_, rfl⟩
  rw [h] at hret
  have h : (if a1 ≤ (63 : Int32) then (lt_ (if (a0 &&& (((1 : Int64) <<< ((a1).toInt64 &&& 63)) - (1 : Int64))) = (0 : Int64) then (0 : Int32) else (1 : Int32)) fun x1 => F_Real_jammed (((a0).toUInt64 >>> ((a1).toInt64.toUInt64 &&& Int64.toUInt64 63)).toInt64) x1) else (lt_ (if a0 = (0 : Int64) then (0 : Int32) else (1 : Int32)) fun x2 => F_Real_jammed (0 : Int64) x2)) = r := h
  refine lv_iload_n hx hb d_Real_shiftedDown_0 rfl (lv_at hl 1 rfl) ?_
  refine lv_bipush hx hb d_Real_shiftedDown_1 bp_63 ?_
  refine lv_icmp_le (tgt := 22) hx hb d_Real_shiftedDown_3 rfl (fun hc => ?_) (fun hc => ?_)
  · have h := ite_t hc h
    refine lv_lload_n hx hb d_Real_shiftedDown_22 rfl (lv_at hl 0 rfl) ?_
    refine lv_iload_n hx hb d_Real_shiftedDown_23 rfl (lv_at hl 1 rfl) ?_
    refine lv_lushr hx hb d_Real_shiftedDown_24 rfl ?_
    refine lv_lload_n hx hb d_Real_shiftedDown_25 rfl (lv_at hl 0 rfl) ?_
    refine lv_lconst hx hb d_Real_shiftedDown_26 lc_1 ?_
    refine lv_iload_n hx hb d_Real_shiftedDown_27 rfl (lv_at hl 1 rfl) ?_
    refine lv_lshl hx hb d_Real_shiftedDown_28 rfl ?_
    refine lv_lconst hx hb d_Real_shiftedDown_29 lc_1 ?_
    refine lv_lsub hx hb d_Real_shiftedDown_30 ?_
    refine lv_land hx hb d_Real_shiftedDown_31 ?_
    refine lv_lconst hx hb d_Real_shiftedDown_32 lc_0 ?_
    refine W.lcmp hx hb d_Real_shiftedDown_33 ?_
    obtain ⟨x1, e_x1, h⟩ := lt_o h
    have hJ42 : ∀ (x1' : Int32) (ls : Array Slot), x1 = x1' → lv_has ls 3 [] → W p l e ({ frames := 1, cells := 0, slots := 0, locals := 22 } : Room) s m args below meth c s.heap [] 0 0 Q (F0 m 42 ls [.int x1', .long (((a0).toUInt64 >>> ((a1).toInt64.toUInt64 &&& Int64.toUInt64 63)).toInt64)]) := by
      intro x1' ls q_x1 hl
      subst q_x1
      refine q_S (As := [.long (((a0).toUInt64 >>> ((a1).toInt64.toUInt64 &&& Int64.toUInt64 63)).toInt64), .int x1]) (rest := []) (n := 2) hx hb hml hown hts (c_Real_jammed l (((a0).toUInt64 >>> ((a1).toInt64.toUInt64 &&& Int64.toUInt64 63)).toInt64) x1) rfl rfl m_46 m_47 m_48 m_11 (by decide +kernel) ⟨Nat.le_of_ble_eq_true rfl, Nat.le_of_ble_eq_true rfl⟩ (p0_bl) (fun U hU hW => p0_mv hU hW hNB) rfl hl.1 rfl (Nat.le_of_ble_eq_true rfl) d_Real_shiftedDown_42 ⟨Nat.zero_le _, Nat.zero_le _⟩ ?_
      exact hret 45 ls _ h d_Real_shiftedDown_45
    refine lv_if_eq (tgt := 41) hx hb d_Real_shiftedDown_34 rfl (fun hc => ?_) (fun hc => ?_)
    · have hc := (lg_cmp_eq _ _).mp hc
      have e_x1 := e_x1.trans (if_pos hc)
      refine lv_iconst hx hb d_Real_shiftedDown_41 ic_0 ?_
      exact hJ42 _ ls e_x1 (lv_sub hl [] rfl)
    · have hc := mt (lg_cmp_eq _ _).mpr hc
      have e_x1 := e_x1.trans (if_neg hc)
      refine lv_iconst hx hb d_Real_shiftedDown_37 ic_1 ?_
      refine lv_goto (tgt := 42) hx hb d_Real_shiftedDown_38 rfl ?_
      exact hJ42 _ ls e_x1 (lv_sub hl [] rfl)
  · have h := ite_f hc h
    refine lv_lconst hx hb d_Real_shiftedDown_6 lc_0 ?_
    refine lv_lload_n hx hb d_Real_shiftedDown_7 rfl (lv_at hl 0 rfl) ?_
    refine lv_lconst hx hb d_Real_shiftedDown_8 lc_0 ?_
    refine W.lcmp hx hb d_Real_shiftedDown_9 ?_
    obtain ⟨x2, e_x2, h⟩ := lt_o h
    have hJ18 : ∀ (x2' : Int32) (ls : Array Slot), x2 = x2' → lv_has ls 3 [] → W p l e ({ frames := 1, cells := 0, slots := 0, locals := 22 } : Room) s m args below meth c s.heap [] 0 0 Q (F0 m 18 ls [.int x2', .long (0 : Int64)]) := by
      intro x2' ls q_x2 hl
      subst q_x2
      refine q_S (As := [.long (0 : Int64), .int x2]) (rest := []) (n := 2) hx hb hml hown hts (c_Real_jammed l (0 : Int64) x2) rfl rfl m_46 m_47 m_48 m_11 (by decide +kernel) ⟨Nat.le_of_ble_eq_true rfl, Nat.le_of_ble_eq_true rfl⟩ (p0_bl) (fun U hU hW => p0_mv hU hW hNB) rfl hl.1 rfl (Nat.le_of_ble_eq_true rfl) d_Real_shiftedDown_18 ⟨Nat.zero_le _, Nat.zero_le _⟩ ?_
      exact hret 21 ls _ h d_Real_shiftedDown_21
    refine lv_if_eq (tgt := 17) hx hb d_Real_shiftedDown_10 rfl (fun hc => ?_) (fun hc => ?_)
    · have hc := (lg_cmp_eq _ _).mp hc
      have e_x2 := e_x2.trans (if_pos hc)
      refine lv_iconst hx hb d_Real_shiftedDown_17 ic_0 ?_
      exact hJ18 _ ls e_x2 (lv_sub hl [] rfl)
    · have hc := mt (lg_cmp_eq _ _).mpr hc
      have e_x2 := e_x2.trans (if_neg hc)
      refine lv_iconst hx hb d_Real_shiftedDown_13 ic_1 ?_
      refine lv_goto (tgt := 18) hx hb d_Real_shiftedDown_14 rfl ?_
      exact hJ18 _ ls e_x2 (lv_sub hl [] rfl)
end
section
-- Real_nearest
theorem d_Real_nearest_0 : decode b_Real_nearest 0 = .ok (.lload_n 0, 1) := by decide +kernel
theorem d_Real_nearest_1 : decode b_Real_nearest 1 = .ok (.iload_n 2, 1) := by decide +kernel
theorem d_Real_nearest_2 : decode b_Real_nearest 2 = .ok (.lushr, 1) := by decide +kernel
theorem d_Real_nearest_3 : decode b_Real_nearest 3 = .ok (.lstore_n 3, 1) := by decide +kernel
theorem d_Real_nearest_4 : decode b_Real_nearest 4 = .ok (.lload_n 0, 1) := by decide +kernel
theorem d_Real_nearest_5 : decode b_Real_nearest 5 = .ok (.lconst 1, 1) := by decide +kernel
theorem d_Real_nearest_6 : decode b_Real_nearest 6 = .ok (.iload_n 2, 1) := by decide +kernel
theorem d_Real_nearest_7 : decode b_Real_nearest 7 = .ok (.lshl, 1) := by decide +kernel
theorem d_Real_nearest_8 : decode b_Real_nearest 8 = .ok (.lconst 1, 1) := by decide +kernel
theorem d_Real_nearest_9 : decode b_Real_nearest 9 = .ok (.lsub, 1) := by decide +kernel
theorem d_Real_nearest_10 : decode b_Real_nearest 10 = .ok (.land, 1) := by decide +kernel
theorem d_Real_nearest_11 : decode b_Real_nearest 11 = .ok (.lstore 5, 2) := by decide +kernel
theorem d_Real_nearest_13 : decode b_Real_nearest 13 = .ok (.lconst 1, 1) := by decide +kernel
theorem d_Real_nearest_14 : decode b_Real_nearest 14 = .ok (.iload_n 2, 1) := by decide +kernel
theorem d_Real_nearest_15 : decode b_Real_nearest 15 = .ok (.iconst 1, 1) := by decide +kernel
theorem d_Real_nearest_16 : decode b_Real_nearest 16 = .ok (.isub, 1) := by decide +kernel
theorem d_Real_nearest_17 : decode b_Real_nearest 17 = .ok (.lshl, 1) := by decide +kernel
theorem d_Real_nearest_18 : decode b_Real_nearest 18 = .ok (.lstore 7, 2) := by decide +kernel
theorem d_Real_nearest_20 : decode b_Real_nearest 20 = .ok (.lload 5, 2) := by decide +kernel
theorem d_Real_nearest_22 : decode b_Real_nearest 22 = .ok (.lload 7, 2) := by decide +kernel
theorem d_Real_nearest_24 : decode b_Real_nearest 24 = .ok (.lcmp, 1) := by decide +kernel
theorem d_Real_nearest_25 : decode b_Real_nearest 25 = .ok (.ifCond .gt 19, 3) := by decide +kernel
theorem d_Real_nearest_28 : decode b_Real_nearest 28 = .ok (.lload 5, 2) := by decide +kernel
theorem d_Real_nearest_30 : decode b_Real_nearest 30 = .ok (.lload 7, 2) := by decide +kernel
theorem d_Real_nearest_32 : decode b_Real_nearest 32 = .ok (.lcmp, 1) := by decide +kernel
theorem d_Real_nearest_33 : decode b_Real_nearest 33 = .ok (.ifCond .ne 15, 3) := by decide +kernel
theorem d_Real_nearest_36 : decode b_Real_nearest 36 = .ok (.lload_n 3, 1) := by decide +kernel
theorem d_Real_nearest_37 : decode b_Real_nearest 37 = .ok (.lconst 1, 1) := by decide +kernel
theorem d_Real_nearest_38 : decode b_Real_nearest 38 = .ok (.land, 1) := by decide +kernel
theorem d_Real_nearest_39 : decode b_Real_nearest 39 = .ok (.lconst 1, 1) := by decide +kernel
theorem d_Real_nearest_40 : decode b_Real_nearest 40 = .ok (.lcmp, 1) := by decide +kernel
theorem d_Real_nearest_41 : decode b_Real_nearest 41 = .ok (.ifCond .ne 7, 3) := by decide +kernel
theorem d_Real_nearest_44 : decode b_Real_nearest 44 = .ok (.iconst 1, 1) := by decide +kernel
theorem d_Real_nearest_45 : decode b_Real_nearest 45 = .ok (.goto 4, 3) := by decide +kernel
theorem d_Real_nearest_48 : decode b_Real_nearest 48 = .ok (.iconst 0, 1) := by decide +kernel
theorem d_Real_nearest_49 : decode b_Real_nearest 49 = .ok (.istore 9, 2) := by decide +kernel
theorem d_Real_nearest_51 : decode b_Real_nearest 51 = .ok (.iload 9, 2) := by decide +kernel
theorem d_Real_nearest_53 : decode b_Real_nearest 53 = .ok (.ifCond .eq 9, 3) := by decide +kernel
theorem d_Real_nearest_56 : decode b_Real_nearest 56 = .ok (.lload_n 3, 1) := by decide +kernel
theorem d_Real_nearest_57 : decode b_Real_nearest 57 = .ok (.lconst 1, 1) := by decide +kernel
theorem d_Real_nearest_58 : decode b_Real_nearest 58 = .ok (.ladd, 1) := by decide +kernel
theorem d_Real_nearest_59 : decode b_Real_nearest 59 = .ok (.goto 4, 3) := by decide +kernel
theorem d_Real_nearest_62 : decode b_Real_nearest 62 = .ok (.lload_n 3, 1) := by decide +kernel
theorem d_Real_nearest_63 : decode b_Real_nearest 63 = .ok (.lreturn, 1) := by decide +kernel
def F_Real_nearest (a0 : Int64) (a1 : Int32) : Int64 := lt_ (((a0).toUInt64 >>> ((a1).toInt64.toUInt64 &&& Int64.toUInt64 63)).toInt64) fun x1 => lt_ (a0 &&& (((1 : Int64) <<< ((a1).toInt64 &&& 63)) - (1 : Int64))) fun x2 => lt_ ((1 : Int64) <<< ((a1 - (1 : Int32)).toInt64 &&& 63)) fun x3 => lt_ (if x3 < x2 then (1 : Int32) else if ¬ x2 = x3 then (0 : Int32) else if ¬ (x1 &&& (1 : Int64)) = (1 : Int64) then (0 : Int32) else (1 : Int32)) fun x4 => lt_ (if x4 = 0 then x1 else x1 + (1 : Int64)) fun x5 => x5
set_option maxHeartbeats 4000000 in
set_option maxRecDepth 100000 in
theorem c_Real_nearest (l : Launch) (a0 : Int64) (a1 : Int32) : Met l y_Real_nearest (.code y_Real_nearest b_Real_nearest 10 (some .long) :: BIG) ({ frames := 0, cells := 0, slots := 0, locals := 0 } : Room) (va_Pc [.long a0, .int a1] (pre0)) (pQ (.long (F_Real_nearest a0 a1))) 0 0 (fun _ => False) := by
  refine pOpen_l rfl (Nat.le_of_ble_eq_true rfl) ?_
  intro p e s m args below meth c Q ls hx hb hml hown hts hT hp hl hret
  have hNB := hp
  have hown : s.vm.findClass R_Real = some m.cls := hown
  have hl : lv_has ls 10 [(0, .long a0), (2, .int a1)] := hl
  obtain ⟨r, h⟩ : ∃ r, F_Real_nearest a0 a1 = r := ⟨_, rfl⟩
  rw [h] at hret
  have h : (lt_ (((a0).toUInt64 >>> ((a1).toInt64.toUInt64 &&& Int64.toUInt64 63)).toInt64) fun x1 => lt_ (a0 &&& (((1 : Int64) <<< ((a1).toInt64 &&& 63)) - (1 : Int64))) fun x2 => lt_ ((1 : Int64) <<< ((a1 - (1 : Int32)).toInt64 &&& 63)) fun x3 => lt_ (if x3 < x2 then (1 : Int32) else if ¬ x2 = x3 then (0 : Int32) else if ¬ (x1 &&& (1 : Int64)) = (1 : Int64) then (0 : Int32) else (1 : Int32)) fun x4 => lt_ (if x4 = 0 then x1 else x1 + (1 : Int64)) fun x5 => x5) = r := h
  refine lv_lload_n hx hb d_Real_nearest_0 rfl (lv_at hl 0 rfl) ?_
  refine lv_iload_n hx hb d_Real_nearest_1 rfl (lv_at hl 1 rfl) ?_
  refine lv_lushr hx hb d_Real_nearest_2 rfl ?_
  refine lv_topl (fun x1 e_x1 => ?_)
  have h := lt_h e_x1 h
  refine lv_lstore_n hx hb d_Real_nearest_3 rfl hl (by decide) rfl (fun ls hl => ?_)
  have hl : lv_has ls 10 [(3, .long x1), (0, .long a0), (2, .int a1)] := hl
  refine lv_lload_n hx hb d_Real_nearest_4 rfl (lv_at hl 1 rfl) ?_
  refine lv_lconst hx hb d_Real_nearest_5 lc_1 ?_
  refine lv_iload_n hx hb d_Real_nearest_6 rfl (lv_at hl 2 rfl) ?_
  refine lv_lshl hx hb d_Real_nearest_7 rfl ?_
  refine lv_lconst hx hb d_Real_nearest_8 lc_1 ?_
  refine lv_lsub hx hb d_Real_nearest_9 ?_
  refine lv_land hx hb d_Real_nearest_10 ?_
  refine lv_topl (fun x2 e_x2 => ?_)
  have h := lt_h e_x2 h
  refine lv_lstore hx hb d_Real_nearest_11 hl (by decide) rfl (fun ls hl => ?_)
  have hl : lv_has ls 10 [(5, .long x2), (3, .long x1), (0, .long a0), (2, .int a1)] := hl
  refine lv_lconst hx hb d_Real_nearest_13 lc_1 ?_
  refine lv_iload_n hx hb d_Real_nearest_14 rfl (lv_at hl 3 rfl) ?_
  refine lv_iconst hx hb d_Real_nearest_15 ic_1 ?_
  refine lv_isub hx hb d_Real_nearest_16 ?_
  refine lv_lshl hx hb d_Real_nearest_17 rfl ?_
  refine lv_topl (fun x3 e_x3 => ?_)
  have h := lt_h e_x3 h
  refine lv_lstore hx hb d_Real_nearest_18 hl (by decide) rfl (fun ls hl => ?_)
  have hl : lv_has ls 10 [(7, .long x3), (5, .long x2), (3, .long x1), (0, .long a0), (2, .int a1)] := hl
  refine lv_lload hx hb d_Real_nearest_20 (lv_at hl 1 rfl) ?_
  refine lv_lload hx hb d_Real_nearest_22 (lv_at hl 0 rfl) ?_
  refine W.lcmp hx hb d_Real_nearest_24 ?_
  obtain ⟨x4, e_x4, h⟩ := lt_o h
  have hJ49 : ∀ (x4' : Int32) (ls : Array Slot), x4 = x4' → lv_has ls 10 [(3, .long x1)] → W p l e ({ frames := 0, cells := 0, slots := 0, locals := 0 } : Room) s m args below meth c s.heap [] 0 0 Q (F0 m 49 ls [.int x4']) := by
    intro x4' ls q_x4 hl
    subst q_x4
    refine lv_istore hx hb d_Real_nearest_49 hl (by decide) rfl (fun ls hl => ?_)
    have hl : lv_has ls 10 [(9, .int x4), (3, .long x1)] := hl
    refine lv_iload hx hb d_Real_nearest_51 (lv_at hl 0 rfl) ?_
    obtain ⟨x5, e_x5, h⟩ := lt_o h
    have hJ63 : ∀ (x5' : Int64) (ls : Array Slot), x5 = x5' → lv_has ls 10 [] → W p l e ({ frames := 0, cells := 0, slots := 0, locals := 0 } : Room) s m args below meth c s.heap [] 0 0 Q (F0 m 63 ls [.long x5']) := by
      intro x5' ls q_x5 hl
      subst q_x5
      exact hret 63 ls _ h d_Real_nearest_63
    refine lv_if_eq (tgt := 62) hx hb d_Real_nearest_53 rfl (fun hc => ?_) (fun hc => ?_)
    · have e_x5 := e_x5.trans (if_pos hc)
      refine lv_lload_n hx hb d_Real_nearest_62 rfl (lv_at hl 1 rfl) ?_
      exact hJ63 _ ls e_x5 (lv_sub hl [] rfl)
    · have e_x5 := e_x5.trans (if_neg hc)
      refine lv_lload_n hx hb d_Real_nearest_56 rfl (lv_at hl 1 rfl) ?_
      refine lv_lconst hx hb d_Real_nearest_57 lc_1 ?_
      refine lv_ladd hx hb d_Real_nearest_58 ?_
      refine lv_goto (tgt := 63) hx hb d_Real_nearest_59 rfl ?_
      exact hJ63 _ ls e_x5 (lv_sub hl [] rfl)
  refine lv_if_gt (tgt := 44) hx hb d_Real_nearest_25 rfl (fun hc => ?_) (fun hc => ?_)
  · have hc := (lg_cmp_gt _ _).mp hc
    have e_x4 := e_x4.trans (if_pos hc)
    refine lv_iconst hx hb d_Real_nearest_44 ic_1 ?_
    refine lv_goto (tgt := 49) hx hb d_Real_nearest_45 rfl ?_
    exact hJ49 _ ls e_x4 (lv_sub hl [2] rfl)
  · have hc := mt (lg_cmp_gt _ _).mpr hc
    have e_x4 := e_x4.trans (if_neg hc)
    refine lv_lload hx hb d_Real_nearest_28 (lv_at hl 1 rfl) ?_
    refine lv_lload hx hb d_Real_nearest_30 (lv_at hl 0 rfl) ?_
    refine W.lcmp hx hb d_Real_nearest_32 ?_
    refine lv_if_ne (tgt := 48) hx hb d_Real_nearest_33 rfl (fun hc => ?_) (fun hc => ?_)
    · have hc := mt (lg_cmp_eq _ _).mpr hc
      have e_x4 := e_x4.trans (if_pos hc)
      refine lv_iconst hx hb d_Real_nearest_48 ic_0 ?_
      exact hJ49 _ ls e_x4 (lv_sub hl [2] rfl)
    · have hc := not_not_intro ((lg_cmp_eq _ _).mp hc)
      have e_x4 := e_x4.trans (if_neg hc)
      refine lv_lload_n hx hb d_Real_nearest_36 rfl (lv_at hl 2 rfl) ?_
      refine lv_lconst hx hb d_Real_nearest_37 lc_1 ?_
      refine lv_land hx hb d_Real_nearest_38 ?_
      refine lv_lconst hx hb d_Real_nearest_39 lc_1 ?_
      refine W.lcmp hx hb d_Real_nearest_40 ?_
      refine lv_if_ne (tgt := 48) hx hb d_Real_nearest_41 rfl (fun hc => ?_) (fun hc => ?_)
      · have hc := mt (lg_cmp_eq _ _).mpr hc
        have e_x4 := e_x4.trans (if_pos hc)
        refine lv_iconst hx hb d_Real_nearest_48 ic_0 ?_
        exact hJ49 _ ls e_x4 (lv_sub hl [2] rfl)
      · have hc := not_not_intro ((lg_cmp_eq _ _).mp hc)
        have e_x4 := e_x4.trans (if_neg hc)
        refine lv_iconst hx hb d_Real_nearest_44 ic_1 ?_
        refine lv_goto (tgt := 49) hx hb d_Real_nearest_45 rfl ?_
        exact hJ49 _ ls e_x4 (lv_sub hl [2] rfl)
-- Real_rounded
theorem d_Real_rounded_0 : decode b_Real_rounded 0 = .ok (.lload_n 3, 1) := by decide +kernel
theorem d_Real_rounded_1 : decode b_Real_rounded 1 = .ok (.lconst 0, 1) := by decide +kernel
theorem d_Real_rounded_2 : decode b_Real_rounded 2 = .ok (.lcmp, 1) := by decide +kernel
theorem d_Real_rounded_3 : decode b_Real_rounded 3 = .ok (.ifCond .ne 10, 3) := by decide +kernel
theorem d_Real_rounded_6 : decode b_Real_rounded 6 = .ok (.aload_n 0, 1) := by decide +kernel
theorem d_Real_rounded_7 : decode b_Real_rounded 7 = .ok (.iload_n 1, 1) := by decide +kernel
theorem d_Real_rounded_8 : decode b_Real_rounded 8 = .ok (.lconst 0, 1) := by decide +kernel
theorem d_Real_rounded_9 : decode b_Real_rounded 9 = .ok (.invokevirtual 76, 3) := by decide +kernel
theorem d_Real_rounded_12 : decode b_Real_rounded 12 = .ok (.lreturn, 1) := by decide +kernel
theorem d_Real_rounded_13 : decode b_Real_rounded 13 = .ok (.lload_n 3, 1) := by decide +kernel
theorem d_Real_rounded_14 : decode b_Real_rounded 14 = .ok (.invokestatic 135, 3) := by decide +kernel
theorem d_Real_rounded_17 : decode b_Real_rounded 17 = .ok (.iconst 1, 1) := by decide +kernel
theorem d_Real_rounded_18 : decode b_Real_rounded 18 = .ok (.isub, 1) := by decide +kernel
theorem d_Real_rounded_19 : decode b_Real_rounded 19 = .ok (.istore 5, 2) := by decide +kernel
theorem d_Real_rounded_21 : decode b_Real_rounded 21 = .ok (.lload_n 3, 1) := by decide +kernel
theorem d_Real_rounded_22 : decode b_Real_rounded 22 = .ok (.iload 5, 2) := by decide +kernel
theorem d_Real_rounded_24 : decode b_Real_rounded 24 = .ok (.lshl, 1) := by decide +kernel
theorem d_Real_rounded_25 : decode b_Real_rounded 25 = .ok (.lstore 6, 2) := by decide +kernel
theorem d_Real_rounded_27 : decode b_Real_rounded 27 = .ok (.bipush 62, 2) := by decide +kernel
theorem d_Real_rounded_29 : decode b_Real_rounded 29 = .ok (.aload_n 0, 1) := by decide +kernel
theorem d_Real_rounded_30 : decode b_Real_rounded 30 = .ok (.getfield 31, 3) := by decide +kernel
theorem d_Real_rounded_33 : decode b_Real_rounded 33 = .ok (.isub, 1) := by decide +kernel
theorem d_Real_rounded_34 : decode b_Real_rounded 34 = .ok (.istore 8, 2) := by decide +kernel
theorem d_Real_rounded_36 : decode b_Real_rounded 36 = .ok (.iload_n 2, 1) := by decide +kernel
theorem d_Real_rounded_37 : decode b_Real_rounded 37 = .ok (.iload 5, 2) := by decide +kernel
theorem d_Real_rounded_39 : decode b_Real_rounded 39 = .ok (.isub, 1) := by decide +kernel
theorem d_Real_rounded_40 : decode b_Real_rounded 40 = .ok (.iload 8, 2) := by decide +kernel
theorem d_Real_rounded_42 : decode b_Real_rounded 42 = .ok (.iadd, 1) := by decide +kernel
theorem d_Real_rounded_43 : decode b_Real_rounded 43 = .ok (.aload_n 0, 1) := by decide +kernel
theorem d_Real_rounded_44 : decode b_Real_rounded 44 = .ok (.getfield 38, 3) := by decide +kernel
theorem d_Real_rounded_47 : decode b_Real_rounded 47 = .ok (.isub, 1) := by decide +kernel
theorem d_Real_rounded_48 : decode b_Real_rounded 48 = .ok (.iconst 1, 1) := by decide +kernel
theorem d_Real_rounded_49 : decode b_Real_rounded 49 = .ok (.iadd, 1) := by decide +kernel
theorem d_Real_rounded_50 : decode b_Real_rounded 50 = .ok (.istore 9, 2) := by decide +kernel
theorem d_Real_rounded_52 : decode b_Real_rounded 52 = .ok (.iload 9, 2) := by decide +kernel
theorem d_Real_rounded_54 : decode b_Real_rounded 54 = .ok (.aload_n 0, 1) := by decide +kernel
theorem d_Real_rounded_55 : decode b_Real_rounded 55 = .ok (.getfield 35, 3) := by decide +kernel
theorem d_Real_rounded_58 : decode b_Real_rounded 58 = .ok (.if_icmp .lt 13, 3) := by decide +kernel
theorem d_Real_rounded_61 : decode b_Real_rounded 61 = .ok (.aload_n 0, 1) := by decide +kernel
theorem d_Real_rounded_62 : decode b_Real_rounded 62 = .ok (.iload_n 1, 1) := by decide +kernel
theorem d_Real_rounded_63 : decode b_Real_rounded 63 = .ok (.aload_n 0, 1) := by decide +kernel
theorem d_Real_rounded_64 : decode b_Real_rounded 64 = .ok (.getfield 45, 3) := by decide +kernel
theorem d_Real_rounded_67 : decode b_Real_rounded 67 = .ok (.invokevirtual 76, 3) := by decide +kernel
theorem d_Real_rounded_70 : decode b_Real_rounded 70 = .ok (.lreturn, 1) := by decide +kernel
theorem d_Real_rounded_71 : decode b_Real_rounded 71 = .ok (.iload 9, 2) := by decide +kernel
theorem d_Real_rounded_73 : decode b_Real_rounded 73 = .ok (.iconst 1, 1) := by decide +kernel
theorem d_Real_rounded_74 : decode b_Real_rounded 74 = .ok (.if_icmp .ge 13, 3) := by decide +kernel
theorem d_Real_rounded_77 : decode b_Real_rounded 77 = .ok (.iload 8, 2) := by decide +kernel
theorem d_Real_rounded_79 : decode b_Real_rounded 79 = .ok (.iconst 1, 1) := by decide +kernel
theorem d_Real_rounded_80 : decode b_Real_rounded 80 = .ok (.iadd, 1) := by decide +kernel
theorem d_Real_rounded_81 : decode b_Real_rounded 81 = .ok (.iload 9, 2) := by decide +kernel
theorem d_Real_rounded_83 : decode b_Real_rounded 83 = .ok (.isub, 1) := by decide +kernel
theorem d_Real_rounded_84 : decode b_Real_rounded 84 = .ok (.goto 5, 3) := by decide +kernel
theorem d_Real_rounded_87 : decode b_Real_rounded 87 = .ok (.iload 8, 2) := by decide +kernel
theorem d_Real_rounded_89 : decode b_Real_rounded 89 = .ok (.istore 10, 2) := by decide +kernel
theorem d_Real_rounded_91 : decode b_Real_rounded 91 = .ok (.iload 10, 2) := by decide +kernel
theorem d_Real_rounded_93 : decode b_Real_rounded 93 = .ok (.bipush 63, 2) := by decide +kernel
theorem d_Real_rounded_95 : decode b_Real_rounded 95 = .ok (.if_icmp .le 10, 3) := by decide +kernel
theorem d_Real_rounded_98 : decode b_Real_rounded 98 = .ok (.aload_n 0, 1) := by decide +kernel
theorem d_Real_rounded_99 : decode b_Real_rounded 99 = .ok (.iload_n 1, 1) := by decide +kernel
theorem d_Real_rounded_100 : decode b_Real_rounded 100 = .ok (.lconst 0, 1) := by decide +kernel
theorem d_Real_rounded_101 : decode b_Real_rounded 101 = .ok (.invokevirtual 76, 3) := by decide +kernel
theorem d_Real_rounded_104 : decode b_Real_rounded 104 = .ok (.lreturn, 1) := by decide +kernel
theorem d_Real_rounded_105 : decode b_Real_rounded 105 = .ok (.iload 9, 2) := by decide +kernel
theorem d_Real_rounded_107 : decode b_Real_rounded 107 = .ok (.iconst 1, 1) := by decide +kernel
theorem d_Real_rounded_108 : decode b_Real_rounded 108 = .ok (.invokestatic 63, 3) := by decide +kernel
theorem d_Real_rounded_111 : decode b_Real_rounded 111 = .ok (.iconst 1, 1) := by decide +kernel
theorem d_Real_rounded_112 : decode b_Real_rounded 112 = .ok (.isub, 1) := by decide +kernel
theorem d_Real_rounded_113 : decode b_Real_rounded 113 = .ok (.i2l, 1) := by decide +kernel
theorem d_Real_rounded_114 : decode b_Real_rounded 114 = .ok (.aload_n 0, 1) := by decide +kernel
theorem d_Real_rounded_115 : decode b_Real_rounded 115 = .ok (.getfield 31, 3) := by decide +kernel
theorem d_Real_rounded_118 : decode b_Real_rounded 118 = .ok (.lshl, 1) := by decide +kernel
theorem d_Real_rounded_119 : decode b_Real_rounded 119 = .ok (.lstore 11, 2) := by decide +kernel
theorem d_Real_rounded_121 : decode b_Real_rounded 121 = .ok (.aload_n 0, 1) := by decide +kernel
theorem d_Real_rounded_122 : decode b_Real_rounded 122 = .ok (.iload_n 1, 1) := by decide +kernel
theorem d_Real_rounded_123 : decode b_Real_rounded 123 = .ok (.lload 11, 2) := by decide +kernel
theorem d_Real_rounded_125 : decode b_Real_rounded 125 = .ok (.lload 6, 2) := by decide +kernel
theorem d_Real_rounded_127 : decode b_Real_rounded 127 = .ok (.iload 10, 2) := by decide +kernel
theorem d_Real_rounded_129 : decode b_Real_rounded 129 = .ok (.invokestatic 140, 3) := by decide +kernel
theorem d_Real_rounded_132 : decode b_Real_rounded 132 = .ok (.ladd, 1) := by decide +kernel
theorem d_Real_rounded_133 : decode b_Real_rounded 133 = .ok (.invokevirtual 76, 3) := by decide +kernel
theorem d_Real_rounded_136 : decode b_Real_rounded 136 = .ok (.lreturn, 1) := by decide +kernel
def F_Real_rounded (n : Nat) (K0 : rK) (a1 : Int32) (a2 : Int32) (a3 : Int64) : Option (Int64) := if ¬ a3 = (0 : Int64) then ((F_PB_leadingZeros n a3).bind fun x1 => lt_ (x1 - (1 : Int32)) fun x2 => lt_ (a3 <<< ((x2).toInt64 &&& 63)) fun x3 => lt_ ((62 : Int32) - K0.1) fun x4 => lt_ ((((a2 - x2) + x4) - K0.2.2.1) + (1 : Int32)) fun x5 => if x5 < K0.2.1 then (lt_ (if (1 : Int32) ≤ x5 then x4 else (x4 + (1 : Int32)) - x5) fun x6 => if x6 ≤ (63 : Int32) then (lt_ ((((if x5 < (1 : Int32) then (1 : Int32) else x5) - (1 : Int32)).toInt64) <<< ((K0.1).toInt64 &&& 63)) fun x7 => some (F_Real_signed K0 a1 (x7 + (F_Real_nearest x3 x6)))) else (some (F_Real_signed K0 a1 (0 : Int64)))) else (some (F_Real_signed K0 a1 K0.2.2.2.2))) else (some (F_Real_signed K0 a1 (0 : Int64)))
set_option maxHeartbeats 4000000 in
set_option maxRecDepth 100000 in
theorem c_Real_rounded (l : Launch) (o0 : Nat) (n : Nat) (K0 : rK) (a1 : Int32) (a2 : Int32) (a3 : Int64) (r : Int64) (h : F_Real_rounded n K0 a1 a2 a3 = some r) : Met l y_Real_rounded (.code y_Real_rounded b_Real_rounded 13 (some .long) :: BIG) ({ frames := 1, cells := 0, slots := 0, locals := 29 } : Room) (va_Pc [.ref o0, .int a1, .int a2, .long a3] (pre1 o0 K0)) (pQ (.long r)) 0 0 (fun _ => False) := by
  refine pOpen_l rfl (Nat.le_of_ble_eq_true rfl) ?_
  intro p e s m args below meth c Q ls hx hb hml hown hts hT hp hl hret
  obtain ⟨hNB, hRe_o0⟩ := hp
  have hown : s.vm.findClass R_Real = some m.cls := hown
  have hl : lv_has ls 13 [(0, .ref o0), (1, .int a1), (2, .int a2), (3, .long a3)] := hl
  have h : (if ¬ a3 = (0 : Int64) then ((F_PB_leadingZeros n a3).bind fun x1 => lt_ (x1 - (1 : Int32)) fun x2 => lt_ (a3 <<< ((x2).toInt64 &&& 63)) fun x3 => lt_ ((62 : Int32) - K0.1) fun x4 => lt_ ((((a2 - x2) + x4) - K0.2.2.1) + (1 : Int32)) fun x5 => if x5 < K0.2.1 then (lt_ (if (1 : Int32) ≤ x5 then x4 else (x4 + (1 : Int32)) - x5) fun x6 => if x6 ≤ (63 : Int32) then (lt_ ((((if x5 < (1 : Int32) then (1 : Int32) else x5) - (1 : Int32)).toInt64) <<< ((K0.1).toInt64 &&& 63)) fun x7 => some (F_Real_signed K0 a1 (x7 + (F_Real_nearest x3 x6)))) else (some (F_Real_signed K0 a1 (0 : Int64)))) else (some (F_Real_signed K0 a1 K0.2.2.2.2))) else (some (F_Real_signed K0 a1 (0 : Int64)))) = some r := h
  refine lv_lload_n hx hb d_Real_rounded_0 rfl (lv_at hl 3 rfl) ?_
  refine lv_lconst hx hb d_Real_rounded_1 lc_0 ?_
  refine W.lcmp hx hb d_Real_rounded_2 ?_
  refine lv_if_ne (tgt := 13) hx hb d_Real_rounded_3 rfl (fun hc => ?_) (fun hc => ?_)
  · have hc := mt (lg_cmp_eq _ _).mpr hc
    have h := ite_t hc h
    refine lv_lload_n hx hb d_Real_rounded_13 rfl (lv_at hl 3 rfl) ?_
    obtain ⟨x1, e_x1, h⟩ := bd_o h
    refine q_SN (As := [.long a3]) (rest := []) (n := 1) hx hb hml hown hts (c_PB_leadingZeros l n a3 _ e_x1) rfl rfl m_49 (hNB_Real hNB) m_50 m_3 (by decide +kernel) ⟨Nat.le_of_ble_eq_true rfl, Nat.le_of_ble_eq_true rfl⟩ (p0_bl) (fun U hU hW => p0_mv hU hW hNB) rfl hl.1 rfl (Nat.le_of_ble_eq_true rfl) d_Real_rounded_14 ⟨Nat.zero_le _, Nat.zero_le _⟩ ?_
    refine lv_iconst hx hb d_Real_rounded_17 ic_1 ?_
    refine lv_isub hx hb d_Real_rounded_18 ?_
    refine lv_topi (fun x2 e_x2 => ?_)
    have h := lt_h e_x2 h
    refine lv_istore hx hb d_Real_rounded_19 hl (by decide) rfl (fun ls hl => ?_)
    have hl : lv_has ls 13 [(5, .int x2), (0, .ref o0), (1, .int a1), (2, .int a2), (3, .long a3)] := hl
    refine lv_lload_n hx hb d_Real_rounded_21 rfl (lv_at hl 4 rfl) ?_
    refine lv_iload hx hb d_Real_rounded_22 (lv_at hl 0 rfl) ?_
    refine lv_lshl hx hb d_Real_rounded_24 rfl ?_
    refine lv_topl (fun x3 e_x3 => ?_)
    have h := lt_h e_x3 h
    refine lv_lstore hx hb d_Real_rounded_25 hl (by decide) rfl (fun ls hl => ?_)
    have hl : lv_has ls 13 [(6, .long x3), (5, .int x2), (0, .ref o0), (1, .int a1), (2, .int a2), (3, .long a3)] := hl
    refine lv_bipush hx hb d_Real_rounded_27 bp_62 ?_
    refine lv_aload_n hx hb d_Real_rounded_29 rfl (lv_at hl 2 rfl) ?_
    refine vk_getf hx hb (hRe_o0.2.1) va_S.rf hown (hT _ m_5) (fun _ h9 => h9) d_Real_rounded_30 ?_
    refine lv_isub hx hb d_Real_rounded_33 ?_
    refine lv_topi (fun x4 e_x4 => ?_)
    have h := lt_h e_x4 h
    refine lv_istore hx hb d_Real_rounded_34 hl (by decide) rfl (fun ls hl => ?_)
    have hl : lv_has ls 13 [(8, .int x4), (6, .long x3), (5, .int x2), (0, .ref o0), (1, .int a1), (2, .int a2), (3, .long a3)] := hl
    refine lv_iload_n hx hb d_Real_rounded_36 rfl (lv_at hl 5 rfl) ?_
    refine lv_iload hx hb d_Real_rounded_37 (lv_at hl 2 rfl) ?_
    refine lv_isub hx hb d_Real_rounded_39 ?_
    refine lv_iload hx hb d_Real_rounded_40 (lv_at hl 0 rfl) ?_
    refine lv_iadd hx hb d_Real_rounded_42 ?_
    refine lv_aload_n hx hb d_Real_rounded_43 rfl (lv_at hl 3 rfl) ?_
    refine vk_getf hx hb (hRe_o0.2.2.2.1) va_S.rf hown (hT _ m_25) (fun _ h9 => h9) d_Real_rounded_44 ?_
    refine lv_isub hx hb d_Real_rounded_47 ?_
    refine lv_iconst hx hb d_Real_rounded_48 ic_1 ?_
    refine lv_iadd hx hb d_Real_rounded_49 ?_
    refine lv_topi (fun x5 e_x5 => ?_)
    have h := lt_h e_x5 h
    refine lv_istore hx hb d_Real_rounded_50 hl (by decide) rfl (fun ls hl => ?_)
    have hl : lv_has ls 13 [(9, .int x5), (8, .int x4), (6, .long x3), (5, .int x2), (0, .ref o0), (1, .int a1), (2, .int a2), (3, .long a3)] := hl
    refine lv_iload hx hb d_Real_rounded_52 (lv_at hl 0 rfl) ?_
    refine lv_aload_n hx hb d_Real_rounded_54 rfl (lv_at hl 4 rfl) ?_
    refine vk_getf hx hb (hRe_o0.2.2.1) va_S.rf hown (hT _ m_16) (fun _ h9 => h9) d_Real_rounded_55 ?_
    refine lv_icmp_lt (tgt := 71) hx hb d_Real_rounded_58 rfl (fun hc => ?_) (fun hc => ?_)
    · have h := ite_t hc h
      refine lv_iload hx hb d_Real_rounded_71 (lv_at hl 0 rfl) ?_
      refine lv_iconst hx hb d_Real_rounded_73 ic_1 ?_
      obtain ⟨x6, e_x6, h⟩ := lt_o h
      have hJ89 : ∀ (x6' : Int32) (ls : Array Slot), x6 = x6' → lv_has ls 13 [(0, .ref o0), (1, .int a1), (6, .long x3), (9, .int x5)] → W p l e ({ frames := 1, cells := 0, slots := 0, locals := 29 } : Room) s m args below meth c s.heap [] 0 0 Q (F0 m 89 ls [.int x6']) := by
        intro x6' ls q_x6 hl
        subst q_x6
        refine lv_istore hx hb d_Real_rounded_89 hl (by decide) rfl (fun ls hl => ?_)
        have hl : lv_has ls 13 [(10, .int x6), (0, .ref o0), (1, .int a1), (6, .long x3), (9, .int x5)] := hl
        refine lv_iload hx hb d_Real_rounded_91 (lv_at hl 0 rfl) ?_
        refine lv_bipush hx hb d_Real_rounded_93 bp_63 ?_
        refine lv_icmp_le (tgt := 105) hx hb d_Real_rounded_95 rfl (fun hc => ?_) (fun hc => ?_)
        · have h := ite_t hc h
          refine lv_iload hx hb d_Real_rounded_105 (lv_at hl 4 rfl) ?_
          refine lv_iconst hx hb d_Real_rounded_107 ic_1 ?_
          refine va_mmax hx hb (hml.trans hl.1.symm) hown (hT _ m_26) (hT _ m_27) (hT _ m_28) (hT _ m_29) (Nat.le_of_ble_eq_true rfl) (Nat.le_of_ble_eq_true rfl) (Nat.zero_le _) (Nat.zero_le _) d_Real_rounded_108 ?_
          refine lv_iconst hx hb d_Real_rounded_111 ic_1 ?_
          refine lv_isub hx hb d_Real_rounded_112 ?_
          refine lv_i2l hx hb d_Real_rounded_113 rfl ?_
          refine lv_aload_n hx hb d_Real_rounded_114 rfl (lv_at hl 1 rfl) ?_
          refine vk_getf hx hb (hRe_o0.2.1) va_S.rf hown (hT _ m_5) (fun _ h9 => h9) d_Real_rounded_115 ?_
          refine lv_lshl hx hb d_Real_rounded_118 rfl ?_
          refine lv_topl (fun x7 e_x7 => ?_)
          have h := lt_h e_x7 h
          refine lv_lstore hx hb d_Real_rounded_119 hl (by decide) rfl (fun ls hl => ?_)
          have hl : lv_has ls 13 [(11, .long x7), (10, .int x6), (0, .ref o0), (1, .int a1), (6, .long x3), (9, .int x5)] := hl
          refine lv_aload_n hx hb d_Real_rounded_121 rfl (lv_at hl 2 rfl) ?_
          refine lv_iload_n hx hb d_Real_rounded_122 rfl (lv_at hl 3 rfl) ?_
          refine lv_lload hx hb d_Real_rounded_123 (lv_at hl 0 rfl) ?_
          refine lv_lload hx hb d_Real_rounded_125 (lv_at hl 4 rfl) ?_
          refine lv_iload hx hb d_Real_rounded_127 (lv_at hl 1 rfl) ?_
          refine q_S (As := [.long x3, .int x6]) (rest := [.long x7, .int a1, .ref o0]) (n := 2) hx hb hml hown hts (c_Real_nearest l x3 x6) rfl rfl m_51 m_52 m_53 m_11 (by decide +kernel) ⟨Nat.le_of_ble_eq_true rfl, Nat.le_of_ble_eq_true rfl⟩ (p0_bl) (fun U hU hW => p0_mv hU hW hNB) rfl hl.1 rfl (Nat.le_of_ble_eq_true rfl) d_Real_rounded_129 ⟨Nat.zero_le _, Nat.zero_le _⟩ ?_
          refine lv_ladd hx hb d_Real_rounded_132 ?_
          refine q_V (As := [.int a1, .long (x7 + (F_Real_nearest x3 x6))]) (rest := []) (n := 2) hx hb hml hown hts (c_Real_signed l o0 K0 a1 (x7 + (F_Real_nearest x3 x6))) rfl rfl m_34 m_35 m_36 m_37 m_11 (by decide +kernel) ⟨Nat.le_of_ble_eq_true rfl, Nat.le_of_ble_eq_true rfl⟩ (rAt_rc hRe_o0) (p1_bl) (fun U hU hW => p1_mv hU hW hNB hRe_o0) rfl hl.1 rfl (Nat.le_of_ble_eq_true rfl) d_Real_rounded_133 ⟨Nat.zero_le _, Nat.zero_le _⟩ ?_
          exact hret 136 ls _ (Option.some.inj h) d_Real_rounded_136
        · have h := ite_f hc h
          refine lv_aload_n hx hb d_Real_rounded_98 rfl (lv_at hl 1 rfl) ?_
          refine lv_iload_n hx hb d_Real_rounded_99 rfl (lv_at hl 2 rfl) ?_
          refine lv_lconst hx hb d_Real_rounded_100 lc_0 ?_
          refine q_V (As := [.int a1, .long (0 : Int64)]) (rest := []) (n := 2) hx hb hml hown hts (c_Real_signed l o0 K0 a1 (0 : Int64)) rfl rfl m_34 m_35 m_36 m_37 m_11 (by decide +kernel) ⟨Nat.le_of_ble_eq_true rfl, Nat.le_of_ble_eq_true rfl⟩ (rAt_rc hRe_o0) (p1_bl) (fun U hU hW => p1_mv hU hW hNB hRe_o0) rfl hl.1 rfl (Nat.le_of_ble_eq_true rfl) d_Real_rounded_101 ⟨Nat.zero_le _, Nat.zero_le _⟩ ?_
          exact hret 104 ls _ (Option.some.inj h) d_Real_rounded_104
      refine lv_icmp_ge (tgt := 87) hx hb d_Real_rounded_74 rfl (fun hc => ?_) (fun hc => ?_)
      · have e_x6 := e_x6.trans (if_pos hc)
        refine lv_iload hx hb d_Real_rounded_87 (lv_at hl 1 rfl) ?_
        exact hJ89 _ ls e_x6 (lv_sub hl [4, 5, 2, 0] rfl)
      · have e_x6 := e_x6.trans (if_neg hc)
        refine lv_iload hx hb d_Real_rounded_77 (lv_at hl 1 rfl) ?_
        refine lv_iconst hx hb d_Real_rounded_79 ic_1 ?_
        refine lv_iadd hx hb d_Real_rounded_80 ?_
        refine lv_iload hx hb d_Real_rounded_81 (lv_at hl 0 rfl) ?_
        refine lv_isub hx hb d_Real_rounded_83 ?_
        refine lv_goto (tgt := 89) hx hb d_Real_rounded_84 rfl ?_
        exact hJ89 _ ls e_x6 (lv_sub hl [4, 5, 2, 0] rfl)
    · have h := ite_f hc h
      refine lv_aload_n hx hb d_Real_rounded_61 rfl (lv_at hl 4 rfl) ?_
      refine lv_iload_n hx hb d_Real_rounded_62 rfl (lv_at hl 5 rfl) ?_
      refine lv_aload_n hx hb d_Real_rounded_63 rfl (lv_at hl 4 rfl) ?_
      refine vk_getf hx hb (hRe_o0.2.2.2.2.2) va_S.rf hown (hT _ m_4) (fun _ h9 => h9) d_Real_rounded_64 ?_
      refine q_V (As := [.int a1, .long K0.2.2.2.2]) (rest := []) (n := 2) hx hb hml hown hts (c_Real_signed l o0 K0 a1 K0.2.2.2.2) rfl rfl m_34 m_35 m_36 m_37 m_11 (by decide +kernel) ⟨Nat.le_of_ble_eq_true rfl, Nat.le_of_ble_eq_true rfl⟩ (rAt_rc hRe_o0) (p1_bl) (fun U hU hW => p1_mv hU hW hNB hRe_o0) rfl hl.1 rfl (Nat.le_of_ble_eq_true rfl) d_Real_rounded_67 ⟨Nat.zero_le _, Nat.zero_le _⟩ ?_
      exact hret 70 ls _ (Option.some.inj h) d_Real_rounded_70
  · have hc := not_not_intro ((lg_cmp_eq _ _).mp hc)
    have h := ite_f hc h
    refine lv_aload_n hx hb d_Real_rounded_6 rfl (lv_at hl 0 rfl) ?_
    refine lv_iload_n hx hb d_Real_rounded_7 rfl (lv_at hl 1 rfl) ?_
    refine lv_lconst hx hb d_Real_rounded_8 lc_0 ?_
    refine q_V (As := [.int a1, .long (0 : Int64)]) (rest := []) (n := 2) hx hb hml hown hts (c_Real_signed l o0 K0 a1 (0 : Int64)) rfl rfl m_34 m_35 m_36 m_37 m_11 (by decide +kernel) ⟨Nat.le_of_ble_eq_true rfl, Nat.le_of_ble_eq_true rfl⟩ (rAt_rc hRe_o0) (p1_bl) (fun U hU hW => p1_mv hU hW hNB hRe_o0) rfl hl.1 rfl (Nat.le_of_ble_eq_true rfl) d_Real_rounded_9 ⟨Nat.zero_le _, Nat.zero_le _⟩ ?_
    exact hret 12 ls _ (Option.some.inj h) d_Real_rounded_12
-- Real_orderedSum
theorem d_Real_orderedSum_0 : decode b_Real_orderedSum 0 = .ok (.aload_n 0, 1) := by decide +kernel
theorem d_Real_orderedSum_1 : decode b_Real_orderedSum 1 = .ok (.lload_n 1, 1) := by decide +kernel
theorem d_Real_orderedSum_2 : decode b_Real_orderedSum 2 = .ok (.invokevirtual 52, 3) := by decide +kernel
theorem d_Real_orderedSum_5 : decode b_Real_orderedSum 5 = .ok (.aload_n 0, 1) := by decide +kernel
theorem d_Real_orderedSum_6 : decode b_Real_orderedSum 6 = .ok (.lload_n 3, 1) := by decide +kernel
theorem d_Real_orderedSum_7 : decode b_Real_orderedSum 7 = .ok (.invokevirtual 52, 3) := by decide +kernel
theorem d_Real_orderedSum_10 : decode b_Real_orderedSum 10 = .ok (.if_icmp .ne 7, 3) := by decide +kernel
theorem d_Real_orderedSum_13 : decode b_Real_orderedSum 13 = .ok (.iconst 1, 1) := by decide +kernel
theorem d_Real_orderedSum_14 : decode b_Real_orderedSum 14 = .ok (.goto 4, 3) := by decide +kernel
theorem d_Real_orderedSum_17 : decode b_Real_orderedSum 17 = .ok (.iconst 0, 1) := by decide +kernel
theorem d_Real_orderedSum_18 : decode b_Real_orderedSum 18 = .ok (.istore 5, 2) := by decide +kernel
theorem d_Real_orderedSum_20 : decode b_Real_orderedSum 20 = .ok (.aload_n 0, 1) := by decide +kernel
theorem d_Real_orderedSum_21 : decode b_Real_orderedSum 21 = .ok (.lload_n 1, 1) := by decide +kernel
theorem d_Real_orderedSum_22 : decode b_Real_orderedSum 22 = .ok (.invokevirtual 113, 3) := by decide +kernel
theorem d_Real_orderedSum_25 : decode b_Real_orderedSum 25 = .ok (.bipush 9, 2) := by decide +kernel
theorem d_Real_orderedSum_27 : decode b_Real_orderedSum 27 = .ok (.lshl, 1) := by decide +kernel
theorem d_Real_orderedSum_28 : decode b_Real_orderedSum 28 = .ok (.lstore 6, 2) := by decide +kernel
theorem d_Real_orderedSum_30 : decode b_Real_orderedSum 30 = .ok (.aload_n 0, 1) := by decide +kernel
theorem d_Real_orderedSum_31 : decode b_Real_orderedSum 31 = .ok (.lload_n 3, 1) := by decide +kernel
theorem d_Real_orderedSum_32 : decode b_Real_orderedSum 32 = .ok (.invokevirtual 113, 3) := by decide +kernel
theorem d_Real_orderedSum_35 : decode b_Real_orderedSum 35 = .ok (.bipush 9, 2) := by decide +kernel
theorem d_Real_orderedSum_37 : decode b_Real_orderedSum 37 = .ok (.lshl, 1) := by decide +kernel
theorem d_Real_orderedSum_38 : decode b_Real_orderedSum 38 = .ok (.aload_n 0, 1) := by decide +kernel
theorem d_Real_orderedSum_39 : decode b_Real_orderedSum 39 = .ok (.lload_n 1, 1) := by decide +kernel
theorem d_Real_orderedSum_40 : decode b_Real_orderedSum 40 = .ok (.invokevirtual 116, 3) := by decide +kernel
theorem d_Real_orderedSum_43 : decode b_Real_orderedSum 43 = .ok (.aload_n 0, 1) := by decide +kernel
theorem d_Real_orderedSum_44 : decode b_Real_orderedSum 44 = .ok (.lload_n 3, 1) := by decide +kernel
theorem d_Real_orderedSum_45 : decode b_Real_orderedSum 45 = .ok (.invokevirtual 116, 3) := by decide +kernel
theorem d_Real_orderedSum_48 : decode b_Real_orderedSum 48 = .ok (.isub, 1) := by decide +kernel
theorem d_Real_orderedSum_49 : decode b_Real_orderedSum 49 = .ok (.invokestatic 128, 3) := by decide +kernel
theorem d_Real_orderedSum_52 : decode b_Real_orderedSum 52 = .ok (.lstore 8, 2) := by decide +kernel
theorem d_Real_orderedSum_54 : decode b_Real_orderedSum 54 = .ok (.iload 5, 2) := by decide +kernel
theorem d_Real_orderedSum_56 : decode b_Real_orderedSum 56 = .ok (.ifCond .eq 11, 3) := by decide +kernel
theorem d_Real_orderedSum_59 : decode b_Real_orderedSum 59 = .ok (.lload 6, 2) := by decide +kernel
theorem d_Real_orderedSum_61 : decode b_Real_orderedSum 61 = .ok (.lload 8, 2) := by decide +kernel
theorem d_Real_orderedSum_63 : decode b_Real_orderedSum 63 = .ok (.ladd, 1) := by decide +kernel
theorem d_Real_orderedSum_64 : decode b_Real_orderedSum 64 = .ok (.goto 8, 3) := by decide +kernel
theorem d_Real_orderedSum_67 : decode b_Real_orderedSum 67 = .ok (.lload 6, 2) := by decide +kernel
theorem d_Real_orderedSum_69 : decode b_Real_orderedSum 69 = .ok (.lload 8, 2) := by decide +kernel
theorem d_Real_orderedSum_71 : decode b_Real_orderedSum 71 = .ok (.lsub, 1) := by decide +kernel
theorem d_Real_orderedSum_72 : decode b_Real_orderedSum 72 = .ok (.lstore 10, 2) := by decide +kernel
theorem d_Real_orderedSum_74 : decode b_Real_orderedSum 74 = .ok (.aload_n 0, 1) := by decide +kernel
theorem d_Real_orderedSum_75 : decode b_Real_orderedSum 75 = .ok (.lload_n 1, 1) := by decide +kernel
theorem d_Real_orderedSum_76 : decode b_Real_orderedSum 76 = .ok (.invokevirtual 52, 3) := by decide +kernel
theorem d_Real_orderedSum_79 : decode b_Real_orderedSum 79 = .ok (.ifCond .eq 19, 3) := by decide +kernel
theorem d_Real_orderedSum_82 : decode b_Real_orderedSum 82 = .ok (.iload 5, 2) := by decide +kernel
theorem d_Real_orderedSum_84 : decode b_Real_orderedSum 84 = .ok (.ifCond .ne 10, 3) := by decide +kernel
theorem d_Real_orderedSum_87 : decode b_Real_orderedSum 87 = .ok (.lload 10, 2) := by decide +kernel
theorem d_Real_orderedSum_89 : decode b_Real_orderedSum 89 = .ok (.lconst 0, 1) := by decide +kernel
theorem d_Real_orderedSum_90 : decode b_Real_orderedSum 90 = .ok (.lcmp, 1) := by decide +kernel
theorem d_Real_orderedSum_91 : decode b_Real_orderedSum 91 = .ok (.ifCond .eq 7, 3) := by decide +kernel
theorem d_Real_orderedSum_94 : decode b_Real_orderedSum 94 = .ok (.iconst 1, 1) := by decide +kernel
theorem d_Real_orderedSum_95 : decode b_Real_orderedSum 95 = .ok (.goto 4, 3) := by decide +kernel
theorem d_Real_orderedSum_98 : decode b_Real_orderedSum 98 = .ok (.iconst 0, 1) := by decide +kernel
theorem d_Real_orderedSum_99 : decode b_Real_orderedSum 99 = .ok (.istore 12, 2) := by decide +kernel
theorem d_Real_orderedSum_101 : decode b_Real_orderedSum 101 = .ok (.aload_n 0, 1) := by decide +kernel
theorem d_Real_orderedSum_102 : decode b_Real_orderedSum 102 = .ok (.iload 12, 2) := by decide +kernel
theorem d_Real_orderedSum_104 : decode b_Real_orderedSum 104 = .ok (.aload_n 0, 1) := by decide +kernel
theorem d_Real_orderedSum_105 : decode b_Real_orderedSum 105 = .ok (.lload_n 1, 1) := by decide +kernel
theorem d_Real_orderedSum_106 : decode b_Real_orderedSum 106 = .ok (.invokevirtual 116, 3) := by decide +kernel
theorem d_Real_orderedSum_109 : decode b_Real_orderedSum 109 = .ok (.bipush 9, 2) := by decide +kernel
theorem d_Real_orderedSum_111 : decode b_Real_orderedSum 111 = .ok (.isub, 1) := by decide +kernel
theorem d_Real_orderedSum_112 : decode b_Real_orderedSum 112 = .ok (.lload 10, 2) := by decide +kernel
theorem d_Real_orderedSum_114 : decode b_Real_orderedSum 114 = .ok (.invokevirtual 106, 3) := by decide +kernel
theorem d_Real_orderedSum_117 : decode b_Real_orderedSum 117 = .ok (.lreturn, 1) := by decide +kernel
def F_Real_orderedSum (n : Nat) (K0 : rK) (a1 : Int64) (a2 : Int64) : Option (Int64) := lt_ (if ¬ (F_Real_isNegative K0 a1) = (F_Real_isNegative K0 a2) then (0 : Int32) else (1 : Int32)) fun x1 => lt_ ((F_Real_significand K0 a1) <<< (((9 : Int32)).toInt64 &&& 63)) fun x2 => lt_ (F_Real_shiftedDown ((F_Real_significand K0 a2) <<< (((9 : Int32)).toInt64 &&& 63)) ((F_Real_power K0 a1) - (F_Real_power K0 a2))) fun x3 => lt_ (if x1 = 0 then x2 - x3 else x2 + x3) fun x4 => lt_ (if (F_Real_isNegative K0 a1) = 0 then (0 : Int32) else if ¬ x1 = 0 then (1 : Int32) else if x4 = (0 : Int64) then (0 : Int32) else (1 : Int32)) fun x5 => (F_Real_rounded n K0 x5 ((F_Real_power K0 a1) - (9 : Int32)) x4).bind fun x6 => some x6
set_option maxHeartbeats 4000000 in
set_option maxRecDepth 100000 in
theorem c_Real_orderedSum (l : Launch) (o0 : Nat) (n : Nat) (K0 : rK) (a1 : Int64) (a2 : Int64) (r : Int64) (h : F_Real_orderedSum n K0 a1 a2 = some r) : Met l y_Real_orderedSum (.code y_Real_orderedSum b_Real_orderedSum 13 (some .long) :: BIG) ({ frames := 2, cells := 0, slots := 0, locals := 61 } : Room) (va_Pc [.ref o0, .long a1, .long a2] (pre1 o0 K0)) (pQ (.long r)) 0 0 (fun _ => False) := by
  refine pOpen_l rfl (Nat.le_of_ble_eq_true rfl) ?_
  intro p e s m args below meth c Q ls hx hb hml hown hts hT hp hl hret
  obtain ⟨hNB, hRe_o0⟩ := hp
  have hown : s.vm.findClass R_Real = some m.cls := hown
  have hl : lv_has ls 13 [(0, .ref o0), (1, .long a1), (3, .long a2)] := hl
  have h : (lt_ (if ¬ (F_Real_isNegative K0 a1) = (F_Real_isNegative K0 a2) then (0 : Int32) else (1 : Int32)) fun x1 => lt_ ((F_Real_significand K0 a1) <<< (((9 : Int32)).toInt64 &&& 63)) fun x2 => lt_ (F_Real_shiftedDown ((F_Real_significand K0 a2) <<< (((9 : Int32)).toInt64 &&& 63)) ((F_Real_power K0 a1) - (F_Real_power K0 a2))) fun x3 => lt_ (if x1 = 0 then x2 - x3 else x2 + x3) fun x4 => lt_ (if (F_Real_isNegative K0 a1) = 0 then (0 : Int32) else if ¬ x1 = 0 then (1 : Int32) else if x4 = (0 : Int64) then (0 : Int32) else (1 : Int32)) fun x5 => (F_Real_rounded n K0 x5 ((F_Real_power K0 a1) - (9 : Int32)) x4).bind fun x6 => some x6) = some r := h
  refine lv_aload_n hx hb d_Real_orderedSum_0 rfl (lv_at hl 0 rfl) ?_
  refine lv_lload_n hx hb d_Real_orderedSum_1 rfl (lv_at hl 1 rfl) ?_
  refine q_V (As := [.long a1]) (rest := []) (n := 1) hx hb hml hown hts (c_Real_isNegative l o0 K0 a1) rfl rfl m_12 m_13 m_14 m_15 m_11 (by decide +kernel) ⟨Nat.le_of_ble_eq_true rfl, Nat.le_of_ble_eq_true rfl⟩ (rAt_rc hRe_o0) (p1_bl) (fun U hU hW => p1_mv hU hW hNB hRe_o0) rfl hl.1 rfl (Nat.le_of_ble_eq_true rfl) d_Real_orderedSum_2 ⟨Nat.zero_le _, Nat.zero_le _⟩ ?_
  refine lv_aload_n hx hb d_Real_orderedSum_5 rfl (lv_at hl 0 rfl) ?_
  refine lv_lload_n hx hb d_Real_orderedSum_6 rfl (lv_at hl 2 rfl) ?_
  refine q_V (As := [.long a2]) (rest := [.int (F_Real_isNegative K0 a1)]) (n := 1) hx hb hml hown hts (c_Real_isNegative l o0 K0 a2) rfl rfl m_12 m_13 m_14 m_15 m_11 (by decide +kernel) ⟨Nat.le_of_ble_eq_true rfl, Nat.le_of_ble_eq_true rfl⟩ (rAt_rc hRe_o0) (p1_bl) (fun U hU hW => p1_mv hU hW hNB hRe_o0) rfl hl.1 rfl (Nat.le_of_ble_eq_true rfl) d_Real_orderedSum_7 ⟨Nat.zero_le _, Nat.zero_le _⟩ ?_
  obtain ⟨x1, e_x1, h⟩ := lt_o h
  have hJ18 : ∀ (x1' : Int32) (ls : Array Slot), x1 = x1' → lv_has ls 13 [(0, .ref o0), (1, .long a1), (3, .long a2)] → W p l e ({ frames := 2, cells := 0, slots := 0, locals := 61 } : Room) s m args below meth c s.heap [] 0 0 Q (F0 m 18 ls [.int x1']) := by
    intro x1' ls q_x1 hl
    subst q_x1
    refine lv_istore hx hb d_Real_orderedSum_18 hl (by decide) rfl (fun ls hl => ?_)
    have hl : lv_has ls 13 [(5, .int x1), (0, .ref o0), (1, .long a1), (3, .long a2)] := hl
    refine lv_aload_n hx hb d_Real_orderedSum_20 rfl (lv_at hl 1 rfl) ?_
    refine lv_lload_n hx hb d_Real_orderedSum_21 rfl (lv_at hl 2 rfl) ?_
    refine q_V (As := [.long a1]) (rest := []) (n := 1) hx hb hml hown hts (c_Real_significand l o0 K0 a1) rfl rfl m_54 m_55 m_56 m_57 m_11 (by decide +kernel) ⟨Nat.le_of_ble_eq_true rfl, Nat.le_of_ble_eq_true rfl⟩ (rAt_rc hRe_o0) (p1_bl) (fun U hU hW => p1_mv hU hW hNB hRe_o0) rfl hl.1 rfl (Nat.le_of_ble_eq_true rfl) d_Real_orderedSum_22 ⟨Nat.zero_le _, Nat.zero_le _⟩ ?_
    refine lv_bipush hx hb d_Real_orderedSum_25 bp_9 ?_
    refine lv_lshl hx hb d_Real_orderedSum_27 rfl ?_
    refine lv_topl (fun x2 e_x2 => ?_)
    have h := lt_h e_x2 h
    refine lv_lstore hx hb d_Real_orderedSum_28 hl (by decide) rfl (fun ls hl => ?_)
    have hl : lv_has ls 13 [(6, .long x2), (5, .int x1), (0, .ref o0), (1, .long a1), (3, .long a2)] := hl
    refine lv_aload_n hx hb d_Real_orderedSum_30 rfl (lv_at hl 2 rfl) ?_
    refine lv_lload_n hx hb d_Real_orderedSum_31 rfl (lv_at hl 4 rfl) ?_
    refine q_V (As := [.long a2]) (rest := []) (n := 1) hx hb hml hown hts (c_Real_significand l o0 K0 a2) rfl rfl m_54 m_55 m_56 m_57 m_11 (by decide +kernel) ⟨Nat.le_of_ble_eq_true rfl, Nat.le_of_ble_eq_true rfl⟩ (rAt_rc hRe_o0) (p1_bl) (fun U hU hW => p1_mv hU hW hNB hRe_o0) rfl hl.1 rfl (Nat.le_of_ble_eq_true rfl) d_Real_orderedSum_32 ⟨Nat.zero_le _, Nat.zero_le _⟩ ?_
    refine lv_bipush hx hb d_Real_orderedSum_35 bp_9 ?_
    refine lv_lshl hx hb d_Real_orderedSum_37 rfl ?_
    refine lv_aload_n hx hb d_Real_orderedSum_38 rfl (lv_at hl 2 rfl) ?_
    refine lv_lload_n hx hb d_Real_orderedSum_39 rfl (lv_at hl 3 rfl) ?_
    refine q_V (As := [.long a1]) (rest := [.long ((F_Real_significand K0 a2) <<< (((9 : Int32)).toInt64 &&& 63))]) (n := 1) hx hb hml hown hts (c_Real_power l o0 K0 a1) rfl rfl m_58 m_59 m_60 m_61 m_11 (by decide +kernel) ⟨Nat.le_of_ble_eq_true rfl, Nat.le_of_ble_eq_true rfl⟩ (rAt_rc hRe_o0) (p1_bl) (fun U hU hW => p1_mv hU hW hNB hRe_o0) rfl hl.1 rfl (Nat.le_of_ble_eq_true rfl) d_Real_orderedSum_40 ⟨Nat.zero_le _, Nat.zero_le _⟩ ?_
    refine lv_aload_n hx hb d_Real_orderedSum_43 rfl (lv_at hl 2 rfl) ?_
    refine lv_lload_n hx hb d_Real_orderedSum_44 rfl (lv_at hl 4 rfl) ?_
    refine q_V (As := [.long a2]) (rest := [.int (F_Real_power K0 a1), .long ((F_Real_significand K0 a2) <<< (((9 : Int32)).toInt64 &&& 63))]) (n := 1) hx hb hml hown hts (c_Real_power l o0 K0 a2) rfl rfl m_58 m_59 m_60 m_61 m_11 (by decide +kernel) ⟨Nat.le_of_ble_eq_true rfl, Nat.le_of_ble_eq_true rfl⟩ (rAt_rc hRe_o0) (p1_bl) (fun U hU hW => p1_mv hU hW hNB hRe_o0) rfl hl.1 rfl (Nat.le_of_ble_eq_true rfl) d_Real_orderedSum_45 ⟨Nat.zero_le _, Nat.zero_le _⟩ ?_
    refine lv_isub hx hb d_Real_orderedSum_48 ?_
    refine q_S (As := [.long ((F_Real_significand K0 a2) <<< (((9 : Int32)).toInt64 &&& 63)), .int ((F_Real_power K0 a1) - (F_Real_power K0 a2))]) (rest := []) (n := 2) hx hb hml hown hts (c_Real_shiftedDown l ((F_Real_significand K0 a2) <<< (((9 : Int32)).toInt64 &&& 63)) ((F_Real_power K0 a1) - (F_Real_power K0 a2))) rfl rfl m_62 m_63 m_64 m_11 (by decide +kernel) ⟨Nat.le_of_ble_eq_true rfl, Nat.le_of_ble_eq_true rfl⟩ (p0_bl) (fun U hU hW => p0_mv hU hW hNB) rfl hl.1 rfl (Nat.le_of_ble_eq_true rfl) d_Real_orderedSum_49 ⟨Nat.zero_le _, Nat.zero_le _⟩ ?_
    refine lv_topl (fun x3 e_x3 => ?_)
    have h := lt_h e_x3 h
    refine lv_lstore hx hb d_Real_orderedSum_52 hl (by decide) rfl (fun ls hl => ?_)
    have hl : lv_has ls 13 [(8, .long x3), (6, .long x2), (5, .int x1), (0, .ref o0), (1, .long a1), (3, .long a2)] := hl
    refine lv_iload hx hb d_Real_orderedSum_54 (lv_at hl 2 rfl) ?_
    obtain ⟨x4, e_x4, h⟩ := lt_o h
    have hJ72 : ∀ (x4' : Int64) (ls : Array Slot), x4 = x4' → lv_has ls 13 [(0, .ref o0), (1, .long a1), (5, .int x1)] → W p l e ({ frames := 2, cells := 0, slots := 0, locals := 61 } : Room) s m args below meth c s.heap [] 0 0 Q (F0 m 72 ls [.long x4']) := by
      intro x4' ls q_x4 hl
      subst q_x4
      refine lv_lstore hx hb d_Real_orderedSum_72 hl (by decide) rfl (fun ls hl => ?_)
      have hl : lv_has ls 13 [(10, .long x4), (0, .ref o0), (1, .long a1), (5, .int x1)] := hl
      refine lv_aload_n hx hb d_Real_orderedSum_74 rfl (lv_at hl 1 rfl) ?_
      refine lv_lload_n hx hb d_Real_orderedSum_75 rfl (lv_at hl 2 rfl) ?_
      refine q_V (As := [.long a1]) (rest := []) (n := 1) hx hb hml hown hts (c_Real_isNegative l o0 K0 a1) rfl rfl m_12 m_13 m_14 m_15 m_11 (by decide +kernel) ⟨Nat.le_of_ble_eq_true rfl, Nat.le_of_ble_eq_true rfl⟩ (rAt_rc hRe_o0) (p1_bl) (fun U hU hW => p1_mv hU hW hNB hRe_o0) rfl hl.1 rfl (Nat.le_of_ble_eq_true rfl) d_Real_orderedSum_76 ⟨Nat.zero_le _, Nat.zero_le _⟩ ?_
      obtain ⟨x5, e_x5, h⟩ := lt_o h
      have hJ99 : ∀ (x5' : Int32) (ls : Array Slot), x5 = x5' → lv_has ls 13 [(0, .ref o0), (1, .long a1), (10, .long x4)] → W p l e ({ frames := 2, cells := 0, slots := 0, locals := 61 } : Room) s m args below meth c s.heap [] 0 0 Q (F0 m 99 ls [.int x5']) := by
        intro x5' ls q_x5 hl
        subst q_x5
        refine lv_istore hx hb d_Real_orderedSum_99 hl (by decide) rfl (fun ls hl => ?_)
        have hl : lv_has ls 13 [(12, .int x5), (0, .ref o0), (1, .long a1), (10, .long x4)] := hl
        refine lv_aload_n hx hb d_Real_orderedSum_101 rfl (lv_at hl 1 rfl) ?_
        refine lv_iload hx hb d_Real_orderedSum_102 (lv_at hl 0 rfl) ?_
        refine lv_aload_n hx hb d_Real_orderedSum_104 rfl (lv_at hl 1 rfl) ?_
        refine lv_lload_n hx hb d_Real_orderedSum_105 rfl (lv_at hl 2 rfl) ?_
        refine q_V (As := [.long a1]) (rest := [.int x5, .ref o0]) (n := 1) hx hb hml hown hts (c_Real_power l o0 K0 a1) rfl rfl m_58 m_59 m_60 m_61 m_11 (by decide +kernel) ⟨Nat.le_of_ble_eq_true rfl, Nat.le_of_ble_eq_true rfl⟩ (rAt_rc hRe_o0) (p1_bl) (fun U hU hW => p1_mv hU hW hNB hRe_o0) rfl hl.1 rfl (Nat.le_of_ble_eq_true rfl) d_Real_orderedSum_106 ⟨Nat.zero_le _, Nat.zero_le _⟩ ?_
        refine lv_bipush hx hb d_Real_orderedSum_109 bp_9 ?_
        refine lv_isub hx hb d_Real_orderedSum_111 ?_
        refine lv_lload hx hb d_Real_orderedSum_112 (lv_at hl 3 rfl) ?_
        obtain ⟨x6, e_x6, h⟩ := bd_o h
        refine q_V (As := [.int x5, .int ((F_Real_power K0 a1) - (9 : Int32)), .long x4]) (rest := []) (n := 3) hx hb hml hown hts (c_Real_rounded l o0 n K0 x5 ((F_Real_power K0 a1) - (9 : Int32)) x4 _ e_x6) rfl rfl m_65 m_66 m_67 m_68 m_11 (by decide +kernel) ⟨Nat.le_of_ble_eq_true rfl, Nat.le_of_ble_eq_true rfl⟩ (rAt_rc hRe_o0) (p1_bl) (fun U hU hW => p1_mv hU hW hNB hRe_o0) rfl hl.1 rfl (Nat.le_of_ble_eq_true rfl) d_Real_orderedSum_114 ⟨Nat.zero_le _, Nat.zero_le _⟩ ?_
        exact hret 117 ls _ (Option.some.inj h) d_Real_orderedSum_117
      refine lv_if_eq (tgt := 98) hx hb d_Real_orderedSum_79 rfl (fun hc => ?_) (fun hc => ?_)
      · have e_x5 := e_x5.trans (if_pos hc)
        refine lv_iconst hx hb d_Real_orderedSum_98 ic_0 ?_
        exact hJ99 _ ls e_x5 (lv_sub hl [1, 2, 0] rfl)
      · have e_x5 := e_x5.trans (if_neg hc)
        refine lv_iload hx hb d_Real_orderedSum_82 (lv_at hl 3 rfl) ?_
        refine lv_if_ne (tgt := 94) hx hb d_Real_orderedSum_84 rfl (fun hc => ?_) (fun hc => ?_)
        · have e_x5 := e_x5.trans (if_pos hc)
          refine lv_iconst hx hb d_Real_orderedSum_94 ic_1 ?_
          refine lv_goto (tgt := 99) hx hb d_Real_orderedSum_95 rfl ?_
          exact hJ99 _ ls e_x5 (lv_sub hl [1, 2, 0] rfl)
        · have hc := not_not_intro hc
          have e_x5 := e_x5.trans (if_neg hc)
          refine lv_lload hx hb d_Real_orderedSum_87 (lv_at hl 0 rfl) ?_
          refine lv_lconst hx hb d_Real_orderedSum_89 lc_0 ?_
          refine W.lcmp hx hb d_Real_orderedSum_90 ?_
          refine lv_if_eq (tgt := 98) hx hb d_Real_orderedSum_91 rfl (fun hc => ?_) (fun hc => ?_)
          · have hc := (lg_cmp_eq _ _).mp hc
            have e_x5 := e_x5.trans (if_pos hc)
            refine lv_iconst hx hb d_Real_orderedSum_98 ic_0 ?_
            exact hJ99 _ ls e_x5 (lv_sub hl [1, 2, 0] rfl)
          · have hc := mt (lg_cmp_eq _ _).mpr hc
            have e_x5 := e_x5.trans (if_neg hc)
            refine lv_iconst hx hb d_Real_orderedSum_94 ic_1 ?_
            refine lv_goto (tgt := 99) hx hb d_Real_orderedSum_95 rfl ?_
            exact hJ99 _ ls e_x5 (lv_sub hl [1, 2, 0] rfl)
    refine lv_if_eq (tgt := 67) hx hb d_Real_orderedSum_56 rfl (fun hc => ?_) (fun hc => ?_)
    · have e_x4 := e_x4.trans (if_pos hc)
      refine lv_lload hx hb d_Real_orderedSum_67 (lv_at hl 1 rfl) ?_
      refine lv_lload hx hb d_Real_orderedSum_69 (lv_at hl 0 rfl) ?_
      refine lv_lsub hx hb d_Real_orderedSum_71 ?_
      exact hJ72 _ ls e_x4 (lv_sub hl [3, 4, 2] rfl)
    · have e_x4 := e_x4.trans (if_neg hc)
      refine lv_lload hx hb d_Real_orderedSum_59 (lv_at hl 1 rfl) ?_
      refine lv_lload hx hb d_Real_orderedSum_61 (lv_at hl 0 rfl) ?_
      refine lv_ladd hx hb d_Real_orderedSum_63 ?_
      refine lv_goto (tgt := 72) hx hb d_Real_orderedSum_64 rfl ?_
      exact hJ72 _ ls e_x4 (lv_sub hl [3, 4, 2] rfl)
  refine lv_icmp_ne (tgt := 17) hx hb d_Real_orderedSum_10 rfl (fun hc => ?_) (fun hc => ?_)
  · have e_x1 := e_x1.trans (if_pos hc)
    refine lv_iconst hx hb d_Real_orderedSum_17 ic_0 ?_
    exact hJ18 _ ls e_x1 (lv_sub hl [0, 1, 2] rfl)
  · have hc := not_not_intro hc
    have e_x1 := e_x1.trans (if_neg hc)
    refine lv_iconst hx hb d_Real_orderedSum_13 ic_1 ?_
    refine lv_goto (tgt := 18) hx hb d_Real_orderedSum_14 rfl ?_
    exact hJ18 _ ls e_x1 (lv_sub hl [0, 1, 2] rfl)
-- Real_sum
theorem d_Real_sum_0 : decode b_Real_sum 0 = .ok (.aload_n 0, 1) := by decide +kernel
theorem d_Real_sum_1 : decode b_Real_sum 1 = .ok (.lload_n 1, 1) := by decide +kernel
theorem d_Real_sum_2 : decode b_Real_sum 2 = .ok (.invokevirtual 80, 3) := by decide +kernel
theorem d_Real_sum_5 : decode b_Real_sum 5 = .ok (.ifCond .ne 11, 3) := by decide +kernel
theorem d_Real_sum_8 : decode b_Real_sum 8 = .ok (.aload_n 0, 1) := by decide +kernel
theorem d_Real_sum_9 : decode b_Real_sum 9 = .ok (.lload_n 3, 1) := by decide +kernel
theorem d_Real_sum_10 : decode b_Real_sum 10 = .ok (.invokevirtual 80, 3) := by decide +kernel
theorem d_Real_sum_13 : decode b_Real_sum 13 = .ok (.ifCond .eq 10, 3) := by decide +kernel
theorem d_Real_sum_16 : decode b_Real_sum 16 = .ok (.aload_n 0, 1) := by decide +kernel
theorem d_Real_sum_17 : decode b_Real_sum 17 = .ok (.lload_n 1, 1) := by decide +kernel
theorem d_Real_sum_18 : decode b_Real_sum 18 = .ok (.lload_n 3, 1) := by decide +kernel
theorem d_Real_sum_19 : decode b_Real_sum 19 = .ok (.invokevirtual 83, 3) := by decide +kernel
theorem d_Real_sum_22 : decode b_Real_sum 22 = .ok (.lreturn, 1) := by decide +kernel
theorem d_Real_sum_23 : decode b_Real_sum 23 = .ok (.aload_n 0, 1) := by decide +kernel
theorem d_Real_sum_24 : decode b_Real_sum 24 = .ok (.lload_n 1, 1) := by decide +kernel
theorem d_Real_sum_25 : decode b_Real_sum 25 = .ok (.invokevirtual 48, 3) := by decide +kernel
theorem d_Real_sum_28 : decode b_Real_sum 28 = .ok (.aload_n 0, 1) := by decide +kernel
theorem d_Real_sum_29 : decode b_Real_sum 29 = .ok (.lload_n 3, 1) := by decide +kernel
theorem d_Real_sum_30 : decode b_Real_sum 30 = .ok (.invokevirtual 48, 3) := by decide +kernel
theorem d_Real_sum_33 : decode b_Real_sum 33 = .ok (.lcmp, 1) := by decide +kernel
theorem d_Real_sum_34 : decode b_Real_sum 34 = .ok (.ifCond .ge 10, 3) := by decide +kernel
theorem d_Real_sum_37 : decode b_Real_sum 37 = .ok (.aload_n 0, 1) := by decide +kernel
theorem d_Real_sum_38 : decode b_Real_sum 38 = .ok (.lload_n 3, 1) := by decide +kernel
theorem d_Real_sum_39 : decode b_Real_sum 39 = .ok (.lload_n 1, 1) := by decide +kernel
theorem d_Real_sum_40 : decode b_Real_sum 40 = .ok (.invokevirtual 87, 3) := by decide +kernel
theorem d_Real_sum_43 : decode b_Real_sum 43 = .ok (.lreturn, 1) := by decide +kernel
theorem d_Real_sum_44 : decode b_Real_sum 44 = .ok (.aload_n 0, 1) := by decide +kernel
theorem d_Real_sum_45 : decode b_Real_sum 45 = .ok (.lload_n 1, 1) := by decide +kernel
theorem d_Real_sum_46 : decode b_Real_sum 46 = .ok (.lload_n 3, 1) := by decide +kernel
theorem d_Real_sum_47 : decode b_Real_sum 47 = .ok (.invokevirtual 87, 3) := by decide +kernel
theorem d_Real_sum_50 : decode b_Real_sum 50 = .ok (.lreturn, 1) := by decide +kernel
def F_Real_sum (n : Nat) (K0 : rK) (a1 : Int64) (a2 : Int64) : Option (Int64) := lt_ (fun (_ : Unit) => some (F_Real_infiniteSum K0 a1 a2)) fun j16 => if ¬ (F_Real_isInfinite K0 a1) = 0 then (j16 ()) else (if (F_Real_isInfinite K0 a2) = 0 then (if (F_Real_magnitude K0 a2) ≤ (F_Real_magnitude K0 a1) then ((F_Real_orderedSum n K0 a1 a2).bind fun x1 => some x1) else ((F_Real_orderedSum n K0 a2 a1).bind fun x2 => some x2)) else (j16 ()))
set_option maxHeartbeats 4000000 in
set_option maxRecDepth 100000 in
theorem c_Real_sum (l : Launch) (o0 : Nat) (n : Nat) (K0 : rK) (a1 : Int64) (a2 : Int64) (r : Int64) (h : F_Real_sum n K0 a1 a2 = some r) : Met l y_Real_sum (.code y_Real_sum b_Real_sum 5 (some .long) :: BIG) ({ frames := 3, cells := 0, slots := 0, locals := 93 } : Room) (va_Pc [.ref o0, .long a1, .long a2] (pre1 o0 K0)) (pQ (.long r)) 0 0 (fun _ => False) := by
  refine pOpen_l rfl (Nat.le_of_ble_eq_true rfl) ?_
  intro p e s m args below meth c Q ls hx hb hml hown hts hT hp hl hret
  obtain ⟨hNB, hRe_o0⟩ := hp
  have hown : s.vm.findClass R_Real = some m.cls := hown
  have hl : lv_has ls 5 [(0, .ref o0), (1, .long a1), (3, .long a2)] := hl
  have h : (lt_ (fun (_ : Unit) => some (F_Real_infiniteSum K0 a1 a2)) fun j16 => if ¬ (F_Real_isInfinite K0 a1) = 0 then (j16 ()) else (if (F_Real_isInfinite K0 a2) = 0 then (if (F_Real_magnitude K0 a2) ≤ (F_Real_magnitude K0 a1) then ((F_Real_orderedSum n K0 a1 a2).bind fun x1 => some x1) else ((F_Real_orderedSum n K0 a2 a1).bind fun x2 => some x2)) else (j16 ()))) = some r := h
  refine lv_aload_n hx hb d_Real_sum_0 rfl (lv_at hl 0 rfl) ?_
  refine lv_lload_n hx hb d_Real_sum_1 rfl (lv_at hl 1 rfl) ?_
  refine q_V (As := [.long a1]) (rest := []) (n := 1) hx hb hml hown hts (c_Real_isInfinite l o0 K0 a1) rfl rfl m_42 m_43 m_44 m_45 m_11 (by decide +kernel) ⟨Nat.le_of_ble_eq_true rfl, Nat.le_of_ble_eq_true rfl⟩ (rAt_rc hRe_o0) (p1_bl) (fun U hU hW => p1_mv hU hW hNB hRe_o0) rfl hl.1 rfl (Nat.le_of_ble_eq_true rfl) d_Real_sum_2 ⟨Nat.zero_le _, Nat.zero_le _⟩ ?_
  obtain ⟨j16, e_j16, h⟩ := lt_o h
  have hJ16 : ∀ (ls : Array Slot), lv_has ls 5 [(0, .ref o0), (1, .long a1), (3, .long a2)] → j16 () = some r → W p l e ({ frames := 3, cells := 0, slots := 0, locals := 93 } : Room) s m args below meth c s.heap [] 0 0 Q (F0 m 16 ls []) := by
    intro  ls hl h
    rw [e_j16] at h
    refine lv_aload_n hx hb d_Real_sum_16 rfl (lv_at hl 0 rfl) ?_
    refine lv_lload_n hx hb d_Real_sum_17 rfl (lv_at hl 1 rfl) ?_
    refine lv_lload_n hx hb d_Real_sum_18 rfl (lv_at hl 2 rfl) ?_
    refine q_V (As := [.long a1, .long a2]) (rest := []) (n := 2) hx hb hml hown hts (c_Real_infiniteSum l o0 K0 a1 a2) rfl rfl m_69 m_70 m_71 m_72 m_11 (by decide +kernel) ⟨Nat.le_of_ble_eq_true rfl, Nat.le_of_ble_eq_true rfl⟩ (rAt_rc hRe_o0) (p1_bl) (fun U hU hW => p1_mv hU hW hNB hRe_o0) rfl hl.1 rfl (Nat.le_of_ble_eq_true rfl) d_Real_sum_19 ⟨Nat.zero_le _, Nat.zero_le _⟩ ?_
    exact hret 22 ls _ (Option.some.inj h) d_Real_sum_22
  refine lv_if_ne (tgt := 16) hx hb d_Real_sum_5 rfl (fun hc => ?_) (fun hc => ?_)
  · have h := ite_t hc h
    exact hJ16 ls (lv_sub hl [0, 1, 2] rfl) h
  · have hc := not_not_intro hc
    have h := ite_f hc h
    refine lv_aload_n hx hb d_Real_sum_8 rfl (lv_at hl 0 rfl) ?_
    refine lv_lload_n hx hb d_Real_sum_9 rfl (lv_at hl 2 rfl) ?_
    refine q_V (As := [.long a2]) (rest := []) (n := 1) hx hb hml hown hts (c_Real_isInfinite l o0 K0 a2) rfl rfl m_42 m_43 m_44 m_45 m_11 (by decide +kernel) ⟨Nat.le_of_ble_eq_true rfl, Nat.le_of_ble_eq_true rfl⟩ (rAt_rc hRe_o0) (p1_bl) (fun U hU hW => p1_mv hU hW hNB hRe_o0) rfl hl.1 rfl (Nat.le_of_ble_eq_true rfl) d_Real_sum_10 ⟨Nat.zero_le _, Nat.zero_le _⟩ ?_
    refine lv_if_eq (tgt := 23) hx hb d_Real_sum_13 rfl (fun hc => ?_) (fun hc => ?_)
    · have h := ite_t hc h
      refine lv_aload_n hx hb d_Real_sum_23 rfl (lv_at hl 0 rfl) ?_
      refine lv_lload_n hx hb d_Real_sum_24 rfl (lv_at hl 1 rfl) ?_
      refine q_V (As := [.long a1]) (rest := []) (n := 1) hx hb hml hown hts (c_Real_magnitude l o0 K0 a1) rfl rfl m_7 m_8 m_9 m_10 m_11 (by decide +kernel) ⟨Nat.le_of_ble_eq_true rfl, Nat.le_of_ble_eq_true rfl⟩ (rAt_rc hRe_o0) (p1_bl) (fun U hU hW => p1_mv hU hW hNB hRe_o0) rfl hl.1 rfl (Nat.le_of_ble_eq_true rfl) d_Real_sum_25 ⟨Nat.zero_le _, Nat.zero_le _⟩ ?_
      refine lv_aload_n hx hb d_Real_sum_28 rfl (lv_at hl 0 rfl) ?_
      refine lv_lload_n hx hb d_Real_sum_29 rfl (lv_at hl 2 rfl) ?_
      refine q_V (As := [.long a2]) (rest := [.long (F_Real_magnitude K0 a1)]) (n := 1) hx hb hml hown hts (c_Real_magnitude l o0 K0 a2) rfl rfl m_7 m_8 m_9 m_10 m_11 (by decide +kernel) ⟨Nat.le_of_ble_eq_true rfl, Nat.le_of_ble_eq_true rfl⟩ (rAt_rc hRe_o0) (p1_bl) (fun U hU hW => p1_mv hU hW hNB hRe_o0) rfl hl.1 rfl (Nat.le_of_ble_eq_true rfl) d_Real_sum_30 ⟨Nat.zero_le _, Nat.zero_le _⟩ ?_
      refine W.lcmp hx hb d_Real_sum_33 ?_
      refine lv_if_ge (tgt := 44) hx hb d_Real_sum_34 rfl (fun hc => ?_) (fun hc => ?_)
      · have hc := (lg_cmp_ge _ _).mp hc
        have h := ite_t hc h
        refine lv_aload_n hx hb d_Real_sum_44 rfl (lv_at hl 0 rfl) ?_
        refine lv_lload_n hx hb d_Real_sum_45 rfl (lv_at hl 1 rfl) ?_
        refine lv_lload_n hx hb d_Real_sum_46 rfl (lv_at hl 2 rfl) ?_
        obtain ⟨x1, e_x1, h⟩ := bd_o h
        refine q_V (As := [.long a1, .long a2]) (rest := []) (n := 2) hx hb hml hown hts (c_Real_orderedSum l o0 n K0 a1 a2 _ e_x1) rfl rfl m_73 m_74 m_75 m_76 m_11 (by decide +kernel) ⟨Nat.le_of_ble_eq_true rfl, Nat.le_of_ble_eq_true rfl⟩ (rAt_rc hRe_o0) (p1_bl) (fun U hU hW => p1_mv hU hW hNB hRe_o0) rfl hl.1 rfl (Nat.le_of_ble_eq_true rfl) d_Real_sum_47 ⟨Nat.zero_le _, Nat.zero_le _⟩ ?_
        exact hret 50 ls _ (Option.some.inj h) d_Real_sum_50
      · have hc := mt (lg_cmp_ge _ _).mpr hc
        have h := ite_f hc h
        refine lv_aload_n hx hb d_Real_sum_37 rfl (lv_at hl 0 rfl) ?_
        refine lv_lload_n hx hb d_Real_sum_38 rfl (lv_at hl 2 rfl) ?_
        refine lv_lload_n hx hb d_Real_sum_39 rfl (lv_at hl 1 rfl) ?_
        obtain ⟨x2, e_x2, h⟩ := bd_o h
        refine q_V (As := [.long a2, .long a1]) (rest := []) (n := 2) hx hb hml hown hts (c_Real_orderedSum l o0 n K0 a2 a1 _ e_x2) rfl rfl m_73 m_74 m_75 m_76 m_11 (by decide +kernel) ⟨Nat.le_of_ble_eq_true rfl, Nat.le_of_ble_eq_true rfl⟩ (rAt_rc hRe_o0) (p1_bl) (fun U hU hW => p1_mv hU hW hNB hRe_o0) rfl hl.1 rfl (Nat.le_of_ble_eq_true rfl) d_Real_sum_40 ⟨Nat.zero_le _, Nat.zero_le _⟩ ?_
        exact hret 43 ls _ (Option.some.inj h) d_Real_sum_43
    · have h := ite_f hc h
      exact hJ16 ls (lv_sub hl [0, 1, 2] rfl) h
-- Real_alignment
theorem d_Real_alignment_0 : decode b_Real_alignment 0 = .ok (.aload_n 0, 1) := by decide +kernel
theorem d_Real_alignment_1 : decode b_Real_alignment 1 = .ok (.lload_n 1, 1) := by decide +kernel
theorem d_Real_alignment_2 : decode b_Real_alignment 2 = .ok (.invokevirtual 113, 3) := by decide +kernel
theorem d_Real_alignment_5 : decode b_Real_alignment 5 = .ok (.invokestatic 135, 3) := by decide +kernel
theorem d_Real_alignment_8 : decode b_Real_alignment 8 = .ok (.iconst 1, 1) := by decide +kernel
theorem d_Real_alignment_9 : decode b_Real_alignment 9 = .ok (.isub, 1) := by decide +kernel
theorem d_Real_alignment_10 : decode b_Real_alignment 10 = .ok (.ireturn, 1) := by decide +kernel
def F_Real_alignment (n : Nat) (K0 : rK) (a1 : Int64) : Option (Int32) := (F_PB_leadingZeros n (F_Real_significand K0 a1)).bind fun x1 => some (x1 - (1 : Int32))
set_option maxHeartbeats 4000000 in
set_option maxRecDepth 100000 in
theorem c_Real_alignment (l : Launch) (o0 : Nat) (n : Nat) (K0 : rK) (a1 : Int64) (r : Int32) (h : F_Real_alignment n K0 a1 = some r) : Met l y_Real_alignment (.code y_Real_alignment b_Real_alignment 3 (some .int) :: BIG) ({ frames := 2, cells := 0, slots := 0, locals := 44 } : Room) (va_Pc [.ref o0, .long a1] (pre1 o0 K0)) (pQ (.int r)) 0 0 (fun _ => False) := by
  refine pOpen_i rfl (Nat.le_of_ble_eq_true rfl) ?_
  intro p e s m args below meth c Q ls hx hb hml hown hts hT hp hl hret
  obtain ⟨hNB, hRe_o0⟩ := hp
  have hown : s.vm.findClass R_Real = some m.cls := hown
  have hl : lv_has ls 3 [(0, .ref o0), (1, .long a1)] := hl
  have h : ((F_PB_leadingZeros n (F_Real_significand K0 a1)).bind fun x1 => some (x1 - (1 : Int32))) = some r := h
  refine lv_aload_n hx hb d_Real_alignment_0 rfl (lv_at hl 0 rfl) ?_
  refine lv_lload_n hx hb d_Real_alignment_1 rfl (lv_at hl 1 rfl) ?_
  refine q_V (As := [.long a1]) (rest := []) (n := 1) hx hb hml hown hts (c_Real_significand l o0 K0 a1) rfl rfl m_54 m_55 m_56 m_57 m_11 (by decide +kernel) ⟨Nat.le_of_ble_eq_true rfl, Nat.le_of_ble_eq_true rfl⟩ (rAt_rc hRe_o0) (p1_bl) (fun U hU hW => p1_mv hU hW hNB hRe_o0) rfl hl.1 rfl (Nat.le_of_ble_eq_true rfl) d_Real_alignment_2 ⟨Nat.zero_le _, Nat.zero_le _⟩ ?_
  obtain ⟨x1, e_x1, h⟩ := bd_o h
  refine q_SN (As := [.long (F_Real_significand K0 a1)]) (rest := []) (n := 1) hx hb hml hown hts (c_PB_leadingZeros l n (F_Real_significand K0 a1) _ e_x1) rfl rfl m_49 (hNB_Real hNB) m_50 m_3 (by decide +kernel) ⟨Nat.le_of_ble_eq_true rfl, Nat.le_of_ble_eq_true rfl⟩ (p0_bl) (fun U hU hW => p0_mv hU hW hNB) rfl hl.1 rfl (Nat.le_of_ble_eq_true rfl) d_Real_alignment_5 ⟨Nat.zero_le _, Nat.zero_le _⟩ ?_
  refine lv_iconst hx hb d_Real_alignment_8 ic_1 ?_
  refine lv_isub hx hb d_Real_alignment_9 ?_
  exact hret 10 ls _ (Option.some.inj h) d_Real_alignment_10
-- Real_aligned
theorem d_Real_aligned_0 : decode b_Real_aligned 0 = .ok (.aload_n 0, 1) := by decide +kernel
theorem d_Real_aligned_1 : decode b_Real_aligned 1 = .ok (.lload_n 1, 1) := by decide +kernel
theorem d_Real_aligned_2 : decode b_Real_aligned 2 = .ok (.invokevirtual 113, 3) := by decide +kernel
theorem d_Real_aligned_5 : decode b_Real_aligned 5 = .ok (.aload_n 0, 1) := by decide +kernel
theorem d_Real_aligned_6 : decode b_Real_aligned 6 = .ok (.lload_n 1, 1) := by decide +kernel
theorem d_Real_aligned_7 : decode b_Real_aligned 7 = .ok (.invokevirtual 132, 3) := by decide +kernel
theorem d_Real_aligned_10 : decode b_Real_aligned 10 = .ok (.lshl, 1) := by decide +kernel
theorem d_Real_aligned_11 : decode b_Real_aligned 11 = .ok (.lreturn, 1) := by decide +kernel
def F_Real_aligned (n : Nat) (K0 : rK) (a1 : Int64) : Option (Int64) := (F_Real_alignment n K0 a1).bind fun x1 => some ((F_Real_significand K0 a1) <<< ((x1).toInt64 &&& 63))
set_option maxHeartbeats 4000000 in
set_option maxRecDepth 100000 in
theorem c_Real_aligned (l : Launch) (o0 : Nat) (n : Nat) (K0 : rK) (a1 : Int64) (r : Int64) (h : F_Real_aligned n K0 a1 = some r) : Met l y_Real_aligned (.code y_Real_aligned b_Real_aligned 3 (some .long) :: BIG) ({ frames := 3, cells := 0, slots := 0, locals := 66 } : Room) (va_Pc [.ref o0, .long a1] (pre1 o0 K0)) (pQ (.long r)) 0 0 (fun _ => False) := by
  refine pOpen_l rfl (Nat.le_of_ble_eq_true rfl) ?_
  intro p e s m args below meth c Q ls hx hb hml hown hts hT hp hl hret
  obtain ⟨hNB, hRe_o0⟩ := hp
  have hown : s.vm.findClass R_Real = some m.cls := hown
  have hl : lv_has ls 3 [(0, .ref o0), (1, .long a1)] := hl
  have h : ((F_Real_alignment n K0 a1).bind fun x1 => some ((F_Real_significand K0 a1) <<< ((x1).toInt64 &&& 63))) = some r := h
  refine lv_aload_n hx hb d_Real_aligned_0 rfl (lv_at hl 0 rfl) ?_
  refine lv_lload_n hx hb d_Real_aligned_1 rfl (lv_at hl 1 rfl) ?_
  refine q_V (As := [.long a1]) (rest := []) (n := 1) hx hb hml hown hts (c_Real_significand l o0 K0 a1) rfl rfl m_54 m_55 m_56 m_57 m_11 (by decide +kernel) ⟨Nat.le_of_ble_eq_true rfl, Nat.le_of_ble_eq_true rfl⟩ (rAt_rc hRe_o0) (p1_bl) (fun U hU hW => p1_mv hU hW hNB hRe_o0) rfl hl.1 rfl (Nat.le_of_ble_eq_true rfl) d_Real_aligned_2 ⟨Nat.zero_le _, Nat.zero_le _⟩ ?_
  refine lv_aload_n hx hb d_Real_aligned_5 rfl (lv_at hl 0 rfl) ?_
  refine lv_lload_n hx hb d_Real_aligned_6 rfl (lv_at hl 1 rfl) ?_
  obtain ⟨x1, e_x1, h⟩ := bd_o h
  refine q_V (As := [.long a1]) (rest := [.long (F_Real_significand K0 a1)]) (n := 1) hx hb hml hown hts (c_Real_alignment l o0 n K0 a1 _ e_x1) rfl rfl m_77 m_78 m_79 m_80 m_11 (by decide +kernel) ⟨Nat.le_of_ble_eq_true rfl, Nat.le_of_ble_eq_true rfl⟩ (rAt_rc hRe_o0) (p1_bl) (fun U hU hW => p1_mv hU hW hNB hRe_o0) rfl hl.1 rfl (Nat.le_of_ble_eq_true rfl) d_Real_aligned_7 ⟨Nat.zero_le _, Nat.zero_le _⟩ ?_
  refine lv_lshl hx hb d_Real_aligned_10 rfl ?_
  exact hret 11 ls _ (Option.some.inj h) d_Real_aligned_11
-- Real_highProduct
theorem d_Real_highProduct_0 : decode b_Real_highProduct 0 = .ok (.lload_n 0, 1) := by decide +kernel
theorem d_Real_highProduct_1 : decode b_Real_highProduct 1 = .ok (.bipush 32, 2) := by decide +kernel
theorem d_Real_highProduct_3 : decode b_Real_highProduct 3 = .ok (.lushr, 1) := by decide +kernel
theorem d_Real_highProduct_4 : decode b_Real_highProduct 4 = .ok (.lstore 4, 2) := by decide +kernel
theorem d_Real_highProduct_6 : decode b_Real_highProduct 6 = .ok (.lload_n 0, 1) := by decide +kernel
theorem d_Real_highProduct_7 : decode b_Real_highProduct 7 = .ok (.ldc2_w 138, 3) := by decide +kernel
theorem d_Real_highProduct_10 : decode b_Real_highProduct 10 = .ok (.land, 1) := by decide +kernel
theorem d_Real_highProduct_11 : decode b_Real_highProduct 11 = .ok (.lstore 6, 2) := by decide +kernel
theorem d_Real_highProduct_13 : decode b_Real_highProduct 13 = .ok (.lload_n 2, 1) := by decide +kernel
theorem d_Real_highProduct_14 : decode b_Real_highProduct 14 = .ok (.bipush 32, 2) := by decide +kernel
theorem d_Real_highProduct_16 : decode b_Real_highProduct 16 = .ok (.lushr, 1) := by decide +kernel
theorem d_Real_highProduct_17 : decode b_Real_highProduct 17 = .ok (.lstore 8, 2) := by decide +kernel
theorem d_Real_highProduct_19 : decode b_Real_highProduct 19 = .ok (.lload_n 2, 1) := by decide +kernel
theorem d_Real_highProduct_20 : decode b_Real_highProduct 20 = .ok (.ldc2_w 138, 3) := by decide +kernel
theorem d_Real_highProduct_23 : decode b_Real_highProduct 23 = .ok (.land, 1) := by decide +kernel
theorem d_Real_highProduct_24 : decode b_Real_highProduct 24 = .ok (.lstore 10, 2) := by decide +kernel
theorem d_Real_highProduct_26 : decode b_Real_highProduct 26 = .ok (.lload 4, 2) := by decide +kernel
theorem d_Real_highProduct_28 : decode b_Real_highProduct 28 = .ok (.lload 10, 2) := by decide +kernel
theorem d_Real_highProduct_30 : decode b_Real_highProduct 30 = .ok (.lmul, 1) := by decide +kernel
theorem d_Real_highProduct_31 : decode b_Real_highProduct 31 = .ok (.lload 6, 2) := by decide +kernel
theorem d_Real_highProduct_33 : decode b_Real_highProduct 33 = .ok (.lload 10, 2) := by decide +kernel
theorem d_Real_highProduct_35 : decode b_Real_highProduct 35 = .ok (.lmul, 1) := by decide +kernel
theorem d_Real_highProduct_36 : decode b_Real_highProduct 36 = .ok (.bipush 32, 2) := by decide +kernel
theorem d_Real_highProduct_38 : decode b_Real_highProduct 38 = .ok (.lushr, 1) := by decide +kernel
theorem d_Real_highProduct_39 : decode b_Real_highProduct 39 = .ok (.ladd, 1) := by decide +kernel
theorem d_Real_highProduct_40 : decode b_Real_highProduct 40 = .ok (.lstore 12, 2) := by decide +kernel
theorem d_Real_highProduct_42 : decode b_Real_highProduct 42 = .ok (.lload 6, 2) := by decide +kernel
theorem d_Real_highProduct_44 : decode b_Real_highProduct 44 = .ok (.lload 8, 2) := by decide +kernel
theorem d_Real_highProduct_46 : decode b_Real_highProduct 46 = .ok (.lmul, 1) := by decide +kernel
theorem d_Real_highProduct_47 : decode b_Real_highProduct 47 = .ok (.lload 12, 2) := by decide +kernel
theorem d_Real_highProduct_49 : decode b_Real_highProduct 49 = .ok (.ldc2_w 138, 3) := by decide +kernel
theorem d_Real_highProduct_52 : decode b_Real_highProduct 52 = .ok (.land, 1) := by decide +kernel
theorem d_Real_highProduct_53 : decode b_Real_highProduct 53 = .ok (.ladd, 1) := by decide +kernel
theorem d_Real_highProduct_54 : decode b_Real_highProduct 54 = .ok (.lstore 14, 2) := by decide +kernel
theorem d_Real_highProduct_56 : decode b_Real_highProduct 56 = .ok (.lload 4, 2) := by decide +kernel
theorem d_Real_highProduct_58 : decode b_Real_highProduct 58 = .ok (.lload 8, 2) := by decide +kernel
theorem d_Real_highProduct_60 : decode b_Real_highProduct 60 = .ok (.lmul, 1) := by decide +kernel
theorem d_Real_highProduct_61 : decode b_Real_highProduct 61 = .ok (.lload 12, 2) := by decide +kernel
theorem d_Real_highProduct_63 : decode b_Real_highProduct 63 = .ok (.bipush 32, 2) := by decide +kernel
theorem d_Real_highProduct_65 : decode b_Real_highProduct 65 = .ok (.lushr, 1) := by decide +kernel
theorem d_Real_highProduct_66 : decode b_Real_highProduct 66 = .ok (.ladd, 1) := by decide +kernel
theorem d_Real_highProduct_67 : decode b_Real_highProduct 67 = .ok (.lload 14, 2) := by decide +kernel
theorem d_Real_highProduct_69 : decode b_Real_highProduct 69 = .ok (.bipush 32, 2) := by decide +kernel
theorem d_Real_highProduct_71 : decode b_Real_highProduct 71 = .ok (.lushr, 1) := by decide +kernel
theorem d_Real_highProduct_72 : decode b_Real_highProduct 72 = .ok (.ladd, 1) := by decide +kernel
theorem d_Real_highProduct_73 : decode b_Real_highProduct 73 = .ok (.lreturn, 1) := by decide +kernel
def F_Real_highProduct (a0 : Int64) (a1 : Int64) : Int64 := lt_ (((a0).toUInt64 >>> (((32 : Int32)).toInt64.toUInt64 &&& Int64.toUInt64 63)).toInt64) fun x1 => lt_ (a0 &&& (4294967295 : Int64)) fun x2 => lt_ (((a1).toUInt64 >>> (((32 : Int32)).toInt64.toUInt64 &&& Int64.toUInt64 63)).toInt64) fun x3 => lt_ (a1 &&& (4294967295 : Int64)) fun x4 => lt_ ((x1 * x4) + (((x2 * x4).toUInt64 >>> (((32 : Int32)).toInt64.toUInt64 &&& Int64.toUInt64 63)).toInt64)) fun x5 => lt_ ((x2 * x3) + (x5 &&& (4294967295 : Int64))) fun x6 => ((x1 * x3) + (((x5).toUInt64 >>> (((32 : Int32)).toInt64.toUInt64 &&& Int64.toUInt64 63)).toInt64)) + (((x6).toUInt64 >>> (((32 : Int32)).toInt64.toUInt64 &&& Int64.toUInt64 63)).toInt64)
set_option maxHeartbeats 4000000 in
set_option maxRecDepth 100000 in
theorem c_Real_highProduct (l : Launch) (a0 : Int64) (a1 : Int64) : Met l y_Real_highProduct (.code y_Real_highProduct b_Real_highProduct 16 (some .long) :: BIG) ({ frames := 0, cells := 0, slots := 0, locals := 0 } : Room) (va_Pc [.long a0, .long a1] (pre0)) (pQ (.long (F_Real_highProduct a0 a1))) 0 0 (fun _ => False) := by
  refine pOpen_l rfl (Nat.le_of_ble_eq_true rfl) ?_
  intro p e s m args below meth c Q ls hx hb hml hown hts hT hp hl hret
  have hNB := hp
  have hown : s.vm.findClass R_Real = some m.cls := hown
  have hl : lv_has ls 16 [(0, .long a0), (2, .long a1)] := hl
  obtain ⟨r, h⟩ : ∃ r, F_Real_highProduct a0 a1 = r := ⟨_, rfl⟩
  rw [h] at hret
  have h : (lt_ (((a0).toUInt64 >>> (((32 : Int32)).toInt64.toUInt64 &&& Int64.toUInt64 63)).toInt64) fun x1 => lt_ (a0 &&& (4294967295 : Int64)) fun x2 => lt_ (((a1).toUInt64 >>> (((32 : Int32)).toInt64.toUInt64 &&& Int64.toUInt64 63)).toInt64) fun x3 => lt_ (a1 &&& (4294967295 : Int64)) fun x4 => lt_ ((x1 * x4) + (((x2 * x4).toUInt64 >>> (((32 : Int32)).toInt64.toUInt64 &&& Int64.toUInt64 63)).toInt64)) fun x5 => lt_ ((x2 * x3) + (x5 &&& (4294967295 : Int64))) fun x6 => ((x1 * x3) + (((x5).toUInt64 >>> (((32 : Int32)).toInt64.toUInt64 &&& Int64.toUInt64 63)).toInt64)) + (((x6).toUInt64 >>> (((32 : Int32)).toInt64.toUInt64 &&& Int64.toUInt64 63)).toInt64)) = r := h
  refine lv_lload_n hx hb d_Real_highProduct_0 rfl (lv_at hl 0 rfl) ?_
  refine lv_bipush hx hb d_Real_highProduct_1 bp_32 ?_
  refine lv_lushr hx hb d_Real_highProduct_3 rfl ?_
  refine lv_topl (fun x1 e_x1 => ?_)
  have h := lt_h e_x1 h
  refine lv_lstore hx hb d_Real_highProduct_4 hl (by decide) rfl (fun ls hl => ?_)
  have hl : lv_has ls 16 [(4, .long x1), (0, .long a0), (2, .long a1)] := hl
  refine lv_lload_n hx hb d_Real_highProduct_6 rfl (lv_at hl 1 rfl) ?_
  refine lv_ldc2 hx hb hown (hT _ m_81) d_Real_highProduct_7 ?_
  refine lv_land hx hb d_Real_highProduct_10 ?_
  refine lv_topl (fun x2 e_x2 => ?_)
  have h := lt_h e_x2 h
  refine lv_lstore hx hb d_Real_highProduct_11 hl (by decide) rfl (fun ls hl => ?_)
  have hl : lv_has ls 16 [(6, .long x2), (4, .long x1), (0, .long a0), (2, .long a1)] := hl
  refine lv_lload_n hx hb d_Real_highProduct_13 rfl (lv_at hl 3 rfl) ?_
  refine lv_bipush hx hb d_Real_highProduct_14 bp_32 ?_
  refine lv_lushr hx hb d_Real_highProduct_16 rfl ?_
  refine lv_topl (fun x3 e_x3 => ?_)
  have h := lt_h e_x3 h
  refine lv_lstore hx hb d_Real_highProduct_17 hl (by decide) rfl (fun ls hl => ?_)
  have hl : lv_has ls 16 [(8, .long x3), (6, .long x2), (4, .long x1), (0, .long a0), (2, .long a1)] := hl
  refine lv_lload_n hx hb d_Real_highProduct_19 rfl (lv_at hl 4 rfl) ?_
  refine lv_ldc2 hx hb hown (hT _ m_81) d_Real_highProduct_20 ?_
  refine lv_land hx hb d_Real_highProduct_23 ?_
  refine lv_topl (fun x4 e_x4 => ?_)
  have h := lt_h e_x4 h
  refine lv_lstore hx hb d_Real_highProduct_24 hl (by decide) rfl (fun ls hl => ?_)
  have hl : lv_has ls 16 [(10, .long x4), (8, .long x3), (6, .long x2), (4, .long x1), (0, .long a0), (2, .long a1)] := hl
  refine lv_lload hx hb d_Real_highProduct_26 (lv_at hl 3 rfl) ?_
  refine lv_lload hx hb d_Real_highProduct_28 (lv_at hl 0 rfl) ?_
  refine lv_lmul hx hb d_Real_highProduct_30 ?_
  refine lv_lload hx hb d_Real_highProduct_31 (lv_at hl 2 rfl) ?_
  refine lv_lload hx hb d_Real_highProduct_33 (lv_at hl 0 rfl) ?_
  refine lv_lmul hx hb d_Real_highProduct_35 ?_
  refine lv_bipush hx hb d_Real_highProduct_36 bp_32 ?_
  refine lv_lushr hx hb d_Real_highProduct_38 rfl ?_
  refine lv_ladd hx hb d_Real_highProduct_39 ?_
  refine lv_topl (fun x5 e_x5 => ?_)
  have h := lt_h e_x5 h
  refine lv_lstore hx hb d_Real_highProduct_40 hl (by decide) rfl (fun ls hl => ?_)
  have hl : lv_has ls 16 [(12, .long x5), (10, .long x4), (8, .long x3), (6, .long x2), (4, .long x1), (0, .long a0), (2, .long a1)] := hl
  refine lv_lload hx hb d_Real_highProduct_42 (lv_at hl 3 rfl) ?_
  refine lv_lload hx hb d_Real_highProduct_44 (lv_at hl 2 rfl) ?_
  refine lv_lmul hx hb d_Real_highProduct_46 ?_
  refine lv_lload hx hb d_Real_highProduct_47 (lv_at hl 0 rfl) ?_
  refine lv_ldc2 hx hb hown (hT _ m_81) d_Real_highProduct_49 ?_
  refine lv_land hx hb d_Real_highProduct_52 ?_
  refine lv_ladd hx hb d_Real_highProduct_53 ?_
  refine lv_topl (fun x6 e_x6 => ?_)
  have h := lt_h e_x6 h
  refine lv_lstore hx hb d_Real_highProduct_54 hl (by decide) rfl (fun ls hl => ?_)
  have hl : lv_has ls 16 [(14, .long x6), (12, .long x5), (10, .long x4), (8, .long x3), (6, .long x2), (4, .long x1), (0, .long a0), (2, .long a1)] := hl
  refine lv_lload hx hb d_Real_highProduct_56 (lv_at hl 5 rfl) ?_
  refine lv_lload hx hb d_Real_highProduct_58 (lv_at hl 3 rfl) ?_
  refine lv_lmul hx hb d_Real_highProduct_60 ?_
  refine lv_lload hx hb d_Real_highProduct_61 (lv_at hl 1 rfl) ?_
  refine lv_bipush hx hb d_Real_highProduct_63 bp_32 ?_
  refine lv_lushr hx hb d_Real_highProduct_65 rfl ?_
  refine lv_ladd hx hb d_Real_highProduct_66 ?_
  refine lv_lload hx hb d_Real_highProduct_67 (lv_at hl 0 rfl) ?_
  refine lv_bipush hx hb d_Real_highProduct_69 bp_32 ?_
  refine lv_lushr hx hb d_Real_highProduct_71 rfl ?_
  refine lv_ladd hx hb d_Real_highProduct_72 ?_
  exact hret 73 ls _ h d_Real_highProduct_73
-- Real_alignedPower
theorem d_Real_alignedPower_0 : decode b_Real_alignedPower 0 = .ok (.aload_n 0, 1) := by decide +kernel
theorem d_Real_alignedPower_1 : decode b_Real_alignedPower 1 = .ok (.lload_n 1, 1) := by decide +kernel
theorem d_Real_alignedPower_2 : decode b_Real_alignedPower 2 = .ok (.invokevirtual 116, 3) := by decide +kernel
theorem d_Real_alignedPower_5 : decode b_Real_alignedPower 5 = .ok (.aload_n 0, 1) := by decide +kernel
theorem d_Real_alignedPower_6 : decode b_Real_alignedPower 6 = .ok (.lload_n 1, 1) := by decide +kernel
theorem d_Real_alignedPower_7 : decode b_Real_alignedPower 7 = .ok (.invokevirtual 132, 3) := by decide +kernel
theorem d_Real_alignedPower_10 : decode b_Real_alignedPower 10 = .ok (.isub, 1) := by decide +kernel
theorem d_Real_alignedPower_11 : decode b_Real_alignedPower 11 = .ok (.ireturn, 1) := by decide +kernel
def F_Real_alignedPower (n : Nat) (K0 : rK) (a1 : Int64) : Option (Int32) := (F_Real_alignment n K0 a1).bind fun x1 => some ((F_Real_power K0 a1) - x1)
set_option maxHeartbeats 4000000 in
set_option maxRecDepth 100000 in
theorem c_Real_alignedPower (l : Launch) (o0 : Nat) (n : Nat) (K0 : rK) (a1 : Int64) (r : Int32) (h : F_Real_alignedPower n K0 a1 = some r) : Met l y_Real_alignedPower (.code y_Real_alignedPower b_Real_alignedPower 3 (some .int) :: BIG) ({ frames := 3, cells := 0, slots := 0, locals := 66 } : Room) (va_Pc [.ref o0, .long a1] (pre1 o0 K0)) (pQ (.int r)) 0 0 (fun _ => False) := by
  refine pOpen_i rfl (Nat.le_of_ble_eq_true rfl) ?_
  intro p e s m args below meth c Q ls hx hb hml hown hts hT hp hl hret
  obtain ⟨hNB, hRe_o0⟩ := hp
  have hown : s.vm.findClass R_Real = some m.cls := hown
  have hl : lv_has ls 3 [(0, .ref o0), (1, .long a1)] := hl
  have h : ((F_Real_alignment n K0 a1).bind fun x1 => some ((F_Real_power K0 a1) - x1)) = some r := h
  refine lv_aload_n hx hb d_Real_alignedPower_0 rfl (lv_at hl 0 rfl) ?_
  refine lv_lload_n hx hb d_Real_alignedPower_1 rfl (lv_at hl 1 rfl) ?_
  refine q_V (As := [.long a1]) (rest := []) (n := 1) hx hb hml hown hts (c_Real_power l o0 K0 a1) rfl rfl m_58 m_59 m_60 m_61 m_11 (by decide +kernel) ⟨Nat.le_of_ble_eq_true rfl, Nat.le_of_ble_eq_true rfl⟩ (rAt_rc hRe_o0) (p1_bl) (fun U hU hW => p1_mv hU hW hNB hRe_o0) rfl hl.1 rfl (Nat.le_of_ble_eq_true rfl) d_Real_alignedPower_2 ⟨Nat.zero_le _, Nat.zero_le _⟩ ?_
  refine lv_aload_n hx hb d_Real_alignedPower_5 rfl (lv_at hl 0 rfl) ?_
  refine lv_lload_n hx hb d_Real_alignedPower_6 rfl (lv_at hl 1 rfl) ?_
  obtain ⟨x1, e_x1, h⟩ := bd_o h
  refine q_V (As := [.long a1]) (rest := [.int (F_Real_power K0 a1)]) (n := 1) hx hb hml hown hts (c_Real_alignment l o0 n K0 a1 _ e_x1) rfl rfl m_77 m_78 m_79 m_80 m_11 (by decide +kernel) ⟨Nat.le_of_ble_eq_true rfl, Nat.le_of_ble_eq_true rfl⟩ (rAt_rc hRe_o0) (p1_bl) (fun U hU hW => p1_mv hU hW hNB hRe_o0) rfl hl.1 rfl (Nat.le_of_ble_eq_true rfl) d_Real_alignedPower_7 ⟨Nat.zero_le _, Nat.zero_le _⟩ ?_
  refine lv_isub hx hb d_Real_alignedPower_10 ?_
  exact hret 11 ls _ (Option.some.inj h) d_Real_alignedPower_11
-- Real_product
theorem d_Real_product_0 : decode b_Real_product 0 = .ok (.aload_n 0, 1) := by decide +kernel
theorem d_Real_product_1 : decode b_Real_product 1 = .ok (.lload_n 1, 1) := by decide +kernel
theorem d_Real_product_2 : decode b_Real_product 2 = .ok (.invokevirtual 52, 3) := by decide +kernel
theorem d_Real_product_5 : decode b_Real_product 5 = .ok (.aload_n 0, 1) := by decide +kernel
theorem d_Real_product_6 : decode b_Real_product 6 = .ok (.lload_n 3, 1) := by decide +kernel
theorem d_Real_product_7 : decode b_Real_product 7 = .ok (.invokevirtual 52, 3) := by decide +kernel
theorem d_Real_product_10 : decode b_Real_product 10 = .ok (.if_icmp .eq 7, 3) := by decide +kernel
theorem d_Real_product_13 : decode b_Real_product 13 = .ok (.iconst 1, 1) := by decide +kernel
theorem d_Real_product_14 : decode b_Real_product 14 = .ok (.goto 4, 3) := by decide +kernel
theorem d_Real_product_17 : decode b_Real_product 17 = .ok (.iconst 0, 1) := by decide +kernel
theorem d_Real_product_18 : decode b_Real_product 18 = .ok (.istore 5, 2) := by decide +kernel
theorem d_Real_product_20 : decode b_Real_product 20 = .ok (.aload_n 0, 1) := by decide +kernel
theorem d_Real_product_21 : decode b_Real_product 21 = .ok (.lload_n 1, 1) := by decide +kernel
theorem d_Real_product_22 : decode b_Real_product 22 = .ok (.invokevirtual 80, 3) := by decide +kernel
theorem d_Real_product_25 : decode b_Real_product 25 = .ok (.ifCond .ne 11, 3) := by decide +kernel
theorem d_Real_product_28 : decode b_Real_product 28 = .ok (.aload_n 0, 1) := by decide +kernel
theorem d_Real_product_29 : decode b_Real_product 29 = .ok (.lload_n 3, 1) := by decide +kernel
theorem d_Real_product_30 : decode b_Real_product 30 = .ok (.invokevirtual 80, 3) := by decide +kernel
theorem d_Real_product_33 : decode b_Real_product 33 = .ok (.ifCond .eq 37, 3) := by decide +kernel
theorem d_Real_product_36 : decode b_Real_product 36 = .ok (.aload_n 0, 1) := by decide +kernel
theorem d_Real_product_37 : decode b_Real_product 37 = .ok (.lload_n 1, 1) := by decide +kernel
theorem d_Real_product_38 : decode b_Real_product 38 = .ok (.invokevirtual 90, 3) := by decide +kernel
theorem d_Real_product_41 : decode b_Real_product 41 = .ok (.ifCond .ne 11, 3) := by decide +kernel
theorem d_Real_product_44 : decode b_Real_product 44 = .ok (.aload_n 0, 1) := by decide +kernel
theorem d_Real_product_45 : decode b_Real_product 45 = .ok (.lload_n 3, 1) := by decide +kernel
theorem d_Real_product_46 : decode b_Real_product 46 = .ok (.invokevirtual 90, 3) := by decide +kernel
theorem d_Real_product_49 : decode b_Real_product 49 = .ok (.ifCond .eq 10, 3) := by decide +kernel
theorem d_Real_product_52 : decode b_Real_product 52 = .ok (.aload_n 0, 1) := by decide +kernel
theorem d_Real_product_53 : decode b_Real_product 53 = .ok (.invokevirtual 72, 3) := by decide +kernel
theorem d_Real_product_56 : decode b_Real_product 56 = .ok (.goto 13, 3) := by decide +kernel
theorem d_Real_product_59 : decode b_Real_product 59 = .ok (.aload_n 0, 1) := by decide +kernel
theorem d_Real_product_60 : decode b_Real_product 60 = .ok (.iload 5, 2) := by decide +kernel
theorem d_Real_product_62 : decode b_Real_product 62 = .ok (.aload_n 0, 1) := by decide +kernel
theorem d_Real_product_63 : decode b_Real_product 63 = .ok (.getfield 45, 3) := by decide +kernel
theorem d_Real_product_66 : decode b_Real_product 66 = .ok (.invokevirtual 76, 3) := by decide +kernel
theorem d_Real_product_69 : decode b_Real_product 69 = .ok (.lreturn, 1) := by decide +kernel
theorem d_Real_product_70 : decode b_Real_product 70 = .ok (.aload_n 0, 1) := by decide +kernel
theorem d_Real_product_71 : decode b_Real_product 71 = .ok (.lload_n 1, 1) := by decide +kernel
theorem d_Real_product_72 : decode b_Real_product 72 = .ok (.invokevirtual 90, 3) := by decide +kernel
theorem d_Real_product_75 : decode b_Real_product 75 = .ok (.ifCond .ne 11, 3) := by decide +kernel
theorem d_Real_product_78 : decode b_Real_product 78 = .ok (.aload_n 0, 1) := by decide +kernel
theorem d_Real_product_79 : decode b_Real_product 79 = .ok (.lload_n 3, 1) := by decide +kernel
theorem d_Real_product_80 : decode b_Real_product 80 = .ok (.invokevirtual 90, 3) := by decide +kernel
theorem d_Real_product_83 : decode b_Real_product 83 = .ok (.ifCond .eq 11, 3) := by decide +kernel
theorem d_Real_product_86 : decode b_Real_product 86 = .ok (.aload_n 0, 1) := by decide +kernel
theorem d_Real_product_87 : decode b_Real_product 87 = .ok (.iload 5, 2) := by decide +kernel
theorem d_Real_product_89 : decode b_Real_product 89 = .ok (.lconst 0, 1) := by decide +kernel
theorem d_Real_product_90 : decode b_Real_product 90 = .ok (.invokevirtual 76, 3) := by decide +kernel
theorem d_Real_product_93 : decode b_Real_product 93 = .ok (.lreturn, 1) := by decide +kernel
theorem d_Real_product_94 : decode b_Real_product 94 = .ok (.aload_n 0, 1) := by decide +kernel
theorem d_Real_product_95 : decode b_Real_product 95 = .ok (.lload_n 1, 1) := by decide +kernel
theorem d_Real_product_96 : decode b_Real_product 96 = .ok (.invokevirtual 93, 3) := by decide +kernel
theorem d_Real_product_99 : decode b_Real_product 99 = .ok (.lstore 6, 2) := by decide +kernel
theorem d_Real_product_101 : decode b_Real_product 101 = .ok (.aload_n 0, 1) := by decide +kernel
theorem d_Real_product_102 : decode b_Real_product 102 = .ok (.lload_n 3, 1) := by decide +kernel
theorem d_Real_product_103 : decode b_Real_product 103 = .ok (.invokevirtual 93, 3) := by decide +kernel
theorem d_Real_product_106 : decode b_Real_product 106 = .ok (.lstore 8, 2) := by decide +kernel
theorem d_Real_product_108 : decode b_Real_product 108 = .ok (.lload 6, 2) := by decide +kernel
theorem d_Real_product_110 : decode b_Real_product 110 = .ok (.lload 8, 2) := by decide +kernel
theorem d_Real_product_112 : decode b_Real_product 112 = .ok (.invokestatic 96, 3) := by decide +kernel
theorem d_Real_product_115 : decode b_Real_product 115 = .ok (.lload 6, 2) := by decide +kernel
theorem d_Real_product_117 : decode b_Real_product 117 = .ok (.lload 8, 2) := by decide +kernel
theorem d_Real_product_119 : decode b_Real_product 119 = .ok (.lmul, 1) := by decide +kernel
theorem d_Real_product_120 : decode b_Real_product 120 = .ok (.lconst 0, 1) := by decide +kernel
theorem d_Real_product_121 : decode b_Real_product 121 = .ok (.lcmp, 1) := by decide +kernel
theorem d_Real_product_122 : decode b_Real_product 122 = .ok (.ifCond .eq 7, 3) := by decide +kernel
theorem d_Real_product_125 : decode b_Real_product 125 = .ok (.iconst 1, 1) := by decide +kernel
theorem d_Real_product_126 : decode b_Real_product 126 = .ok (.goto 4, 3) := by decide +kernel
theorem d_Real_product_129 : decode b_Real_product 129 = .ok (.iconst 0, 1) := by decide +kernel
theorem d_Real_product_130 : decode b_Real_product 130 = .ok (.invokestatic 99, 3) := by decide +kernel
theorem d_Real_product_133 : decode b_Real_product 133 = .ok (.lstore 10, 2) := by decide +kernel
theorem d_Real_product_135 : decode b_Real_product 135 = .ok (.aload_n 0, 1) := by decide +kernel
theorem d_Real_product_136 : decode b_Real_product 136 = .ok (.iload 5, 2) := by decide +kernel
theorem d_Real_product_138 : decode b_Real_product 138 = .ok (.aload_n 0, 1) := by decide +kernel
theorem d_Real_product_139 : decode b_Real_product 139 = .ok (.lload_n 1, 1) := by decide +kernel
theorem d_Real_product_140 : decode b_Real_product 140 = .ok (.invokevirtual 103, 3) := by decide +kernel
theorem d_Real_product_143 : decode b_Real_product 143 = .ok (.aload_n 0, 1) := by decide +kernel
theorem d_Real_product_144 : decode b_Real_product 144 = .ok (.lload_n 3, 1) := by decide +kernel
theorem d_Real_product_145 : decode b_Real_product 145 = .ok (.invokevirtual 103, 3) := by decide +kernel
theorem d_Real_product_148 : decode b_Real_product 148 = .ok (.iadd, 1) := by decide +kernel
theorem d_Real_product_149 : decode b_Real_product 149 = .ok (.bipush 64, 2) := by decide +kernel
theorem d_Real_product_151 : decode b_Real_product 151 = .ok (.iadd, 1) := by decide +kernel
theorem d_Real_product_152 : decode b_Real_product 152 = .ok (.lload 10, 2) := by decide +kernel
theorem d_Real_product_154 : decode b_Real_product 154 = .ok (.invokevirtual 106, 3) := by decide +kernel
theorem d_Real_product_157 : decode b_Real_product 157 = .ok (.lreturn, 1) := by decide +kernel
def F_Real_product (n : Nat) (K0 : rK) (a1 : Int64) (a2 : Int64) : Option (Int64) := lt_ (if (F_Real_isNegative K0 a1) = (F_Real_isNegative K0 a2) then (0 : Int32) else (1 : Int32)) fun x1 => lt_ (fun (_ : Unit) => lt_ (if ¬ (F_Real_isZero K0 a1) = 0 then F_Real_nan K0 else if (F_Real_isZero K0 a2) = 0 then F_Real_signed K0 x1 K0.2.2.2.2 else F_Real_nan K0) fun x2 => some x2) fun j36 => if ¬ (F_Real_isInfinite K0 a1) = 0 then (j36 ()) else (if (F_Real_isInfinite K0 a2) = 0 then (lt_ (fun (_ : Unit) => some (F_Real_signed K0 x1 (0 : Int64))) fun j86 => if ¬ (F_Real_isZero K0 a1) = 0 then (j86 ()) else (if (F_Real_isZero K0 a2) = 0 then ((F_Real_aligned n K0 a1).bind fun x3 => (F_Real_aligned n K0 a2).bind fun x4 => lt_ (if (x3 * x4) = (0 : Int64) then (0 : Int32) else (1 : Int32)) fun x5 => lt_ (F_Real_jammed (F_Real_highProduct x3 x4) x5) fun x6 => (F_Real_alignedPower n K0 a1).bind fun x7 => (F_Real_alignedPower n K0 a2).bind fun x8 => (F_Real_rounded n K0 x1 ((x7 + x8) + (64 : Int32)) x6).bind fun x9 => some x9) else (j86 ()))) else (j36 ()))
set_option maxHeartbeats 4000000 in
set_option maxRecDepth 100000 in
theorem c_Real_product (l : Launch) (o0 : Nat) (n : Nat) (K0 : rK) (a1 : Int64) (a2 : Int64) (r : Int64) (h : F_Real_product n K0 a1 a2 = some r) : Met l y_Real_product (.code y_Real_product b_Real_product 12 (some .long) :: BIG) ({ frames := 4, cells := 0, slots := 0, locals := 88 } : Room) (va_Pc [.ref o0, .long a1, .long a2] (pre1 o0 K0)) (pQ (.long r)) 0 0 (fun _ => False) := by
  refine pOpen_l rfl (Nat.le_of_ble_eq_true rfl) ?_
  intro p e s m args below meth c Q ls hx hb hml hown hts hT hp hl hret
  obtain ⟨hNB, hRe_o0⟩ := hp
  have hown : s.vm.findClass R_Real = some m.cls := hown
  have hl : lv_has ls 12 [(0, .ref o0), (1, .long a1), (3, .long a2)] := hl
  have h : (lt_ (if (F_Real_isNegative K0 a1) = (F_Real_isNegative K0 a2) then (0 : Int32) else (1 : Int32)) fun x1 => lt_ (fun (_ : Unit) => lt_ (if ¬ (F_Real_isZero K0 a1) = 0 then F_Real_nan K0 else if (F_Real_isZero K0 a2) = 0 then F_Real_signed K0 x1 K0.2.2.2.2 else F_Real_nan K0) fun x2 => some x2) fun j36 => if ¬ (F_Real_isInfinite K0 a1) = 0 then (j36 ()) else (if (F_Real_isInfinite K0 a2) = 0 then (lt_ (fun (_ : Unit) => some (F_Real_signed K0 x1 (0 : Int64))) fun j86 => if ¬ (F_Real_isZero K0 a1) = 0 then (j86 ()) else (if (F_Real_isZero K0 a2) = 0 then ((F_Real_aligned n K0 a1).bind fun x3 => (F_Real_aligned n K0 a2).bind fun x4 => lt_ (if (x3 * x4) = (0 : Int64) then (0 : Int32) else (1 : Int32)) fun x5 => lt_ (F_Real_jammed (F_Real_highProduct x3 x4) x5) fun x6 => (F_Real_alignedPower n K0 a1).bind fun x7 => (F_Real_alignedPower n K0 a2).bind fun x8 => (F_Real_rounded n K0 x1 ((x7 + x8) + (64 : Int32)) x6).bind fun x9 => some x9) else (j86 ()))) else (j36 ()))) = some r := h
  refine lv_aload_n hx hb d_Real_product_0 rfl (lv_at hl 0 rfl) ?_
  refine lv_lload_n hx hb d_Real_product_1 rfl (lv_at hl 1 rfl) ?_
  refine q_V (As := [.long a1]) (rest := []) (n := 1) hx hb hml hown hts (c_Real_isNegative l o0 K0 a1) rfl rfl m_12 m_13 m_14 m_15 m_11 (by decide +kernel) ⟨Nat.le_of_ble_eq_true rfl, Nat.le_of_ble_eq_true rfl⟩ (rAt_rc hRe_o0) (p1_bl) (fun U hU hW => p1_mv hU hW hNB hRe_o0) rfl hl.1 rfl (Nat.le_of_ble_eq_true rfl) d_Real_product_2 ⟨Nat.zero_le _, Nat.zero_le _⟩ ?_
  refine lv_aload_n hx hb d_Real_product_5 rfl (lv_at hl 0 rfl) ?_
  refine lv_lload_n hx hb d_Real_product_6 rfl (lv_at hl 2 rfl) ?_
  refine q_V (As := [.long a2]) (rest := [.int (F_Real_isNegative K0 a1)]) (n := 1) hx hb hml hown hts (c_Real_isNegative l o0 K0 a2) rfl rfl m_12 m_13 m_14 m_15 m_11 (by decide +kernel) ⟨Nat.le_of_ble_eq_true rfl, Nat.le_of_ble_eq_true rfl⟩ (rAt_rc hRe_o0) (p1_bl) (fun U hU hW => p1_mv hU hW hNB hRe_o0) rfl hl.1 rfl (Nat.le_of_ble_eq_true rfl) d_Real_product_7 ⟨Nat.zero_le _, Nat.zero_le _⟩ ?_
  obtain ⟨x1, e_x1, h⟩ := lt_o h
  have hJ18 : ∀ (x1' : Int32) (ls : Array Slot), x1 = x1' → lv_has ls 12 [(0, .ref o0), (1, .long a1), (3, .long a2)] → W p l e ({ frames := 4, cells := 0, slots := 0, locals := 88 } : Room) s m args below meth c s.heap [] 0 0 Q (F0 m 18 ls [.int x1']) := by
    intro x1' ls q_x1 hl
    subst q_x1
    refine lv_istore hx hb d_Real_product_18 hl (by decide) rfl (fun ls hl => ?_)
    have hl : lv_has ls 12 [(5, .int x1), (0, .ref o0), (1, .long a1), (3, .long a2)] := hl
    refine lv_aload_n hx hb d_Real_product_20 rfl (lv_at hl 1 rfl) ?_
    refine lv_lload_n hx hb d_Real_product_21 rfl (lv_at hl 2 rfl) ?_
    refine q_V (As := [.long a1]) (rest := []) (n := 1) hx hb hml hown hts (c_Real_isInfinite l o0 K0 a1) rfl rfl m_42 m_43 m_44 m_45 m_11 (by decide +kernel) ⟨Nat.le_of_ble_eq_true rfl, Nat.le_of_ble_eq_true rfl⟩ (rAt_rc hRe_o0) (p1_bl) (fun U hU hW => p1_mv hU hW hNB hRe_o0) rfl hl.1 rfl (Nat.le_of_ble_eq_true rfl) d_Real_product_22 ⟨Nat.zero_le _, Nat.zero_le _⟩ ?_
    obtain ⟨j36, e_j36, h⟩ := lt_o h
    have hJ36 : ∀ (ls : Array Slot), lv_has ls 12 [(0, .ref o0), (1, .long a1), (3, .long a2), (5, .int x1)] → j36 () = some r → W p l e ({ frames := 4, cells := 0, slots := 0, locals := 88 } : Room) s m args below meth c s.heap [] 0 0 Q (F0 m 36 ls []) := by
      intro  ls hl h
      rw [e_j36] at h
      refine lv_aload_n hx hb d_Real_product_36 rfl (lv_at hl 0 rfl) ?_
      refine lv_lload_n hx hb d_Real_product_37 rfl (lv_at hl 1 rfl) ?_
      refine q_V (As := [.long a1]) (rest := []) (n := 1) hx hb hml hown hts (c_Real_isZero l o0 K0 a1) rfl rfl m_82 m_83 m_84 m_85 m_11 (by decide +kernel) ⟨Nat.le_of_ble_eq_true rfl, Nat.le_of_ble_eq_true rfl⟩ (rAt_rc hRe_o0) (p1_bl) (fun U hU hW => p1_mv hU hW hNB hRe_o0) rfl hl.1 rfl (Nat.le_of_ble_eq_true rfl) d_Real_product_38 ⟨Nat.zero_le _, Nat.zero_le _⟩ ?_
      obtain ⟨x2, e_x2, h⟩ := lt_o h
      have hJ69 : ∀ (x2' : Int64) (ls : Array Slot), x2 = x2' → lv_has ls 12 [] → W p l e ({ frames := 4, cells := 0, slots := 0, locals := 88 } : Room) s m args below meth c s.heap [] 0 0 Q (F0 m 69 ls [.long x2']) := by
        intro x2' ls q_x2 hl
        subst q_x2
        exact hret 69 ls _ (Option.some.inj h) d_Real_product_69
      refine lv_if_ne (tgt := 52) hx hb d_Real_product_41 rfl (fun hc => ?_) (fun hc => ?_)
      · have e_x2 := e_x2.trans (if_pos hc)
        refine lv_aload_n hx hb d_Real_product_52 rfl (lv_at hl 0 rfl) ?_
        refine q_V (As := []) (rest := []) (n := 0) hx hb hml hown hts (c_Real_nan l o0 K0) rfl rfl m_38 m_39 m_40 m_41 m_11 (by decide +kernel) ⟨Nat.le_of_ble_eq_true rfl, Nat.le_of_ble_eq_true rfl⟩ (rAt_rc hRe_o0) (p1_bl) (fun U hU hW => p1_mv hU hW hNB hRe_o0) rfl hl.1 rfl (Nat.le_of_ble_eq_true rfl) d_Real_product_53 ⟨Nat.zero_le _, Nat.zero_le _⟩ ?_
        refine lv_goto (tgt := 69) hx hb d_Real_product_56 rfl ?_
        exact hJ69 _ ls e_x2 (lv_sub hl [] rfl)
      · have hc := not_not_intro hc
        have e_x2 := e_x2.trans (if_neg hc)
        refine lv_aload_n hx hb d_Real_product_44 rfl (lv_at hl 0 rfl) ?_
        refine lv_lload_n hx hb d_Real_product_45 rfl (lv_at hl 2 rfl) ?_
        refine q_V (As := [.long a2]) (rest := []) (n := 1) hx hb hml hown hts (c_Real_isZero l o0 K0 a2) rfl rfl m_82 m_83 m_84 m_85 m_11 (by decide +kernel) ⟨Nat.le_of_ble_eq_true rfl, Nat.le_of_ble_eq_true rfl⟩ (rAt_rc hRe_o0) (p1_bl) (fun U hU hW => p1_mv hU hW hNB hRe_o0) rfl hl.1 rfl (Nat.le_of_ble_eq_true rfl) d_Real_product_46 ⟨Nat.zero_le _, Nat.zero_le _⟩ ?_
        refine lv_if_eq (tgt := 59) hx hb d_Real_product_49 rfl (fun hc => ?_) (fun hc => ?_)
        · have e_x2 := e_x2.trans (if_pos hc)
          refine lv_aload_n hx hb d_Real_product_59 rfl (lv_at hl 0 rfl) ?_
          refine lv_iload hx hb d_Real_product_60 (lv_at hl 3 rfl) ?_
          refine lv_aload_n hx hb d_Real_product_62 rfl (lv_at hl 0 rfl) ?_
          refine vk_getf hx hb (hRe_o0.2.2.2.2.2) va_S.rf hown (hT _ m_4) (fun _ h9 => h9) d_Real_product_63 ?_
          refine q_V (As := [.int x1, .long K0.2.2.2.2]) (rest := []) (n := 2) hx hb hml hown hts (c_Real_signed l o0 K0 x1 K0.2.2.2.2) rfl rfl m_34 m_35 m_36 m_37 m_11 (by decide +kernel) ⟨Nat.le_of_ble_eq_true rfl, Nat.le_of_ble_eq_true rfl⟩ (rAt_rc hRe_o0) (p1_bl) (fun U hU hW => p1_mv hU hW hNB hRe_o0) rfl hl.1 rfl (Nat.le_of_ble_eq_true rfl) d_Real_product_66 ⟨Nat.zero_le _, Nat.zero_le _⟩ ?_
          exact hJ69 _ ls e_x2 (lv_sub hl [] rfl)
        · have e_x2 := e_x2.trans (if_neg hc)
          refine lv_aload_n hx hb d_Real_product_52 rfl (lv_at hl 0 rfl) ?_
          refine q_V (As := []) (rest := []) (n := 0) hx hb hml hown hts (c_Real_nan l o0 K0) rfl rfl m_38 m_39 m_40 m_41 m_11 (by decide +kernel) ⟨Nat.le_of_ble_eq_true rfl, Nat.le_of_ble_eq_true rfl⟩ (rAt_rc hRe_o0) (p1_bl) (fun U hU hW => p1_mv hU hW hNB hRe_o0) rfl hl.1 rfl (Nat.le_of_ble_eq_true rfl) d_Real_product_53 ⟨Nat.zero_le _, Nat.zero_le _⟩ ?_
          refine lv_goto (tgt := 69) hx hb d_Real_product_56 rfl ?_
          exact hJ69 _ ls e_x2 (lv_sub hl [] rfl)
    refine lv_if_ne (tgt := 36) hx hb d_Real_product_25 rfl (fun hc => ?_) (fun hc => ?_)
    · have h := ite_t hc h
      exact hJ36 ls (lv_sub hl [1, 2, 3, 0] rfl) h
    · have hc := not_not_intro hc
      have h := ite_f hc h
      refine lv_aload_n hx hb d_Real_product_28 rfl (lv_at hl 1 rfl) ?_
      refine lv_lload_n hx hb d_Real_product_29 rfl (lv_at hl 3 rfl) ?_
      refine q_V (As := [.long a2]) (rest := []) (n := 1) hx hb hml hown hts (c_Real_isInfinite l o0 K0 a2) rfl rfl m_42 m_43 m_44 m_45 m_11 (by decide +kernel) ⟨Nat.le_of_ble_eq_true rfl, Nat.le_of_ble_eq_true rfl⟩ (rAt_rc hRe_o0) (p1_bl) (fun U hU hW => p1_mv hU hW hNB hRe_o0) rfl hl.1 rfl (Nat.le_of_ble_eq_true rfl) d_Real_product_30 ⟨Nat.zero_le _, Nat.zero_le _⟩ ?_
      refine lv_if_eq (tgt := 70) hx hb d_Real_product_33 rfl (fun hc => ?_) (fun hc => ?_)
      · have h := ite_t hc h
        refine lv_aload_n hx hb d_Real_product_70 rfl (lv_at hl 1 rfl) ?_
        refine lv_lload_n hx hb d_Real_product_71 rfl (lv_at hl 2 rfl) ?_
        refine q_V (As := [.long a1]) (rest := []) (n := 1) hx hb hml hown hts (c_Real_isZero l o0 K0 a1) rfl rfl m_82 m_83 m_84 m_85 m_11 (by decide +kernel) ⟨Nat.le_of_ble_eq_true rfl, Nat.le_of_ble_eq_true rfl⟩ (rAt_rc hRe_o0) (p1_bl) (fun U hU hW => p1_mv hU hW hNB hRe_o0) rfl hl.1 rfl (Nat.le_of_ble_eq_true rfl) d_Real_product_72 ⟨Nat.zero_le _, Nat.zero_le _⟩ ?_
        obtain ⟨j86, e_j86, h⟩ := lt_o h
        have hJ86 : ∀ (ls : Array Slot), lv_has ls 12 [(0, .ref o0), (5, .int x1)] → j86 () = some r → W p l e ({ frames := 4, cells := 0, slots := 0, locals := 88 } : Room) s m args below meth c s.heap [] 0 0 Q (F0 m 86 ls []) := by
          intro  ls hl h
          rw [e_j86] at h
          refine lv_aload_n hx hb d_Real_product_86 rfl (lv_at hl 0 rfl) ?_
          refine lv_iload hx hb d_Real_product_87 (lv_at hl 1 rfl) ?_
          refine lv_lconst hx hb d_Real_product_89 lc_0 ?_
          refine q_V (As := [.int x1, .long (0 : Int64)]) (rest := []) (n := 2) hx hb hml hown hts (c_Real_signed l o0 K0 x1 (0 : Int64)) rfl rfl m_34 m_35 m_36 m_37 m_11 (by decide +kernel) ⟨Nat.le_of_ble_eq_true rfl, Nat.le_of_ble_eq_true rfl⟩ (rAt_rc hRe_o0) (p1_bl) (fun U hU hW => p1_mv hU hW hNB hRe_o0) rfl hl.1 rfl (Nat.le_of_ble_eq_true rfl) d_Real_product_90 ⟨Nat.zero_le _, Nat.zero_le _⟩ ?_
          exact hret 93 ls _ (Option.some.inj h) d_Real_product_93
        refine lv_if_ne (tgt := 86) hx hb d_Real_product_75 rfl (fun hc => ?_) (fun hc => ?_)
        · have h := ite_t hc h
          exact hJ86 ls (lv_sub hl [1, 0] rfl) h
        · have hc := not_not_intro hc
          have h := ite_f hc h
          refine lv_aload_n hx hb d_Real_product_78 rfl (lv_at hl 1 rfl) ?_
          refine lv_lload_n hx hb d_Real_product_79 rfl (lv_at hl 3 rfl) ?_
          refine q_V (As := [.long a2]) (rest := []) (n := 1) hx hb hml hown hts (c_Real_isZero l o0 K0 a2) rfl rfl m_82 m_83 m_84 m_85 m_11 (by decide +kernel) ⟨Nat.le_of_ble_eq_true rfl, Nat.le_of_ble_eq_true rfl⟩ (rAt_rc hRe_o0) (p1_bl) (fun U hU hW => p1_mv hU hW hNB hRe_o0) rfl hl.1 rfl (Nat.le_of_ble_eq_true rfl) d_Real_product_80 ⟨Nat.zero_le _, Nat.zero_le _⟩ ?_
          refine lv_if_eq (tgt := 94) hx hb d_Real_product_83 rfl (fun hc => ?_) (fun hc => ?_)
          · have h := ite_t hc h
            refine lv_aload_n hx hb d_Real_product_94 rfl (lv_at hl 1 rfl) ?_
            refine lv_lload_n hx hb d_Real_product_95 rfl (lv_at hl 2 rfl) ?_
            obtain ⟨x3, e_x3, h⟩ := bd_o h
            refine q_V (As := [.long a1]) (rest := []) (n := 1) hx hb hml hown hts (c_Real_aligned l o0 n K0 a1 _ e_x3) rfl rfl m_86 m_87 m_88 m_89 m_11 (by decide +kernel) ⟨Nat.le_of_ble_eq_true rfl, Nat.le_of_ble_eq_true rfl⟩ (rAt_rc hRe_o0) (p1_bl) (fun U hU hW => p1_mv hU hW hNB hRe_o0) rfl hl.1 rfl (Nat.le_of_ble_eq_true rfl) d_Real_product_96 ⟨Nat.zero_le _, Nat.zero_le _⟩ ?_
            refine lv_lstore hx hb d_Real_product_99 hl (by decide) rfl (fun ls hl => ?_)
            have hl : lv_has ls 12 [(6, .long x3), (5, .int x1), (0, .ref o0), (1, .long a1), (3, .long a2)] := hl
            refine lv_aload_n hx hb d_Real_product_101 rfl (lv_at hl 2 rfl) ?_
            refine lv_lload_n hx hb d_Real_product_102 rfl (lv_at hl 4 rfl) ?_
            obtain ⟨x4, e_x4, h⟩ := bd_o h
            refine q_V (As := [.long a2]) (rest := []) (n := 1) hx hb hml hown hts (c_Real_aligned l o0 n K0 a2 _ e_x4) rfl rfl m_86 m_87 m_88 m_89 m_11 (by decide +kernel) ⟨Nat.le_of_ble_eq_true rfl, Nat.le_of_ble_eq_true rfl⟩ (rAt_rc hRe_o0) (p1_bl) (fun U hU hW => p1_mv hU hW hNB hRe_o0) rfl hl.1 rfl (Nat.le_of_ble_eq_true rfl) d_Real_product_103 ⟨Nat.zero_le _, Nat.zero_le _⟩ ?_
            refine lv_lstore hx hb d_Real_product_106 hl (by decide) rfl (fun ls hl => ?_)
            have hl : lv_has ls 12 [(8, .long x4), (6, .long x3), (5, .int x1), (0, .ref o0), (1, .long a1), (3, .long a2)] := hl
            refine lv_lload hx hb d_Real_product_108 (lv_at hl 1 rfl) ?_
            refine lv_lload hx hb d_Real_product_110 (lv_at hl 0 rfl) ?_
            refine q_S (As := [.long x3, .long x4]) (rest := []) (n := 2) hx hb hml hown hts (c_Real_highProduct l x3 x4) rfl rfl m_90 m_91 m_92 m_11 (by decide +kernel) ⟨Nat.le_of_ble_eq_true rfl, Nat.le_of_ble_eq_true rfl⟩ (p0_bl) (fun U hU hW => p0_mv hU hW hNB) rfl hl.1 rfl (Nat.le_of_ble_eq_true rfl) d_Real_product_112 ⟨Nat.zero_le _, Nat.zero_le _⟩ ?_
            refine lv_lload hx hb d_Real_product_115 (lv_at hl 1 rfl) ?_
            refine lv_lload hx hb d_Real_product_117 (lv_at hl 0 rfl) ?_
            refine lv_lmul hx hb d_Real_product_119 ?_
            refine lv_lconst hx hb d_Real_product_120 lc_0 ?_
            refine W.lcmp hx hb d_Real_product_121 ?_
            obtain ⟨x5, e_x5, h⟩ := lt_o h
            have hJ130 : ∀ (x5' : Int32) (ls : Array Slot), x5 = x5' → lv_has ls 12 [(0, .ref o0), (1, .long a1), (3, .long a2), (5, .int x1)] → W p l e ({ frames := 4, cells := 0, slots := 0, locals := 88 } : Room) s m args below meth c s.heap [] 0 0 Q (F0 m 130 ls [.int x5', .long (F_Real_highProduct x3 x4)]) := by
              intro x5' ls q_x5 hl
              subst q_x5
              refine q_S (As := [.long (F_Real_highProduct x3 x4), .int x5]) (rest := []) (n := 2) hx hb hml hown hts (c_Real_jammed l (F_Real_highProduct x3 x4) x5) rfl rfl m_46 m_47 m_48 m_11 (by decide +kernel) ⟨Nat.le_of_ble_eq_true rfl, Nat.le_of_ble_eq_true rfl⟩ (p0_bl) (fun U hU hW => p0_mv hU hW hNB) rfl hl.1 rfl (Nat.le_of_ble_eq_true rfl) d_Real_product_130 ⟨Nat.zero_le _, Nat.zero_le _⟩ ?_
              refine lv_topl (fun x6 e_x6 => ?_)
              have h := lt_h e_x6 h
              refine lv_lstore hx hb d_Real_product_133 hl (by decide) rfl (fun ls hl => ?_)
              have hl : lv_has ls 12 [(10, .long x6), (0, .ref o0), (1, .long a1), (3, .long a2), (5, .int x1)] := hl
              refine lv_aload_n hx hb d_Real_product_135 rfl (lv_at hl 1 rfl) ?_
              refine lv_iload hx hb d_Real_product_136 (lv_at hl 4 rfl) ?_
              refine lv_aload_n hx hb d_Real_product_138 rfl (lv_at hl 1 rfl) ?_
              refine lv_lload_n hx hb d_Real_product_139 rfl (lv_at hl 2 rfl) ?_
              obtain ⟨x7, e_x7, h⟩ := bd_o h
              refine q_V (As := [.long a1]) (rest := [.int x1, .ref o0]) (n := 1) hx hb hml hown hts (c_Real_alignedPower l o0 n K0 a1 _ e_x7) rfl rfl m_93 m_94 m_95 m_96 m_11 (by decide +kernel) ⟨Nat.le_of_ble_eq_true rfl, Nat.le_of_ble_eq_true rfl⟩ (rAt_rc hRe_o0) (p1_bl) (fun U hU hW => p1_mv hU hW hNB hRe_o0) rfl hl.1 rfl (Nat.le_of_ble_eq_true rfl) d_Real_product_140 ⟨Nat.zero_le _, Nat.zero_le _⟩ ?_
              refine lv_aload_n hx hb d_Real_product_143 rfl (lv_at hl 1 rfl) ?_
              refine lv_lload_n hx hb d_Real_product_144 rfl (lv_at hl 3 rfl) ?_
              obtain ⟨x8, e_x8, h⟩ := bd_o h
              refine q_V (As := [.long a2]) (rest := [.int x7, .int x1, .ref o0]) (n := 1) hx hb hml hown hts (c_Real_alignedPower l o0 n K0 a2 _ e_x8) rfl rfl m_93 m_94 m_95 m_96 m_11 (by decide +kernel) ⟨Nat.le_of_ble_eq_true rfl, Nat.le_of_ble_eq_true rfl⟩ (rAt_rc hRe_o0) (p1_bl) (fun U hU hW => p1_mv hU hW hNB hRe_o0) rfl hl.1 rfl (Nat.le_of_ble_eq_true rfl) d_Real_product_145 ⟨Nat.zero_le _, Nat.zero_le _⟩ ?_
              refine lv_iadd hx hb d_Real_product_148 ?_
              refine lv_bipush hx hb d_Real_product_149 bp_64 ?_
              refine lv_iadd hx hb d_Real_product_151 ?_
              refine lv_lload hx hb d_Real_product_152 (lv_at hl 0 rfl) ?_
              obtain ⟨x9, e_x9, h⟩ := bd_o h
              refine q_V (As := [.int x1, .int ((x7 + x8) + (64 : Int32)), .long x6]) (rest := []) (n := 3) hx hb hml hown hts (c_Real_rounded l o0 n K0 x1 ((x7 + x8) + (64 : Int32)) x6 _ e_x9) rfl rfl m_65 m_66 m_67 m_68 m_11 (by decide +kernel) ⟨Nat.le_of_ble_eq_true rfl, Nat.le_of_ble_eq_true rfl⟩ (rAt_rc hRe_o0) (p1_bl) (fun U hU hW => p1_mv hU hW hNB hRe_o0) rfl hl.1 rfl (Nat.le_of_ble_eq_true rfl) d_Real_product_154 ⟨Nat.zero_le _, Nat.zero_le _⟩ ?_
              exact hret 157 ls _ (Option.some.inj h) d_Real_product_157
            refine lv_if_eq (tgt := 129) hx hb d_Real_product_122 rfl (fun hc => ?_) (fun hc => ?_)
            · have hc := (lg_cmp_eq _ _).mp hc
              have e_x5 := e_x5.trans (if_pos hc)
              refine lv_iconst hx hb d_Real_product_129 ic_0 ?_
              exact hJ130 _ ls e_x5 (lv_sub hl [3, 4, 5, 2] rfl)
            · have hc := mt (lg_cmp_eq _ _).mpr hc
              have e_x5 := e_x5.trans (if_neg hc)
              refine lv_iconst hx hb d_Real_product_125 ic_1 ?_
              refine lv_goto (tgt := 130) hx hb d_Real_product_126 rfl ?_
              exact hJ130 _ ls e_x5 (lv_sub hl [3, 4, 5, 2] rfl)
          · have h := ite_f hc h
            exact hJ86 ls (lv_sub hl [1, 0] rfl) h
      · have h := ite_f hc h
        exact hJ36 ls (lv_sub hl [1, 2, 3, 0] rfl) h
  refine lv_icmp_eq (tgt := 17) hx hb d_Real_product_10 rfl (fun hc => ?_) (fun hc => ?_)
  · have e_x1 := e_x1.trans (if_pos hc)
    refine lv_iconst hx hb d_Real_product_17 ic_0 ?_
    exact hJ18 _ ls e_x1 (lv_sub hl [0, 1, 2] rfl)
  · have e_x1 := e_x1.trans (if_neg hc)
    refine lv_iconst hx hb d_Real_product_13 ic_1 ?_
    refine lv_goto (tgt := 18) hx hb d_Real_product_14 rfl ?_
    exact hJ18 _ ls e_x1 (lv_sub hl [0, 1, 2] rfl)
end
section
-- Real_dividedSignificands
theorem d_Real_dividedSignificands_0 : decode b_Real_dividedSignificands 0 = .ok (.lload_n 2, 1) := by decide +kernel
theorem d_Real_dividedSignificands_1 : decode b_Real_dividedSignificands 1 = .ok (.bipush 10, 2) := by decide +kernel
theorem d_Real_dividedSignificands_3 : decode b_Real_dividedSignificands 3 = .ok (.lushr, 1) := by decide +kernel
theorem d_Real_dividedSignificands_4 : decode b_Real_dividedSignificands 4 = .ok (.lstore 4, 2) := by decide +kernel
theorem d_Real_dividedSignificands_6 : decode b_Real_dividedSignificands 6 = .ok (.lload 4, 2) := by decide +kernel
theorem d_Real_dividedSignificands_8 : decode b_Real_dividedSignificands 8 = .ok (.lconst 0, 1) := by decide +kernel
theorem d_Real_dividedSignificands_9 : decode b_Real_dividedSignificands 9 = .ok (.lcmp, 1) := by decide +kernel
theorem d_Real_dividedSignificands_10 : decode b_Real_dividedSignificands 10 = .ok (.ifCond .ne 5, 3) := by decide +kernel
theorem d_Real_dividedSignificands_13 : decode b_Real_dividedSignificands 13 = .ok (.lconst 0, 1) := by decide +kernel
theorem d_Real_dividedSignificands_14 : decode b_Real_dividedSignificands 14 = .ok (.lreturn, 1) := by decide +kernel
theorem d_Real_dividedSignificands_15 : decode b_Real_dividedSignificands 15 = .ok (.lload_n 0, 1) := by decide +kernel
theorem d_Real_dividedSignificands_16 : decode b_Real_dividedSignificands 16 = .ok (.bipush 10, 2) := by decide +kernel
theorem d_Real_dividedSignificands_18 : decode b_Real_dividedSignificands 18 = .ok (.lushr, 1) := by decide +kernel
theorem d_Real_dividedSignificands_19 : decode b_Real_dividedSignificands 19 = .ok (.lstore 6, 2) := by decide +kernel
theorem d_Real_dividedSignificands_21 : decode b_Real_dividedSignificands 21 = .ok (.lload 6, 2) := by decide +kernel
theorem d_Real_dividedSignificands_23 : decode b_Real_dividedSignificands 23 = .ok (.lload 4, 2) := by decide +kernel
theorem d_Real_dividedSignificands_25 : decode b_Real_dividedSignificands 25 = .ok (.ldiv, 1) := by decide +kernel
theorem d_Real_dividedSignificands_26 : decode b_Real_dividedSignificands 26 = .ok (.lstore 8, 2) := by decide +kernel
theorem d_Real_dividedSignificands_28 : decode b_Real_dividedSignificands 28 = .ok (.lload 6, 2) := by decide +kernel
theorem d_Real_dividedSignificands_30 : decode b_Real_dividedSignificands 30 = .ok (.lload 4, 2) := by decide +kernel
theorem d_Real_dividedSignificands_32 : decode b_Real_dividedSignificands 32 = .ok (.lrem, 1) := by decide +kernel
theorem d_Real_dividedSignificands_33 : decode b_Real_dividedSignificands 33 = .ok (.lstore 6, 2) := by decide +kernel
theorem d_Real_dividedSignificands_35 : decode b_Real_dividedSignificands 35 = .ok (.iconst 0, 1) := by decide +kernel
theorem d_Real_dividedSignificands_36 : decode b_Real_dividedSignificands 36 = .ok (.istore 10, 2) := by decide +kernel
theorem d_Real_dividedSignificands_38 : decode b_Real_dividedSignificands 38 = .ok (.iload 10, 2) := by decide +kernel
theorem d_Real_dividedSignificands_40 : decode b_Real_dividedSignificands 40 = .ok (.bipush 6, 2) := by decide +kernel
theorem d_Real_dividedSignificands_42 : decode b_Real_dividedSignificands 42 = .ok (.if_icmp .ge 36, 3) := by decide +kernel
theorem d_Real_dividedSignificands_45 : decode b_Real_dividedSignificands 45 = .ok (.lload 6, 2) := by decide +kernel
theorem d_Real_dividedSignificands_47 : decode b_Real_dividedSignificands 47 = .ok (.bipush 10, 2) := by decide +kernel
theorem d_Real_dividedSignificands_49 : decode b_Real_dividedSignificands 49 = .ok (.lshl, 1) := by decide +kernel
theorem d_Real_dividedSignificands_50 : decode b_Real_dividedSignificands 50 = .ok (.lstore 6, 2) := by decide +kernel
theorem d_Real_dividedSignificands_52 : decode b_Real_dividedSignificands 52 = .ok (.lload 8, 2) := by decide +kernel
theorem d_Real_dividedSignificands_54 : decode b_Real_dividedSignificands 54 = .ok (.bipush 10, 2) := by decide +kernel
theorem d_Real_dividedSignificands_56 : decode b_Real_dividedSignificands 56 = .ok (.lshl, 1) := by decide +kernel
theorem d_Real_dividedSignificands_57 : decode b_Real_dividedSignificands 57 = .ok (.lload 6, 2) := by decide +kernel
theorem d_Real_dividedSignificands_59 : decode b_Real_dividedSignificands 59 = .ok (.lload 4, 2) := by decide +kernel
theorem d_Real_dividedSignificands_61 : decode b_Real_dividedSignificands 61 = .ok (.ldiv, 1) := by decide +kernel
theorem d_Real_dividedSignificands_62 : decode b_Real_dividedSignificands 62 = .ok (.lor, 1) := by decide +kernel
theorem d_Real_dividedSignificands_63 : decode b_Real_dividedSignificands 63 = .ok (.lstore 8, 2) := by decide +kernel
theorem d_Real_dividedSignificands_65 : decode b_Real_dividedSignificands 65 = .ok (.lload 6, 2) := by decide +kernel
theorem d_Real_dividedSignificands_67 : decode b_Real_dividedSignificands 67 = .ok (.lload 4, 2) := by decide +kernel
theorem d_Real_dividedSignificands_69 : decode b_Real_dividedSignificands 69 = .ok (.lrem, 1) := by decide +kernel
theorem d_Real_dividedSignificands_70 : decode b_Real_dividedSignificands 70 = .ok (.lstore 6, 2) := by decide +kernel
theorem d_Real_dividedSignificands_72 : decode b_Real_dividedSignificands 72 = .ok (.iinc 10 1, 3) := by decide +kernel
theorem d_Real_dividedSignificands_75 : decode b_Real_dividedSignificands 75 = .ok (.goto (-37), 3) := by decide +kernel
theorem d_Real_dividedSignificands_78 : decode b_Real_dividedSignificands 78 = .ok (.lload 8, 2) := by decide +kernel
theorem d_Real_dividedSignificands_80 : decode b_Real_dividedSignificands 80 = .ok (.lload 6, 2) := by decide +kernel
theorem d_Real_dividedSignificands_82 : decode b_Real_dividedSignificands 82 = .ok (.lconst 0, 1) := by decide +kernel
theorem d_Real_dividedSignificands_83 : decode b_Real_dividedSignificands 83 = .ok (.lcmp, 1) := by decide +kernel
theorem d_Real_dividedSignificands_84 : decode b_Real_dividedSignificands 84 = .ok (.ifCond .eq 7, 3) := by decide +kernel
theorem d_Real_dividedSignificands_87 : decode b_Real_dividedSignificands 87 = .ok (.iconst 1, 1) := by decide +kernel
theorem d_Real_dividedSignificands_88 : decode b_Real_dividedSignificands 88 = .ok (.goto 4, 3) := by decide +kernel
theorem d_Real_dividedSignificands_91 : decode b_Real_dividedSignificands 91 = .ok (.iconst 0, 1) := by decide +kernel
theorem d_Real_dividedSignificands_92 : decode b_Real_dividedSignificands 92 = .ok (.invokestatic 99, 3) := by decide +kernel
theorem d_Real_dividedSignificands_95 : decode b_Real_dividedSignificands 95 = .ok (.lreturn, 1) := by decide +kernel
def F_Real_dividedSignificands_L38 (x1 : Int64) (j78 : (Int64 → Int64 → Option (Int64))) : Nat → Int64 → Int64 → Int32 → Option (Int64)
  | 0, _, _, _ => none
  | n+1, y8, y9, y10 => if (6 : Int32) ≤ y10 then (j78 y8 y9) else (lt_ (y8 <<< (((10 : Int32)).toInt64 &&& 63)) fun x11 => gz_ (x1 = 0) <| lt_ ((y9 <<< (((10 : Int32)).toInt64 &&& 63)) ||| (x11 / x1)) fun x12 => gz_ (x1 = 0) <| lt_ (x11 - x11 / x1 * x1) fun x13 => lt_ (y10 + Int32.ofInt 1) fun x14 => F_Real_dividedSignificands_L38 x1 j78 n x13 x12 x14)
def F_Real_dividedSignificands (n : Nat) (a0 : Int64) (a1 : Int64) : Option (Int64) := lt_ (((a1).toUInt64 >>> (((10 : Int32)).toInt64.toUInt64 &&& Int64.toUInt64 63)).toInt64) fun x1 => if ¬ x1 = (0 : Int64) then (lt_ (((a0).toUInt64 >>> (((10 : Int32)).toInt64.toUInt64 &&& Int64.toUInt64 63)).toInt64) fun x2 => gz_ (x1 = 0) <| lt_ (x2 / x1) fun x3 => gz_ (x1 = 0) <| lt_ (x2 - x2 / x1 * x1) fun x4 => lt_ (fun (y5 : Int64) (y6 : Int64) => lt_ (if y5 = (0 : Int64) then (0 : Int32) else (1 : Int32)) fun x7 => some (F_Real_jammed y6 x7)) fun j78 => F_Real_dividedSignificands_L38 x1 j78 n x4 x3 (0 : Int32)) else (some (0 : Int64))
set_option maxHeartbeats 4000000 in
set_option maxRecDepth 100000 in
theorem c_Real_dividedSignificands (l : Launch) (n : Nat) (a0 : Int64) (a1 : Int64) (r : Int64) (h : F_Real_dividedSignificands n a0 a1 = some r) : Met l y_Real_dividedSignificands (.code y_Real_dividedSignificands b_Real_dividedSignificands 11 (some .long) :: BIG) ({ frames := 1, cells := 0, slots := 0, locals := 22 } : Room) (va_Pc [.long a0, .long a1] (pre0)) (pQ (.long r)) 0 0 (fun _ => False) := by
  refine pOpen_l rfl (Nat.le_of_ble_eq_true rfl) ?_
  intro p e s m args below meth c Q ls hx hb hml hown hts hT hp hl hret
  have hNB := hp
  have hown : s.vm.findClass R_Real = some m.cls := hown
  have hl : lv_has ls 11 [(0, .long a0), (2, .long a1)] := hl
  have h : (lt_ (((a1).toUInt64 >>> (((10 : Int32)).toInt64.toUInt64 &&& Int64.toUInt64 63)).toInt64) fun x1 => if ¬ x1 = (0 : Int64) then (lt_ (((a0).toUInt64 >>> (((10 : Int32)).toInt64.toUInt64 &&& Int64.toUInt64 63)).toInt64) fun x2 => gz_ (x1 = 0) <| lt_ (x2 / x1) fun x3 => gz_ (x1 = 0) <| lt_ (x2 - x2 / x1 * x1) fun x4 => lt_ (fun (y5 : Int64) (y6 : Int64) => lt_ (if y5 = (0 : Int64) then (0 : Int32) else (1 : Int32)) fun x7 => some (F_Real_jammed y6 x7)) fun j78 => F_Real_dividedSignificands_L38 x1 j78 n x4 x3 (0 : Int32)) else (some (0 : Int64))) = some r := h
  refine lv_lload_n hx hb d_Real_dividedSignificands_0 rfl (lv_at hl 1 rfl) ?_
  refine lv_bipush hx hb d_Real_dividedSignificands_1 bp_10 ?_
  refine lv_lushr hx hb d_Real_dividedSignificands_3 rfl ?_
  refine lv_topl (fun x1 e_x1 => ?_)
  have h := lt_h e_x1 h
  refine lv_lstore hx hb d_Real_dividedSignificands_4 hl (by decide) rfl (fun ls hl => ?_)
  have hl : lv_has ls 11 [(4, .long x1), (0, .long a0), (2, .long a1)] := hl
  refine lv_lload hx hb d_Real_dividedSignificands_6 (lv_at hl 0 rfl) ?_
  refine lv_lconst hx hb d_Real_dividedSignificands_8 lc_0 ?_
  refine W.lcmp hx hb d_Real_dividedSignificands_9 ?_
  refine lv_if_ne (tgt := 15) hx hb d_Real_dividedSignificands_10 rfl (fun hc => ?_) (fun hc => ?_)
  · have hc := mt (lg_cmp_eq _ _).mpr hc
    have h := ite_t hc h
    refine lv_lload_n hx hb d_Real_dividedSignificands_15 rfl (lv_at hl 1 rfl) ?_
    refine lv_bipush hx hb d_Real_dividedSignificands_16 bp_10 ?_
    refine lv_lushr hx hb d_Real_dividedSignificands_18 rfl ?_
    refine lv_topl (fun x2 e_x2 => ?_)
    have h := lt_h e_x2 h
    refine lv_lstore hx hb d_Real_dividedSignificands_19 hl (by decide) rfl (fun ls hl => ?_)
    have hl : lv_has ls 11 [(6, .long x2), (4, .long x1), (0, .long a0), (2, .long a1)] := hl
    refine lv_lload hx hb d_Real_dividedSignificands_21 (lv_at hl 0 rfl) ?_
    refine lv_lload hx hb d_Real_dividedSignificands_23 (lv_at hl 1 rfl) ?_
    have hz := gz_n h
    have h := gz_h h
    refine lv_ldiv hx hb d_Real_dividedSignificands_25 hz ?_
    refine lv_topl (fun x3 e_x3 => ?_)
    have h := lt_h e_x3 h
    refine lv_lstore hx hb d_Real_dividedSignificands_26 hl (by decide) rfl (fun ls hl => ?_)
    have hl : lv_has ls 11 [(8, .long x3), (6, .long x2), (4, .long x1), (0, .long a0), (2, .long a1)] := hl
    refine lv_lload hx hb d_Real_dividedSignificands_28 (lv_at hl 1 rfl) ?_
    refine lv_lload hx hb d_Real_dividedSignificands_30 (lv_at hl 2 rfl) ?_
    have hz := gz_n h
    have h := gz_h h
    refine lv_lrem hx hb d_Real_dividedSignificands_32 hz ?_
    refine lv_topl (fun x4 e_x4 => ?_)
    have h := lt_h e_x4 h
    refine lv_lstore hx hb d_Real_dividedSignificands_33 hl (by decide) rfl (fun ls hl => ?_)
    have hl : lv_has ls 11 [(6, .long x4), (8, .long x3), (4, .long x1), (0, .long a0), (2, .long a1)] := hl
    refine lv_iconst hx hb d_Real_dividedSignificands_35 ic_0 ?_
    refine lv_istore hx hb d_Real_dividedSignificands_36 hl (by decide) rfl (fun ls hl => ?_)
    have hl : lv_has ls 11 [(10, .int (0 : Int32)), (6, .long x4), (8, .long x3), (4, .long x1), (0, .long a0), (2, .long a1)] := hl
    obtain ⟨j78, e_j78, h⟩ := lt_o h
    have hJ78 : ∀ (y5 : Int64) (y6 : Int64) (ls : Array Slot), lv_has ls 11 [(6, .long y5), (8, .long y6)] → j78 y5 y6 = some r → W p l e ({ frames := 1, cells := 0, slots := 0, locals := 22 } : Room) s m args below meth c s.heap [] 0 0 Q (F0 m 78 ls []) := by
      intro y5 y6 ls hl h
      rw [e_j78] at h
      refine lv_lload hx hb d_Real_dividedSignificands_78 (lv_at hl 1 rfl) ?_
      refine lv_lload hx hb d_Real_dividedSignificands_80 (lv_at hl 0 rfl) ?_
      refine lv_lconst hx hb d_Real_dividedSignificands_82 lc_0 ?_
      refine W.lcmp hx hb d_Real_dividedSignificands_83 ?_
      obtain ⟨x7, e_x7, h⟩ := lt_o h
      have hJ92 : ∀ (x7' : Int32) (ls : Array Slot), x7 = x7' → lv_has ls 11 [] → W p l e ({ frames := 1, cells := 0, slots := 0, locals := 22 } : Room) s m args below meth c s.heap [] 0 0 Q (F0 m 92 ls [.int x7', .long y6]) := by
        intro x7' ls q_x7 hl
        subst q_x7
        refine q_S (As := [.long y6, .int x7]) (rest := []) (n := 2) hx hb hml hown hts (c_Real_jammed l y6 x7) rfl rfl m_46 m_47 m_48 m_11 (by decide +kernel) ⟨Nat.le_of_ble_eq_true rfl, Nat.le_of_ble_eq_true rfl⟩ (p0_bl) (fun U hU hW => p0_mv hU hW hNB) rfl hl.1 rfl (Nat.le_of_ble_eq_true rfl) d_Real_dividedSignificands_92 ⟨Nat.zero_le _, Nat.zero_le _⟩ ?_
        exact hret 95 ls _ (Option.some.inj h) d_Real_dividedSignificands_95
      refine lv_if_eq (tgt := 91) hx hb d_Real_dividedSignificands_84 rfl (fun hc => ?_) (fun hc => ?_)
      · have hc := (lg_cmp_eq _ _).mp hc
        have e_x7 := e_x7.trans (if_pos hc)
        refine lv_iconst hx hb d_Real_dividedSignificands_91 ic_0 ?_
        exact hJ92 _ ls e_x7 (lv_sub hl [] rfl)
      · have hc := mt (lg_cmp_eq _ _).mpr hc
        have e_x7 := e_x7.trans (if_neg hc)
        refine lv_iconst hx hb d_Real_dividedSignificands_87 ic_1 ?_
        refine lv_goto (tgt := 92) hx hb d_Real_dividedSignificands_88 rfl ?_
        exact hJ92 _ ls e_x7 (lv_sub hl [] rfl)
    have hL38 : ∀ (n : Nat) (y8 : Int64) (y9 : Int64) (y10 : Int32) (ls : Array Slot), lv_has ls 11 [(4, .long x1), (6, .long y8), (8, .long y9), (10, .int y10)] → F_Real_dividedSignificands_L38 x1 j78 n y8 y9 y10 = some r → W p l e ({ frames := 1, cells := 0, slots := 0, locals := 22 } : Room) s m args below meth c s.heap [] 0 0 Q (F0 m 38 ls []) := by
      intro n
      induction n with
      | zero => intro y8 y9 y10 ls hl h; exact no_s h
      | succ n ih =>
        intro y8 y9 y10 ls hl h
        have h : (if (6 : Int32) ≤ y10 then (j78 y8 y9) else (lt_ (y8 <<< (((10 : Int32)).toInt64 &&& 63)) fun x11 => gz_ (x1 = 0) <| lt_ ((y9 <<< (((10 : Int32)).toInt64 &&& 63)) ||| (x11 / x1)) fun x12 => gz_ (x1 = 0) <| lt_ (x11 - x11 / x1 * x1) fun x13 => lt_ (y10 + Int32.ofInt 1) fun x14 => F_Real_dividedSignificands_L38 x1 j78 n x13 x12 x14)) = some r := h
        refine lv_iload hx hb d_Real_dividedSignificands_38 (lv_at hl 3 rfl) ?_
        refine lv_bipush hx hb d_Real_dividedSignificands_40 bp_6 ?_
        refine lv_icmp_ge (tgt := 78) hx hb d_Real_dividedSignificands_42 rfl (fun hc => ?_) (fun hc => ?_)
        · have h := ite_t hc h
          exact hJ78 _ _ ls (lv_sub hl [1, 2] rfl) h
        · have h := ite_f hc h
          refine lv_lload hx hb d_Real_dividedSignificands_45 (lv_at hl 1 rfl) ?_
          refine lv_bipush hx hb d_Real_dividedSignificands_47 bp_10 ?_
          refine lv_lshl hx hb d_Real_dividedSignificands_49 rfl ?_
          refine lv_topl (fun x11 e_x11 => ?_)
          have h := lt_h e_x11 h
          refine lv_lstore hx hb d_Real_dividedSignificands_50 hl (by decide) rfl (fun ls hl => ?_)
          have hl : lv_has ls 11 [(6, .long x11), (4, .long x1), (8, .long y9), (10, .int y10)] := hl
          refine lv_lload hx hb d_Real_dividedSignificands_52 (lv_at hl 2 rfl) ?_
          refine lv_bipush hx hb d_Real_dividedSignificands_54 bp_10 ?_
          refine lv_lshl hx hb d_Real_dividedSignificands_56 rfl ?_
          refine lv_lload hx hb d_Real_dividedSignificands_57 (lv_at hl 0 rfl) ?_
          refine lv_lload hx hb d_Real_dividedSignificands_59 (lv_at hl 1 rfl) ?_
          have hz := gz_n h
          have h := gz_h h
          refine lv_ldiv hx hb d_Real_dividedSignificands_61 hz ?_
          refine lv_lor hx hb d_Real_dividedSignificands_62 ?_
          refine lv_topl (fun x12 e_x12 => ?_)
          have h := lt_h e_x12 h
          refine lv_lstore hx hb d_Real_dividedSignificands_63 hl (by decide) rfl (fun ls hl => ?_)
          have hl : lv_has ls 11 [(8, .long x12), (6, .long x11), (4, .long x1), (10, .int y10)] := hl
          refine lv_lload hx hb d_Real_dividedSignificands_65 (lv_at hl 1 rfl) ?_
          refine lv_lload hx hb d_Real_dividedSignificands_67 (lv_at hl 2 rfl) ?_
          have hz := gz_n h
          have h := gz_h h
          refine lv_lrem hx hb d_Real_dividedSignificands_69 hz ?_
          refine lv_topl (fun x13 e_x13 => ?_)
          have h := lt_h e_x13 h
          refine lv_lstore hx hb d_Real_dividedSignificands_70 hl (by decide) rfl (fun ls hl => ?_)
          have hl : lv_has ls 11 [(6, .long x13), (8, .long x12), (4, .long x1), (10, .int y10)] := hl
          obtain ⟨x14, e_x14⟩ : ∃ z, z = y10 + Int32.ofInt 1 := ⟨_, rfl⟩
          have h := lt_h e_x14 h
          refine lv_iinc (k := 3) hx hb d_Real_dividedSignificands_72 hl rfl e_x14.symm (by decide) rfl (fun ls hl => ?_)
          have hl : lv_has ls 11 [(10, .int x14), (6, .long x13), (8, .long x12), (4, .long x1)] := hl
          refine lv_goto (tgt := 38) hx hb d_Real_dividedSignificands_75 rfl ?_
          exact ih _ _ _ ls (lv_sub hl [3, 1, 2, 0] rfl) h
    exact hL38 n _ _ _ ls (lv_sub hl [3, 1, 2, 0] rfl) h
  · have hc := not_not_intro ((lg_cmp_eq _ _).mp hc)
    have h := ite_f hc h
    refine lv_lconst hx hb d_Real_dividedSignificands_13 lc_0 ?_
    exact hret 14 ls _ (Option.some.inj h) d_Real_dividedSignificands_14
-- Real_quotient
theorem d_Real_quotient_0 : decode b_Real_quotient 0 = .ok (.aload_n 0, 1) := by decide +kernel
theorem d_Real_quotient_1 : decode b_Real_quotient 1 = .ok (.lload_n 1, 1) := by decide +kernel
theorem d_Real_quotient_2 : decode b_Real_quotient 2 = .ok (.invokevirtual 52, 3) := by decide +kernel
theorem d_Real_quotient_5 : decode b_Real_quotient 5 = .ok (.aload_n 0, 1) := by decide +kernel
theorem d_Real_quotient_6 : decode b_Real_quotient 6 = .ok (.lload_n 3, 1) := by decide +kernel
theorem d_Real_quotient_7 : decode b_Real_quotient 7 = .ok (.invokevirtual 52, 3) := by decide +kernel
theorem d_Real_quotient_10 : decode b_Real_quotient 10 = .ok (.if_icmp .eq 7, 3) := by decide +kernel
theorem d_Real_quotient_13 : decode b_Real_quotient 13 = .ok (.iconst 1, 1) := by decide +kernel
theorem d_Real_quotient_14 : decode b_Real_quotient 14 = .ok (.goto 4, 3) := by decide +kernel
theorem d_Real_quotient_17 : decode b_Real_quotient 17 = .ok (.iconst 0, 1) := by decide +kernel
theorem d_Real_quotient_18 : decode b_Real_quotient 18 = .ok (.istore 5, 2) := by decide +kernel
theorem d_Real_quotient_20 : decode b_Real_quotient 20 = .ok (.aload_n 0, 1) := by decide +kernel
theorem d_Real_quotient_21 : decode b_Real_quotient 21 = .ok (.lload_n 1, 1) := by decide +kernel
theorem d_Real_quotient_22 : decode b_Real_quotient 22 = .ok (.invokevirtual 80, 3) := by decide +kernel
theorem d_Real_quotient_25 : decode b_Real_quotient 25 = .ok (.ifCond .eq 29, 3) := by decide +kernel
theorem d_Real_quotient_28 : decode b_Real_quotient 28 = .ok (.aload_n 0, 1) := by decide +kernel
theorem d_Real_quotient_29 : decode b_Real_quotient 29 = .ok (.lload_n 3, 1) := by decide +kernel
theorem d_Real_quotient_30 : decode b_Real_quotient 30 = .ok (.invokevirtual 80, 3) := by decide +kernel
theorem d_Real_quotient_33 : decode b_Real_quotient 33 = .ok (.ifCond .eq 10, 3) := by decide +kernel
theorem d_Real_quotient_36 : decode b_Real_quotient 36 = .ok (.aload_n 0, 1) := by decide +kernel
theorem d_Real_quotient_37 : decode b_Real_quotient 37 = .ok (.invokevirtual 72, 3) := by decide +kernel
theorem d_Real_quotient_40 : decode b_Real_quotient 40 = .ok (.goto 13, 3) := by decide +kernel
theorem d_Real_quotient_43 : decode b_Real_quotient 43 = .ok (.aload_n 0, 1) := by decide +kernel
theorem d_Real_quotient_44 : decode b_Real_quotient 44 = .ok (.iload 5, 2) := by decide +kernel
theorem d_Real_quotient_46 : decode b_Real_quotient 46 = .ok (.aload_n 0, 1) := by decide +kernel
theorem d_Real_quotient_47 : decode b_Real_quotient 47 = .ok (.getfield 45, 3) := by decide +kernel
theorem d_Real_quotient_50 : decode b_Real_quotient 50 = .ok (.invokevirtual 76, 3) := by decide +kernel
theorem d_Real_quotient_53 : decode b_Real_quotient 53 = .ok (.lreturn, 1) := by decide +kernel
theorem d_Real_quotient_54 : decode b_Real_quotient 54 = .ok (.aload_n 0, 1) := by decide +kernel
theorem d_Real_quotient_55 : decode b_Real_quotient 55 = .ok (.lload_n 3, 1) := by decide +kernel
theorem d_Real_quotient_56 : decode b_Real_quotient 56 = .ok (.invokevirtual 90, 3) := by decide +kernel
theorem d_Real_quotient_59 : decode b_Real_quotient 59 = .ok (.ifCond .eq 29, 3) := by decide +kernel
theorem d_Real_quotient_62 : decode b_Real_quotient 62 = .ok (.aload_n 0, 1) := by decide +kernel
theorem d_Real_quotient_63 : decode b_Real_quotient 63 = .ok (.lload_n 1, 1) := by decide +kernel
theorem d_Real_quotient_64 : decode b_Real_quotient 64 = .ok (.invokevirtual 90, 3) := by decide +kernel
theorem d_Real_quotient_67 : decode b_Real_quotient 67 = .ok (.ifCond .eq 10, 3) := by decide +kernel
theorem d_Real_quotient_70 : decode b_Real_quotient 70 = .ok (.aload_n 0, 1) := by decide +kernel
theorem d_Real_quotient_71 : decode b_Real_quotient 71 = .ok (.invokevirtual 72, 3) := by decide +kernel
theorem d_Real_quotient_74 : decode b_Real_quotient 74 = .ok (.goto 13, 3) := by decide +kernel
theorem d_Real_quotient_77 : decode b_Real_quotient 77 = .ok (.aload_n 0, 1) := by decide +kernel
theorem d_Real_quotient_78 : decode b_Real_quotient 78 = .ok (.iload 5, 2) := by decide +kernel
theorem d_Real_quotient_80 : decode b_Real_quotient 80 = .ok (.aload_n 0, 1) := by decide +kernel
theorem d_Real_quotient_81 : decode b_Real_quotient 81 = .ok (.getfield 45, 3) := by decide +kernel
theorem d_Real_quotient_84 : decode b_Real_quotient 84 = .ok (.invokevirtual 76, 3) := by decide +kernel
theorem d_Real_quotient_87 : decode b_Real_quotient 87 = .ok (.lreturn, 1) := by decide +kernel
theorem d_Real_quotient_88 : decode b_Real_quotient 88 = .ok (.aload_n 0, 1) := by decide +kernel
theorem d_Real_quotient_89 : decode b_Real_quotient 89 = .ok (.lload_n 3, 1) := by decide +kernel
theorem d_Real_quotient_90 : decode b_Real_quotient 90 = .ok (.invokevirtual 80, 3) := by decide +kernel
theorem d_Real_quotient_93 : decode b_Real_quotient 93 = .ok (.ifCond .ne 11, 3) := by decide +kernel
theorem d_Real_quotient_96 : decode b_Real_quotient 96 = .ok (.aload_n 0, 1) := by decide +kernel
theorem d_Real_quotient_97 : decode b_Real_quotient 97 = .ok (.lload_n 1, 1) := by decide +kernel
theorem d_Real_quotient_98 : decode b_Real_quotient 98 = .ok (.invokevirtual 90, 3) := by decide +kernel
theorem d_Real_quotient_101 : decode b_Real_quotient 101 = .ok (.ifCond .eq 11, 3) := by decide +kernel
theorem d_Real_quotient_104 : decode b_Real_quotient 104 = .ok (.aload_n 0, 1) := by decide +kernel
theorem d_Real_quotient_105 : decode b_Real_quotient 105 = .ok (.iload 5, 2) := by decide +kernel
theorem d_Real_quotient_107 : decode b_Real_quotient 107 = .ok (.lconst 0, 1) := by decide +kernel
theorem d_Real_quotient_108 : decode b_Real_quotient 108 = .ok (.invokevirtual 76, 3) := by decide +kernel
theorem d_Real_quotient_111 : decode b_Real_quotient 111 = .ok (.lreturn, 1) := by decide +kernel
theorem d_Real_quotient_112 : decode b_Real_quotient 112 = .ok (.aload_n 0, 1) := by decide +kernel
theorem d_Real_quotient_113 : decode b_Real_quotient 113 = .ok (.lload_n 1, 1) := by decide +kernel
theorem d_Real_quotient_114 : decode b_Real_quotient 114 = .ok (.invokevirtual 103, 3) := by decide +kernel
theorem d_Real_quotient_117 : decode b_Real_quotient 117 = .ok (.aload_n 0, 1) := by decide +kernel
theorem d_Real_quotient_118 : decode b_Real_quotient 118 = .ok (.lload_n 3, 1) := by decide +kernel
theorem d_Real_quotient_119 : decode b_Real_quotient 119 = .ok (.invokevirtual 103, 3) := by decide +kernel
theorem d_Real_quotient_122 : decode b_Real_quotient 122 = .ok (.isub, 1) := by decide +kernel
theorem d_Real_quotient_123 : decode b_Real_quotient 123 = .ok (.bipush 60, 2) := by decide +kernel
theorem d_Real_quotient_125 : decode b_Real_quotient 125 = .ok (.isub, 1) := by decide +kernel
theorem d_Real_quotient_126 : decode b_Real_quotient 126 = .ok (.istore 6, 2) := by decide +kernel
theorem d_Real_quotient_128 : decode b_Real_quotient 128 = .ok (.aload_n 0, 1) := by decide +kernel
theorem d_Real_quotient_129 : decode b_Real_quotient 129 = .ok (.iload 5, 2) := by decide +kernel
theorem d_Real_quotient_131 : decode b_Real_quotient 131 = .ok (.iload 6, 2) := by decide +kernel
theorem d_Real_quotient_133 : decode b_Real_quotient 133 = .ok (.aload_n 0, 1) := by decide +kernel
theorem d_Real_quotient_134 : decode b_Real_quotient 134 = .ok (.lload_n 1, 1) := by decide +kernel
theorem d_Real_quotient_135 : decode b_Real_quotient 135 = .ok (.invokevirtual 93, 3) := by decide +kernel
theorem d_Real_quotient_138 : decode b_Real_quotient 138 = .ok (.aload_n 0, 1) := by decide +kernel
theorem d_Real_quotient_139 : decode b_Real_quotient 139 = .ok (.lload_n 3, 1) := by decide +kernel
theorem d_Real_quotient_140 : decode b_Real_quotient 140 = .ok (.invokevirtual 93, 3) := by decide +kernel
theorem d_Real_quotient_143 : decode b_Real_quotient 143 = .ok (.invokestatic 110, 3) := by decide +kernel
theorem d_Real_quotient_146 : decode b_Real_quotient 146 = .ok (.invokevirtual 106, 3) := by decide +kernel
theorem d_Real_quotient_149 : decode b_Real_quotient 149 = .ok (.lreturn, 1) := by decide +kernel
def F_Real_quotient (n : Nat) (K0 : rK) (a1 : Int64) (a2 : Int64) : Option (Int64) := lt_ (if (F_Real_isNegative K0 a1) = (F_Real_isNegative K0 a2) then (0 : Int32) else (1 : Int32)) fun x1 => if (F_Real_isInfinite K0 a1) = 0 then (if (F_Real_isZero K0 a2) = 0 then (lt_ (fun (_ : Unit) => some (F_Real_signed K0 x1 (0 : Int64))) fun j104 => if ¬ (F_Real_isInfinite K0 a2) = 0 then (j104 ()) else (if (F_Real_isZero K0 a1) = 0 then ((F_Real_alignedPower n K0 a1).bind fun x2 => (F_Real_alignedPower n K0 a2).bind fun x3 => lt_ ((x2 - x3) - (60 : Int32)) fun x4 => (F_Real_aligned n K0 a1).bind fun x5 => (F_Real_aligned n K0 a2).bind fun x6 => (F_Real_dividedSignificands n x5 x6).bind fun x7 => (F_Real_rounded n K0 x1 x4 x7).bind fun x8 => some x8) else (j104 ()))) else (lt_ (if (F_Real_isZero K0 a1) = 0 then F_Real_signed K0 x1 K0.2.2.2.2 else F_Real_nan K0) fun x9 => some x9)) else (lt_ (if (F_Real_isInfinite K0 a2) = 0 then F_Real_signed K0 x1 K0.2.2.2.2 else F_Real_nan K0) fun x10 => some x10)
set_option maxHeartbeats 4000000 in
set_option maxRecDepth 100000 in
theorem c_Real_quotient (l : Launch) (o0 : Nat) (n : Nat) (K0 : rK) (a1 : Int64) (a2 : Int64) (r : Int64) (h : F_Real_quotient n K0 a1 a2 = some r) : Met l y_Real_quotient (.code y_Real_quotient b_Real_quotient 7 (some .long) :: BIG) ({ frames := 4, cells := 0, slots := 0, locals := 88 } : Room) (va_Pc [.ref o0, .long a1, .long a2] (pre1 o0 K0)) (pQ (.long r)) 0 0 (fun _ => False) := by
  refine pOpen_l rfl (Nat.le_of_ble_eq_true rfl) ?_
  intro p e s m args below meth c Q ls hx hb hml hown hts hT hp hl hret
  obtain ⟨hNB, hRe_o0⟩ := hp
  have hown : s.vm.findClass R_Real = some m.cls := hown
  have hl : lv_has ls 7 [(0, .ref o0), (1, .long a1), (3, .long a2)] := hl
  have h : (lt_ (if (F_Real_isNegative K0 a1) = (F_Real_isNegative K0 a2) then (0 : Int32) else (1 : Int32)) fun x1 => if (F_Real_isInfinite K0 a1) = 0 then (if (F_Real_isZero K0 a2) = 0 then (lt_ (fun (_ : Unit) => some (F_Real_signed K0 x1 (0 : Int64))) fun j104 => if ¬ (F_Real_isInfinite K0 a2) = 0 then (j104 ()) else (if (F_Real_isZero K0 a1) = 0 then ((F_Real_alignedPower n K0 a1).bind fun x2 => (F_Real_alignedPower n K0 a2).bind fun x3 => lt_ ((x2 - x3) - (60 : Int32)) fun x4 => (F_Real_aligned n K0 a1).bind fun x5 => (F_Real_aligned n K0 a2).bind fun x6 => (F_Real_dividedSignificands n x5 x6).bind fun x7 => (F_Real_rounded n K0 x1 x4 x7).bind fun x8 => some x8) else (j104 ()))) else (lt_ (if (F_Real_isZero K0 a1) = 0 then F_Real_signed K0 x1 K0.2.2.2.2 else F_Real_nan K0) fun x9 => some x9)) else (lt_ (if (F_Real_isInfinite K0 a2) = 0 then F_Real_signed K0 x1 K0.2.2.2.2 else F_Real_nan K0) fun x10 => some x10)) = some r := h
  refine lv_aload_n hx hb d_Real_quotient_0 rfl (lv_at hl 0 rfl) ?_
  refine lv_lload_n hx hb d_Real_quotient_1 rfl (lv_at hl 1 rfl) ?_
  refine q_V (As := [.long a1]) (rest := []) (n := 1) hx hb hml hown hts (c_Real_isNegative l o0 K0 a1) rfl rfl m_12 m_13 m_14 m_15 m_11 (by decide +kernel) ⟨Nat.le_of_ble_eq_true rfl, Nat.le_of_ble_eq_true rfl⟩ (rAt_rc hRe_o0) (p1_bl) (fun U hU hW => p1_mv hU hW hNB hRe_o0) rfl hl.1 rfl (Nat.le_of_ble_eq_true rfl) d_Real_quotient_2 ⟨Nat.zero_le _, Nat.zero_le _⟩ ?_
  refine lv_aload_n hx hb d_Real_quotient_5 rfl (lv_at hl 0 rfl) ?_
  refine lv_lload_n hx hb d_Real_quotient_6 rfl (lv_at hl 2 rfl) ?_
  refine q_V (As := [.long a2]) (rest := [.int (F_Real_isNegative K0 a1)]) (n := 1) hx hb hml hown hts (c_Real_isNegative l o0 K0 a2) rfl rfl m_12 m_13 m_14 m_15 m_11 (by decide +kernel) ⟨Nat.le_of_ble_eq_true rfl, Nat.le_of_ble_eq_true rfl⟩ (rAt_rc hRe_o0) (p1_bl) (fun U hU hW => p1_mv hU hW hNB hRe_o0) rfl hl.1 rfl (Nat.le_of_ble_eq_true rfl) d_Real_quotient_7 ⟨Nat.zero_le _, Nat.zero_le _⟩ ?_
  obtain ⟨x1, e_x1, h⟩ := lt_o h
  have hJ18 : ∀ (x1' : Int32) (ls : Array Slot), x1 = x1' → lv_has ls 7 [(0, .ref o0), (1, .long a1), (3, .long a2)] → W p l e ({ frames := 4, cells := 0, slots := 0, locals := 88 } : Room) s m args below meth c s.heap [] 0 0 Q (F0 m 18 ls [.int x1']) := by
    intro x1' ls q_x1 hl
    subst q_x1
    refine lv_istore hx hb d_Real_quotient_18 hl (by decide) rfl (fun ls hl => ?_)
    have hl : lv_has ls 7 [(5, .int x1), (0, .ref o0), (1, .long a1), (3, .long a2)] := hl
    refine lv_aload_n hx hb d_Real_quotient_20 rfl (lv_at hl 1 rfl) ?_
    refine lv_lload_n hx hb d_Real_quotient_21 rfl (lv_at hl 2 rfl) ?_
    refine q_V (As := [.long a1]) (rest := []) (n := 1) hx hb hml hown hts (c_Real_isInfinite l o0 K0 a1) rfl rfl m_42 m_43 m_44 m_45 m_11 (by decide +kernel) ⟨Nat.le_of_ble_eq_true rfl, Nat.le_of_ble_eq_true rfl⟩ (rAt_rc hRe_o0) (p1_bl) (fun U hU hW => p1_mv hU hW hNB hRe_o0) rfl hl.1 rfl (Nat.le_of_ble_eq_true rfl) d_Real_quotient_22 ⟨Nat.zero_le _, Nat.zero_le _⟩ ?_
    refine lv_if_eq (tgt := 54) hx hb d_Real_quotient_25 rfl (fun hc => ?_) (fun hc => ?_)
    · have h := ite_t hc h
      refine lv_aload_n hx hb d_Real_quotient_54 rfl (lv_at hl 1 rfl) ?_
      refine lv_lload_n hx hb d_Real_quotient_55 rfl (lv_at hl 3 rfl) ?_
      refine q_V (As := [.long a2]) (rest := []) (n := 1) hx hb hml hown hts (c_Real_isZero l o0 K0 a2) rfl rfl m_82 m_83 m_84 m_85 m_11 (by decide +kernel) ⟨Nat.le_of_ble_eq_true rfl, Nat.le_of_ble_eq_true rfl⟩ (rAt_rc hRe_o0) (p1_bl) (fun U hU hW => p1_mv hU hW hNB hRe_o0) rfl hl.1 rfl (Nat.le_of_ble_eq_true rfl) d_Real_quotient_56 ⟨Nat.zero_le _, Nat.zero_le _⟩ ?_
      refine lv_if_eq (tgt := 88) hx hb d_Real_quotient_59 rfl (fun hc => ?_) (fun hc => ?_)
      · have h := ite_t hc h
        refine lv_aload_n hx hb d_Real_quotient_88 rfl (lv_at hl 1 rfl) ?_
        refine lv_lload_n hx hb d_Real_quotient_89 rfl (lv_at hl 3 rfl) ?_
        refine q_V (As := [.long a2]) (rest := []) (n := 1) hx hb hml hown hts (c_Real_isInfinite l o0 K0 a2) rfl rfl m_42 m_43 m_44 m_45 m_11 (by decide +kernel) ⟨Nat.le_of_ble_eq_true rfl, Nat.le_of_ble_eq_true rfl⟩ (rAt_rc hRe_o0) (p1_bl) (fun U hU hW => p1_mv hU hW hNB hRe_o0) rfl hl.1 rfl (Nat.le_of_ble_eq_true rfl) d_Real_quotient_90 ⟨Nat.zero_le _, Nat.zero_le _⟩ ?_
        obtain ⟨j104, e_j104, h⟩ := lt_o h
        have hJ104 : ∀ (ls : Array Slot), lv_has ls 7 [(0, .ref o0), (5, .int x1)] → j104 () = some r → W p l e ({ frames := 4, cells := 0, slots := 0, locals := 88 } : Room) s m args below meth c s.heap [] 0 0 Q (F0 m 104 ls []) := by
          intro  ls hl h
          rw [e_j104] at h
          refine lv_aload_n hx hb d_Real_quotient_104 rfl (lv_at hl 0 rfl) ?_
          refine lv_iload hx hb d_Real_quotient_105 (lv_at hl 1 rfl) ?_
          refine lv_lconst hx hb d_Real_quotient_107 lc_0 ?_
          refine q_V (As := [.int x1, .long (0 : Int64)]) (rest := []) (n := 2) hx hb hml hown hts (c_Real_signed l o0 K0 x1 (0 : Int64)) rfl rfl m_34 m_35 m_36 m_37 m_11 (by decide +kernel) ⟨Nat.le_of_ble_eq_true rfl, Nat.le_of_ble_eq_true rfl⟩ (rAt_rc hRe_o0) (p1_bl) (fun U hU hW => p1_mv hU hW hNB hRe_o0) rfl hl.1 rfl (Nat.le_of_ble_eq_true rfl) d_Real_quotient_108 ⟨Nat.zero_le _, Nat.zero_le _⟩ ?_
          exact hret 111 ls _ (Option.some.inj h) d_Real_quotient_111
        refine lv_if_ne (tgt := 104) hx hb d_Real_quotient_93 rfl (fun hc => ?_) (fun hc => ?_)
        · have h := ite_t hc h
          exact hJ104 ls (lv_sub hl [1, 0] rfl) h
        · have hc := not_not_intro hc
          have h := ite_f hc h
          refine lv_aload_n hx hb d_Real_quotient_96 rfl (lv_at hl 1 rfl) ?_
          refine lv_lload_n hx hb d_Real_quotient_97 rfl (lv_at hl 2 rfl) ?_
          refine q_V (As := [.long a1]) (rest := []) (n := 1) hx hb hml hown hts (c_Real_isZero l o0 K0 a1) rfl rfl m_82 m_83 m_84 m_85 m_11 (by decide +kernel) ⟨Nat.le_of_ble_eq_true rfl, Nat.le_of_ble_eq_true rfl⟩ (rAt_rc hRe_o0) (p1_bl) (fun U hU hW => p1_mv hU hW hNB hRe_o0) rfl hl.1 rfl (Nat.le_of_ble_eq_true rfl) d_Real_quotient_98 ⟨Nat.zero_le _, Nat.zero_le _⟩ ?_
          refine lv_if_eq (tgt := 112) hx hb d_Real_quotient_101 rfl (fun hc => ?_) (fun hc => ?_)
          · have h := ite_t hc h
            refine lv_aload_n hx hb d_Real_quotient_112 rfl (lv_at hl 1 rfl) ?_
            refine lv_lload_n hx hb d_Real_quotient_113 rfl (lv_at hl 2 rfl) ?_
            obtain ⟨x2, e_x2, h⟩ := bd_o h
            refine q_V (As := [.long a1]) (rest := []) (n := 1) hx hb hml hown hts (c_Real_alignedPower l o0 n K0 a1 _ e_x2) rfl rfl m_93 m_94 m_95 m_96 m_11 (by decide +kernel) ⟨Nat.le_of_ble_eq_true rfl, Nat.le_of_ble_eq_true rfl⟩ (rAt_rc hRe_o0) (p1_bl) (fun U hU hW => p1_mv hU hW hNB hRe_o0) rfl hl.1 rfl (Nat.le_of_ble_eq_true rfl) d_Real_quotient_114 ⟨Nat.zero_le _, Nat.zero_le _⟩ ?_
            refine lv_aload_n hx hb d_Real_quotient_117 rfl (lv_at hl 1 rfl) ?_
            refine lv_lload_n hx hb d_Real_quotient_118 rfl (lv_at hl 3 rfl) ?_
            obtain ⟨x3, e_x3, h⟩ := bd_o h
            refine q_V (As := [.long a2]) (rest := [.int x2]) (n := 1) hx hb hml hown hts (c_Real_alignedPower l o0 n K0 a2 _ e_x3) rfl rfl m_93 m_94 m_95 m_96 m_11 (by decide +kernel) ⟨Nat.le_of_ble_eq_true rfl, Nat.le_of_ble_eq_true rfl⟩ (rAt_rc hRe_o0) (p1_bl) (fun U hU hW => p1_mv hU hW hNB hRe_o0) rfl hl.1 rfl (Nat.le_of_ble_eq_true rfl) d_Real_quotient_119 ⟨Nat.zero_le _, Nat.zero_le _⟩ ?_
            refine lv_isub hx hb d_Real_quotient_122 ?_
            refine lv_bipush hx hb d_Real_quotient_123 bp_60 ?_
            refine lv_isub hx hb d_Real_quotient_125 ?_
            refine lv_topi (fun x4 e_x4 => ?_)
            have h := lt_h e_x4 h
            refine lv_istore hx hb d_Real_quotient_126 hl (by decide) rfl (fun ls hl => ?_)
            have hl : lv_has ls 7 [(6, .int x4), (5, .int x1), (0, .ref o0), (1, .long a1), (3, .long a2)] := hl
            refine lv_aload_n hx hb d_Real_quotient_128 rfl (lv_at hl 2 rfl) ?_
            refine lv_iload hx hb d_Real_quotient_129 (lv_at hl 1 rfl) ?_
            refine lv_iload hx hb d_Real_quotient_131 (lv_at hl 0 rfl) ?_
            refine lv_aload_n hx hb d_Real_quotient_133 rfl (lv_at hl 2 rfl) ?_
            refine lv_lload_n hx hb d_Real_quotient_134 rfl (lv_at hl 3 rfl) ?_
            obtain ⟨x5, e_x5, h⟩ := bd_o h
            refine q_V (As := [.long a1]) (rest := [.int x4, .int x1, .ref o0]) (n := 1) hx hb hml hown hts (c_Real_aligned l o0 n K0 a1 _ e_x5) rfl rfl m_86 m_87 m_88 m_89 m_11 (by decide +kernel) ⟨Nat.le_of_ble_eq_true rfl, Nat.le_of_ble_eq_true rfl⟩ (rAt_rc hRe_o0) (p1_bl) (fun U hU hW => p1_mv hU hW hNB hRe_o0) rfl hl.1 rfl (Nat.le_of_ble_eq_true rfl) d_Real_quotient_135 ⟨Nat.zero_le _, Nat.zero_le _⟩ ?_
            refine lv_aload_n hx hb d_Real_quotient_138 rfl (lv_at hl 2 rfl) ?_
            refine lv_lload_n hx hb d_Real_quotient_139 rfl (lv_at hl 4 rfl) ?_
            obtain ⟨x6, e_x6, h⟩ := bd_o h
            refine q_V (As := [.long a2]) (rest := [.long x5, .int x4, .int x1, .ref o0]) (n := 1) hx hb hml hown hts (c_Real_aligned l o0 n K0 a2 _ e_x6) rfl rfl m_86 m_87 m_88 m_89 m_11 (by decide +kernel) ⟨Nat.le_of_ble_eq_true rfl, Nat.le_of_ble_eq_true rfl⟩ (rAt_rc hRe_o0) (p1_bl) (fun U hU hW => p1_mv hU hW hNB hRe_o0) rfl hl.1 rfl (Nat.le_of_ble_eq_true rfl) d_Real_quotient_140 ⟨Nat.zero_le _, Nat.zero_le _⟩ ?_
            obtain ⟨x7, e_x7, h⟩ := bd_o h
            refine q_S (As := [.long x5, .long x6]) (rest := [.int x4, .int x1, .ref o0]) (n := 2) hx hb hml hown hts (c_Real_dividedSignificands l n x5 x6 _ e_x7) rfl rfl m_97 m_98 m_99 m_11 (by decide +kernel) ⟨Nat.le_of_ble_eq_true rfl, Nat.le_of_ble_eq_true rfl⟩ (p0_bl) (fun U hU hW => p0_mv hU hW hNB) rfl hl.1 rfl (Nat.le_of_ble_eq_true rfl) d_Real_quotient_143 ⟨Nat.zero_le _, Nat.zero_le _⟩ ?_
            obtain ⟨x8, e_x8, h⟩ := bd_o h
            refine q_V (As := [.int x1, .int x4, .long x7]) (rest := []) (n := 3) hx hb hml hown hts (c_Real_rounded l o0 n K0 x1 x4 x7 _ e_x8) rfl rfl m_65 m_66 m_67 m_68 m_11 (by decide +kernel) ⟨Nat.le_of_ble_eq_true rfl, Nat.le_of_ble_eq_true rfl⟩ (rAt_rc hRe_o0) (p1_bl) (fun U hU hW => p1_mv hU hW hNB hRe_o0) rfl hl.1 rfl (Nat.le_of_ble_eq_true rfl) d_Real_quotient_146 ⟨Nat.zero_le _, Nat.zero_le _⟩ ?_
            exact hret 149 ls _ (Option.some.inj h) d_Real_quotient_149
          · have h := ite_f hc h
            exact hJ104 ls (lv_sub hl [1, 0] rfl) h
      · have h := ite_f hc h
        refine lv_aload_n hx hb d_Real_quotient_62 rfl (lv_at hl 1 rfl) ?_
        refine lv_lload_n hx hb d_Real_quotient_63 rfl (lv_at hl 2 rfl) ?_
        refine q_V (As := [.long a1]) (rest := []) (n := 1) hx hb hml hown hts (c_Real_isZero l o0 K0 a1) rfl rfl m_82 m_83 m_84 m_85 m_11 (by decide +kernel) ⟨Nat.le_of_ble_eq_true rfl, Nat.le_of_ble_eq_true rfl⟩ (rAt_rc hRe_o0) (p1_bl) (fun U hU hW => p1_mv hU hW hNB hRe_o0) rfl hl.1 rfl (Nat.le_of_ble_eq_true rfl) d_Real_quotient_64 ⟨Nat.zero_le _, Nat.zero_le _⟩ ?_
        obtain ⟨x9, e_x9, h⟩ := lt_o h
        have hJ87 : ∀ (x9' : Int64) (ls : Array Slot), x9 = x9' → lv_has ls 7 [] → W p l e ({ frames := 4, cells := 0, slots := 0, locals := 88 } : Room) s m args below meth c s.heap [] 0 0 Q (F0 m 87 ls [.long x9']) := by
          intro x9' ls q_x9 hl
          subst q_x9
          exact hret 87 ls _ (Option.some.inj h) d_Real_quotient_87
        refine lv_if_eq (tgt := 77) hx hb d_Real_quotient_67 rfl (fun hc => ?_) (fun hc => ?_)
        · have e_x9 := e_x9.trans (if_pos hc)
          refine lv_aload_n hx hb d_Real_quotient_77 rfl (lv_at hl 1 rfl) ?_
          refine lv_iload hx hb d_Real_quotient_78 (lv_at hl 0 rfl) ?_
          refine lv_aload_n hx hb d_Real_quotient_80 rfl (lv_at hl 1 rfl) ?_
          refine vk_getf hx hb (hRe_o0.2.2.2.2.2) va_S.rf hown (hT _ m_4) (fun _ h9 => h9) d_Real_quotient_81 ?_
          refine q_V (As := [.int x1, .long K0.2.2.2.2]) (rest := []) (n := 2) hx hb hml hown hts (c_Real_signed l o0 K0 x1 K0.2.2.2.2) rfl rfl m_34 m_35 m_36 m_37 m_11 (by decide +kernel) ⟨Nat.le_of_ble_eq_true rfl, Nat.le_of_ble_eq_true rfl⟩ (rAt_rc hRe_o0) (p1_bl) (fun U hU hW => p1_mv hU hW hNB hRe_o0) rfl hl.1 rfl (Nat.le_of_ble_eq_true rfl) d_Real_quotient_84 ⟨Nat.zero_le _, Nat.zero_le _⟩ ?_
          exact hJ87 _ ls e_x9 (lv_sub hl [] rfl)
        · have e_x9 := e_x9.trans (if_neg hc)
          refine lv_aload_n hx hb d_Real_quotient_70 rfl (lv_at hl 1 rfl) ?_
          refine q_V (As := []) (rest := []) (n := 0) hx hb hml hown hts (c_Real_nan l o0 K0) rfl rfl m_38 m_39 m_40 m_41 m_11 (by decide +kernel) ⟨Nat.le_of_ble_eq_true rfl, Nat.le_of_ble_eq_true rfl⟩ (rAt_rc hRe_o0) (p1_bl) (fun U hU hW => p1_mv hU hW hNB hRe_o0) rfl hl.1 rfl (Nat.le_of_ble_eq_true rfl) d_Real_quotient_71 ⟨Nat.zero_le _, Nat.zero_le _⟩ ?_
          refine lv_goto (tgt := 87) hx hb d_Real_quotient_74 rfl ?_
          exact hJ87 _ ls e_x9 (lv_sub hl [] rfl)
    · have h := ite_f hc h
      refine lv_aload_n hx hb d_Real_quotient_28 rfl (lv_at hl 1 rfl) ?_
      refine lv_lload_n hx hb d_Real_quotient_29 rfl (lv_at hl 3 rfl) ?_
      refine q_V (As := [.long a2]) (rest := []) (n := 1) hx hb hml hown hts (c_Real_isInfinite l o0 K0 a2) rfl rfl m_42 m_43 m_44 m_45 m_11 (by decide +kernel) ⟨Nat.le_of_ble_eq_true rfl, Nat.le_of_ble_eq_true rfl⟩ (rAt_rc hRe_o0) (p1_bl) (fun U hU hW => p1_mv hU hW hNB hRe_o0) rfl hl.1 rfl (Nat.le_of_ble_eq_true rfl) d_Real_quotient_30 ⟨Nat.zero_le _, Nat.zero_le _⟩ ?_
      obtain ⟨x10, e_x10, h⟩ := lt_o h
      have hJ53 : ∀ (x10' : Int64) (ls : Array Slot), x10 = x10' → lv_has ls 7 [] → W p l e ({ frames := 4, cells := 0, slots := 0, locals := 88 } : Room) s m args below meth c s.heap [] 0 0 Q (F0 m 53 ls [.long x10']) := by
        intro x10' ls q_x10 hl
        subst q_x10
        exact hret 53 ls _ (Option.some.inj h) d_Real_quotient_53
      refine lv_if_eq (tgt := 43) hx hb d_Real_quotient_33 rfl (fun hc => ?_) (fun hc => ?_)
      · have e_x10 := e_x10.trans (if_pos hc)
        refine lv_aload_n hx hb d_Real_quotient_43 rfl (lv_at hl 1 rfl) ?_
        refine lv_iload hx hb d_Real_quotient_44 (lv_at hl 0 rfl) ?_
        refine lv_aload_n hx hb d_Real_quotient_46 rfl (lv_at hl 1 rfl) ?_
        refine vk_getf hx hb (hRe_o0.2.2.2.2.2) va_S.rf hown (hT _ m_4) (fun _ h9 => h9) d_Real_quotient_47 ?_
        refine q_V (As := [.int x1, .long K0.2.2.2.2]) (rest := []) (n := 2) hx hb hml hown hts (c_Real_signed l o0 K0 x1 K0.2.2.2.2) rfl rfl m_34 m_35 m_36 m_37 m_11 (by decide +kernel) ⟨Nat.le_of_ble_eq_true rfl, Nat.le_of_ble_eq_true rfl⟩ (rAt_rc hRe_o0) (p1_bl) (fun U hU hW => p1_mv hU hW hNB hRe_o0) rfl hl.1 rfl (Nat.le_of_ble_eq_true rfl) d_Real_quotient_50 ⟨Nat.zero_le _, Nat.zero_le _⟩ ?_
        exact hJ53 _ ls e_x10 (lv_sub hl [] rfl)
      · have e_x10 := e_x10.trans (if_neg hc)
        refine lv_aload_n hx hb d_Real_quotient_36 rfl (lv_at hl 1 rfl) ?_
        refine q_V (As := []) (rest := []) (n := 0) hx hb hml hown hts (c_Real_nan l o0 K0) rfl rfl m_38 m_39 m_40 m_41 m_11 (by decide +kernel) ⟨Nat.le_of_ble_eq_true rfl, Nat.le_of_ble_eq_true rfl⟩ (rAt_rc hRe_o0) (p1_bl) (fun U hU hW => p1_mv hU hW hNB hRe_o0) rfl hl.1 rfl (Nat.le_of_ble_eq_true rfl) d_Real_quotient_37 ⟨Nat.zero_le _, Nat.zero_le _⟩ ?_
        refine lv_goto (tgt := 53) hx hb d_Real_quotient_40 rfl ?_
        exact hJ53 _ ls e_x10 (lv_sub hl [] rfl)
  refine lv_icmp_eq (tgt := 17) hx hb d_Real_quotient_10 rfl (fun hc => ?_) (fun hc => ?_)
  · have e_x1 := e_x1.trans (if_pos hc)
    refine lv_iconst hx hb d_Real_quotient_17 ic_0 ?_
    exact hJ18 _ ls e_x1 (lv_sub hl [0, 1, 2] rfl)
  · have e_x1 := e_x1.trans (if_neg hc)
    refine lv_iconst hx hb d_Real_quotient_13 ic_1 ?_
    refine lv_goto (tgt := 18) hx hb d_Real_quotient_14 rfl ?_
    exact hJ18 _ ls e_x1 (lv_sub hl [0, 1, 2] rfl)
-- Real_remainder
theorem d_Real_remainder_0 : decode b_Real_remainder 0 = .ok (.aload_n 0, 1) := by decide +kernel
theorem d_Real_remainder_1 : decode b_Real_remainder 1 = .ok (.lload_n 1, 1) := by decide +kernel
theorem d_Real_remainder_2 : decode b_Real_remainder 2 = .ok (.invokevirtual 80, 3) := by decide +kernel
theorem d_Real_remainder_5 : decode b_Real_remainder 5 = .ok (.ifCond .ne 11, 3) := by decide +kernel
theorem d_Real_remainder_8 : decode b_Real_remainder 8 = .ok (.aload_n 0, 1) := by decide +kernel
theorem d_Real_remainder_9 : decode b_Real_remainder 9 = .ok (.lload_n 3, 1) := by decide +kernel
theorem d_Real_remainder_10 : decode b_Real_remainder 10 = .ok (.invokevirtual 90, 3) := by decide +kernel
theorem d_Real_remainder_13 : decode b_Real_remainder 13 = .ok (.ifCond .eq 8, 3) := by decide +kernel
theorem d_Real_remainder_16 : decode b_Real_remainder 16 = .ok (.aload_n 0, 1) := by decide +kernel
theorem d_Real_remainder_17 : decode b_Real_remainder 17 = .ok (.invokevirtual 72, 3) := by decide +kernel
theorem d_Real_remainder_20 : decode b_Real_remainder 20 = .ok (.lreturn, 1) := by decide +kernel
theorem d_Real_remainder_21 : decode b_Real_remainder 21 = .ok (.aload_n 0, 1) := by decide +kernel
theorem d_Real_remainder_22 : decode b_Real_remainder 22 = .ok (.lload_n 1, 1) := by decide +kernel
theorem d_Real_remainder_23 : decode b_Real_remainder 23 = .ok (.invokevirtual 48, 3) := by decide +kernel
theorem d_Real_remainder_26 : decode b_Real_remainder 26 = .ok (.aload_n 0, 1) := by decide +kernel
theorem d_Real_remainder_27 : decode b_Real_remainder 27 = .ok (.lload_n 3, 1) := by decide +kernel
theorem d_Real_remainder_28 : decode b_Real_remainder 28 = .ok (.invokevirtual 48, 3) := by decide +kernel
theorem d_Real_remainder_31 : decode b_Real_remainder 31 = .ok (.lcmp, 1) := by decide +kernel
theorem d_Real_remainder_32 : decode b_Real_remainder 32 = .ok (.ifCond .ge 18, 3) := by decide +kernel
theorem d_Real_remainder_35 : decode b_Real_remainder 35 = .ok (.aload_n 0, 1) := by decide +kernel
theorem d_Real_remainder_36 : decode b_Real_remainder 36 = .ok (.aload_n 0, 1) := by decide +kernel
theorem d_Real_remainder_37 : decode b_Real_remainder 37 = .ok (.lload_n 1, 1) := by decide +kernel
theorem d_Real_remainder_38 : decode b_Real_remainder 38 = .ok (.invokevirtual 52, 3) := by decide +kernel
theorem d_Real_remainder_41 : decode b_Real_remainder 41 = .ok (.aload_n 0, 1) := by decide +kernel
theorem d_Real_remainder_42 : decode b_Real_remainder 42 = .ok (.lload_n 1, 1) := by decide +kernel
theorem d_Real_remainder_43 : decode b_Real_remainder 43 = .ok (.invokevirtual 48, 3) := by decide +kernel
theorem d_Real_remainder_46 : decode b_Real_remainder 46 = .ok (.invokevirtual 76, 3) := by decide +kernel
theorem d_Real_remainder_49 : decode b_Real_remainder 49 = .ok (.lreturn, 1) := by decide +kernel
theorem d_Real_remainder_50 : decode b_Real_remainder 50 = .ok (.aload_n 0, 1) := by decide +kernel
theorem d_Real_remainder_51 : decode b_Real_remainder 51 = .ok (.lload_n 3, 1) := by decide +kernel
theorem d_Real_remainder_52 : decode b_Real_remainder 52 = .ok (.invokevirtual 113, 3) := by decide +kernel
theorem d_Real_remainder_55 : decode b_Real_remainder 55 = .ok (.lstore 5, 2) := by decide +kernel
theorem d_Real_remainder_57 : decode b_Real_remainder 57 = .ok (.aload_n 0, 1) := by decide +kernel
theorem d_Real_remainder_58 : decode b_Real_remainder 58 = .ok (.lload_n 1, 1) := by decide +kernel
theorem d_Real_remainder_59 : decode b_Real_remainder 59 = .ok (.invokevirtual 113, 3) := by decide +kernel
theorem d_Real_remainder_62 : decode b_Real_remainder 62 = .ok (.lload 5, 2) := by decide +kernel
theorem d_Real_remainder_64 : decode b_Real_remainder 64 = .ok (.lrem, 1) := by decide +kernel
theorem d_Real_remainder_65 : decode b_Real_remainder 65 = .ok (.lstore 7, 2) := by decide +kernel
theorem d_Real_remainder_67 : decode b_Real_remainder 67 = .ok (.aload_n 0, 1) := by decide +kernel
theorem d_Real_remainder_68 : decode b_Real_remainder 68 = .ok (.lload_n 1, 1) := by decide +kernel
theorem d_Real_remainder_69 : decode b_Real_remainder 69 = .ok (.invokevirtual 116, 3) := by decide +kernel
theorem d_Real_remainder_72 : decode b_Real_remainder 72 = .ok (.aload_n 0, 1) := by decide +kernel
theorem d_Real_remainder_73 : decode b_Real_remainder 73 = .ok (.lload_n 3, 1) := by decide +kernel
theorem d_Real_remainder_74 : decode b_Real_remainder 74 = .ok (.invokevirtual 116, 3) := by decide +kernel
theorem d_Real_remainder_77 : decode b_Real_remainder 77 = .ok (.isub, 1) := by decide +kernel
theorem d_Real_remainder_78 : decode b_Real_remainder 78 = .ok (.istore 9, 2) := by decide +kernel
theorem d_Real_remainder_80 : decode b_Real_remainder 80 = .ok (.iload 9, 2) := by decide +kernel
theorem d_Real_remainder_82 : decode b_Real_remainder 82 = .ok (.ifCond .le 24, 3) := by decide +kernel
theorem d_Real_remainder_85 : decode b_Real_remainder 85 = .ok (.lload 7, 2) := by decide +kernel
theorem d_Real_remainder_87 : decode b_Real_remainder 87 = .ok (.iload 9, 2) := by decide +kernel
theorem d_Real_remainder_89 : decode b_Real_remainder 89 = .ok (.bipush 10, 2) := by decide +kernel
theorem d_Real_remainder_91 : decode b_Real_remainder 91 = .ok (.invokestatic 119, 3) := by decide +kernel
theorem d_Real_remainder_94 : decode b_Real_remainder 94 = .ok (.lshl, 1) := by decide +kernel
theorem d_Real_remainder_95 : decode b_Real_remainder 95 = .ok (.lload 5, 2) := by decide +kernel
theorem d_Real_remainder_97 : decode b_Real_remainder 97 = .ok (.lrem, 1) := by decide +kernel
theorem d_Real_remainder_98 : decode b_Real_remainder 98 = .ok (.lstore 7, 2) := by decide +kernel
theorem d_Real_remainder_100 : decode b_Real_remainder 100 = .ok (.iinc 9 (-10), 3) := by decide +kernel
theorem d_Real_remainder_103 : decode b_Real_remainder 103 = .ok (.goto (-23), 3) := by decide +kernel
theorem d_Real_remainder_106 : decode b_Real_remainder 106 = .ok (.aload_n 0, 1) := by decide +kernel
theorem d_Real_remainder_107 : decode b_Real_remainder 107 = .ok (.aload_n 0, 1) := by decide +kernel
theorem d_Real_remainder_108 : decode b_Real_remainder 108 = .ok (.lload_n 1, 1) := by decide +kernel
theorem d_Real_remainder_109 : decode b_Real_remainder 109 = .ok (.invokevirtual 52, 3) := by decide +kernel
theorem d_Real_remainder_112 : decode b_Real_remainder 112 = .ok (.aload_n 0, 1) := by decide +kernel
theorem d_Real_remainder_113 : decode b_Real_remainder 113 = .ok (.lload_n 3, 1) := by decide +kernel
theorem d_Real_remainder_114 : decode b_Real_remainder 114 = .ok (.invokevirtual 116, 3) := by decide +kernel
theorem d_Real_remainder_117 : decode b_Real_remainder 117 = .ok (.lload 7, 2) := by decide +kernel
theorem d_Real_remainder_119 : decode b_Real_remainder 119 = .ok (.invokevirtual 106, 3) := by decide +kernel
theorem d_Real_remainder_122 : decode b_Real_remainder 122 = .ok (.lreturn, 1) := by decide +kernel
def F_Real_remainder_L80 (K0 : rK) (a1 : Int64) (a2 : Int64) (x1 : Int64) (j106 : (Int64 → Option (Int64))) : Nat → Int64 → Int32 → Option (Int64)
  | 0, _, _ => none
  | n+1, y6, y7 => if y7 ≤ 0 then (j106 y6) else (gz_ (x1 = 0) <| lt_ ((y6 <<< ((if (10 : Int32) < y7 then (10 : Int32) else y7).toInt64 &&& 63)) - (y6 <<< ((if (10 : Int32) < y7 then (10 : Int32) else y7).toInt64 &&& 63)) / x1 * x1) fun x8 => lt_ (y7 + Int32.ofInt (-10)) fun x9 => F_Real_remainder_L80 K0 a1 a2 x1 j106 n x8 x9)
def F_Real_remainder (n : Nat) (K0 : rK) (a1 : Int64) (a2 : Int64) : Option (Int64) := lt_ (fun (_ : Unit) => some (F_Real_nan K0)) fun j16 => if ¬ (F_Real_isInfinite K0 a1) = 0 then (j16 ()) else (if (F_Real_isZero K0 a2) = 0 then (if (F_Real_magnitude K0 a2) ≤ (F_Real_magnitude K0 a1) then (lt_ (F_Real_significand K0 a2) fun x1 => gz_ (x1 = 0) <| lt_ ((F_Real_significand K0 a1) - (F_Real_significand K0 a1) / x1 * x1) fun x2 => lt_ ((F_Real_power K0 a1) - (F_Real_power K0 a2)) fun x3 => lt_ (fun (y4 : Int64) => (F_Real_rounded n K0 (F_Real_isNegative K0 a1) (F_Real_power K0 a2) y4).bind fun x5 => some x5) fun j106 => F_Real_remainder_L80 K0 a1 a2 x1 j106 n x2 x3) else (some (F_Real_signed K0 (F_Real_isNegative K0 a1) (F_Real_magnitude K0 a1)))) else (j16 ()))
set_option maxHeartbeats 4000000 in
set_option maxRecDepth 100000 in
theorem c_Real_remainder (l : Launch) (o0 : Nat) (n : Nat) (K0 : rK) (a1 : Int64) (a2 : Int64) (r : Int64) (h : F_Real_remainder n K0 a1 a2 = some r) : Met l y_Real_remainder (.code y_Real_remainder b_Real_remainder 10 (some .long) :: BIG) ({ frames := 2, cells := 0, slots := 0, locals := 61 } : Room) (va_Pc [.ref o0, .long a1, .long a2] (pre1 o0 K0)) (pQ (.long r)) 0 0 (fun _ => False) := by
  refine pOpen_l rfl (Nat.le_of_ble_eq_true rfl) ?_
  intro p e s m args below meth c Q ls hx hb hml hown hts hT hp hl hret
  obtain ⟨hNB, hRe_o0⟩ := hp
  have hown : s.vm.findClass R_Real = some m.cls := hown
  have hl : lv_has ls 10 [(0, .ref o0), (1, .long a1), (3, .long a2)] := hl
  have h : (lt_ (fun (_ : Unit) => some (F_Real_nan K0)) fun j16 => if ¬ (F_Real_isInfinite K0 a1) = 0 then (j16 ()) else (if (F_Real_isZero K0 a2) = 0 then (if (F_Real_magnitude K0 a2) ≤ (F_Real_magnitude K0 a1) then (lt_ (F_Real_significand K0 a2) fun x1 => gz_ (x1 = 0) <| lt_ ((F_Real_significand K0 a1) - (F_Real_significand K0 a1) / x1 * x1) fun x2 => lt_ ((F_Real_power K0 a1) - (F_Real_power K0 a2)) fun x3 => lt_ (fun (y4 : Int64) => (F_Real_rounded n K0 (F_Real_isNegative K0 a1) (F_Real_power K0 a2) y4).bind fun x5 => some x5) fun j106 => F_Real_remainder_L80 K0 a1 a2 x1 j106 n x2 x3) else (some (F_Real_signed K0 (F_Real_isNegative K0 a1) (F_Real_magnitude K0 a1)))) else (j16 ()))) = some r := h
  refine lv_aload_n hx hb d_Real_remainder_0 rfl (lv_at hl 0 rfl) ?_
  refine lv_lload_n hx hb d_Real_remainder_1 rfl (lv_at hl 1 rfl) ?_
  refine q_V (As := [.long a1]) (rest := []) (n := 1) hx hb hml hown hts (c_Real_isInfinite l o0 K0 a1) rfl rfl m_42 m_43 m_44 m_45 m_11 (by decide +kernel) ⟨Nat.le_of_ble_eq_true rfl, Nat.le_of_ble_eq_true rfl⟩ (rAt_rc hRe_o0) (p1_bl) (fun U hU hW => p1_mv hU hW hNB hRe_o0) rfl hl.1 rfl (Nat.le_of_ble_eq_true rfl) d_Real_remainder_2 ⟨Nat.zero_le _, Nat.zero_le _⟩ ?_
  obtain ⟨j16, e_j16, h⟩ := lt_o h
  have hJ16 : ∀ (ls : Array Slot), lv_has ls 10 [(0, .ref o0)] → j16 () = some r → W p l e ({ frames := 2, cells := 0, slots := 0, locals := 61 } : Room) s m args below meth c s.heap [] 0 0 Q (F0 m 16 ls []) := by
    intro  ls hl h
    rw [e_j16] at h
    refine lv_aload_n hx hb d_Real_remainder_16 rfl (lv_at hl 0 rfl) ?_
    refine q_V (As := []) (rest := []) (n := 0) hx hb hml hown hts (c_Real_nan l o0 K0) rfl rfl m_38 m_39 m_40 m_41 m_11 (by decide +kernel) ⟨Nat.le_of_ble_eq_true rfl, Nat.le_of_ble_eq_true rfl⟩ (rAt_rc hRe_o0) (p1_bl) (fun U hU hW => p1_mv hU hW hNB hRe_o0) rfl hl.1 rfl (Nat.le_of_ble_eq_true rfl) d_Real_remainder_17 ⟨Nat.zero_le _, Nat.zero_le _⟩ ?_
    exact hret 20 ls _ (Option.some.inj h) d_Real_remainder_20
  refine lv_if_ne (tgt := 16) hx hb d_Real_remainder_5 rfl (fun hc => ?_) (fun hc => ?_)
  · have h := ite_t hc h
    exact hJ16 ls (lv_sub hl [0] rfl) h
  · have hc := not_not_intro hc
    have h := ite_f hc h
    refine lv_aload_n hx hb d_Real_remainder_8 rfl (lv_at hl 0 rfl) ?_
    refine lv_lload_n hx hb d_Real_remainder_9 rfl (lv_at hl 2 rfl) ?_
    refine q_V (As := [.long a2]) (rest := []) (n := 1) hx hb hml hown hts (c_Real_isZero l o0 K0 a2) rfl rfl m_82 m_83 m_84 m_85 m_11 (by decide +kernel) ⟨Nat.le_of_ble_eq_true rfl, Nat.le_of_ble_eq_true rfl⟩ (rAt_rc hRe_o0) (p1_bl) (fun U hU hW => p1_mv hU hW hNB hRe_o0) rfl hl.1 rfl (Nat.le_of_ble_eq_true rfl) d_Real_remainder_10 ⟨Nat.zero_le _, Nat.zero_le _⟩ ?_
    refine lv_if_eq (tgt := 21) hx hb d_Real_remainder_13 rfl (fun hc => ?_) (fun hc => ?_)
    · have h := ite_t hc h
      refine lv_aload_n hx hb d_Real_remainder_21 rfl (lv_at hl 0 rfl) ?_
      refine lv_lload_n hx hb d_Real_remainder_22 rfl (lv_at hl 1 rfl) ?_
      refine q_V (As := [.long a1]) (rest := []) (n := 1) hx hb hml hown hts (c_Real_magnitude l o0 K0 a1) rfl rfl m_7 m_8 m_9 m_10 m_11 (by decide +kernel) ⟨Nat.le_of_ble_eq_true rfl, Nat.le_of_ble_eq_true rfl⟩ (rAt_rc hRe_o0) (p1_bl) (fun U hU hW => p1_mv hU hW hNB hRe_o0) rfl hl.1 rfl (Nat.le_of_ble_eq_true rfl) d_Real_remainder_23 ⟨Nat.zero_le _, Nat.zero_le _⟩ ?_
      refine lv_aload_n hx hb d_Real_remainder_26 rfl (lv_at hl 0 rfl) ?_
      refine lv_lload_n hx hb d_Real_remainder_27 rfl (lv_at hl 2 rfl) ?_
      refine q_V (As := [.long a2]) (rest := [.long (F_Real_magnitude K0 a1)]) (n := 1) hx hb hml hown hts (c_Real_magnitude l o0 K0 a2) rfl rfl m_7 m_8 m_9 m_10 m_11 (by decide +kernel) ⟨Nat.le_of_ble_eq_true rfl, Nat.le_of_ble_eq_true rfl⟩ (rAt_rc hRe_o0) (p1_bl) (fun U hU hW => p1_mv hU hW hNB hRe_o0) rfl hl.1 rfl (Nat.le_of_ble_eq_true rfl) d_Real_remainder_28 ⟨Nat.zero_le _, Nat.zero_le _⟩ ?_
      refine W.lcmp hx hb d_Real_remainder_31 ?_
      refine lv_if_ge (tgt := 50) hx hb d_Real_remainder_32 rfl (fun hc => ?_) (fun hc => ?_)
      · have hc := (lg_cmp_ge _ _).mp hc
        have h := ite_t hc h
        refine lv_aload_n hx hb d_Real_remainder_50 rfl (lv_at hl 0 rfl) ?_
        refine lv_lload_n hx hb d_Real_remainder_51 rfl (lv_at hl 2 rfl) ?_
        refine q_V (As := [.long a2]) (rest := []) (n := 1) hx hb hml hown hts (c_Real_significand l o0 K0 a2) rfl rfl m_54 m_55 m_56 m_57 m_11 (by decide +kernel) ⟨Nat.le_of_ble_eq_true rfl, Nat.le_of_ble_eq_true rfl⟩ (rAt_rc hRe_o0) (p1_bl) (fun U hU hW => p1_mv hU hW hNB hRe_o0) rfl hl.1 rfl (Nat.le_of_ble_eq_true rfl) d_Real_remainder_52 ⟨Nat.zero_le _, Nat.zero_le _⟩ ?_
        refine lv_topl (fun x1 e_x1 => ?_)
        have h := lt_h e_x1 h
        refine lv_lstore hx hb d_Real_remainder_55 hl (by decide) rfl (fun ls hl => ?_)
        have hl : lv_has ls 10 [(5, .long x1), (0, .ref o0), (1, .long a1), (3, .long a2)] := hl
        refine lv_aload_n hx hb d_Real_remainder_57 rfl (lv_at hl 1 rfl) ?_
        refine lv_lload_n hx hb d_Real_remainder_58 rfl (lv_at hl 2 rfl) ?_
        refine q_V (As := [.long a1]) (rest := []) (n := 1) hx hb hml hown hts (c_Real_significand l o0 K0 a1) rfl rfl m_54 m_55 m_56 m_57 m_11 (by decide +kernel) ⟨Nat.le_of_ble_eq_true rfl, Nat.le_of_ble_eq_true rfl⟩ (rAt_rc hRe_o0) (p1_bl) (fun U hU hW => p1_mv hU hW hNB hRe_o0) rfl hl.1 rfl (Nat.le_of_ble_eq_true rfl) d_Real_remainder_59 ⟨Nat.zero_le _, Nat.zero_le _⟩ ?_
        refine lv_lload hx hb d_Real_remainder_62 (lv_at hl 0 rfl) ?_
        have hz := gz_n h
        have h := gz_h h
        refine lv_lrem hx hb d_Real_remainder_64 hz ?_
        refine lv_topl (fun x2 e_x2 => ?_)
        have h := lt_h e_x2 h
        refine lv_lstore hx hb d_Real_remainder_65 hl (by decide) rfl (fun ls hl => ?_)
        have hl : lv_has ls 10 [(7, .long x2), (5, .long x1), (0, .ref o0), (1, .long a1), (3, .long a2)] := hl
        refine lv_aload_n hx hb d_Real_remainder_67 rfl (lv_at hl 2 rfl) ?_
        refine lv_lload_n hx hb d_Real_remainder_68 rfl (lv_at hl 3 rfl) ?_
        refine q_V (As := [.long a1]) (rest := []) (n := 1) hx hb hml hown hts (c_Real_power l o0 K0 a1) rfl rfl m_58 m_59 m_60 m_61 m_11 (by decide +kernel) ⟨Nat.le_of_ble_eq_true rfl, Nat.le_of_ble_eq_true rfl⟩ (rAt_rc hRe_o0) (p1_bl) (fun U hU hW => p1_mv hU hW hNB hRe_o0) rfl hl.1 rfl (Nat.le_of_ble_eq_true rfl) d_Real_remainder_69 ⟨Nat.zero_le _, Nat.zero_le _⟩ ?_
        refine lv_aload_n hx hb d_Real_remainder_72 rfl (lv_at hl 2 rfl) ?_
        refine lv_lload_n hx hb d_Real_remainder_73 rfl (lv_at hl 4 rfl) ?_
        refine q_V (As := [.long a2]) (rest := [.int (F_Real_power K0 a1)]) (n := 1) hx hb hml hown hts (c_Real_power l o0 K0 a2) rfl rfl m_58 m_59 m_60 m_61 m_11 (by decide +kernel) ⟨Nat.le_of_ble_eq_true rfl, Nat.le_of_ble_eq_true rfl⟩ (rAt_rc hRe_o0) (p1_bl) (fun U hU hW => p1_mv hU hW hNB hRe_o0) rfl hl.1 rfl (Nat.le_of_ble_eq_true rfl) d_Real_remainder_74 ⟨Nat.zero_le _, Nat.zero_le _⟩ ?_
        refine lv_isub hx hb d_Real_remainder_77 ?_
        refine lv_topi (fun x3 e_x3 => ?_)
        have h := lt_h e_x3 h
        refine lv_istore hx hb d_Real_remainder_78 hl (by decide) rfl (fun ls hl => ?_)
        have hl : lv_has ls 10 [(9, .int x3), (7, .long x2), (5, .long x1), (0, .ref o0), (1, .long a1), (3, .long a2)] := hl
        obtain ⟨j106, e_j106, h⟩ := lt_o h
        have hJ106 : ∀ (y4 : Int64) (ls : Array Slot), lv_has ls 10 [(0, .ref o0), (1, .long a1), (3, .long a2), (7, .long y4)] → j106 y4 = some r → W p l e ({ frames := 2, cells := 0, slots := 0, locals := 61 } : Room) s m args below meth c s.heap [] 0 0 Q (F0 m 106 ls []) := by
          intro y4 ls hl h
          rw [e_j106] at h
          refine lv_aload_n hx hb d_Real_remainder_106 rfl (lv_at hl 0 rfl) ?_
          refine lv_aload_n hx hb d_Real_remainder_107 rfl (lv_at hl 0 rfl) ?_
          refine lv_lload_n hx hb d_Real_remainder_108 rfl (lv_at hl 1 rfl) ?_
          refine q_V (As := [.long a1]) (rest := [.ref o0]) (n := 1) hx hb hml hown hts (c_Real_isNegative l o0 K0 a1) rfl rfl m_12 m_13 m_14 m_15 m_11 (by decide +kernel) ⟨Nat.le_of_ble_eq_true rfl, Nat.le_of_ble_eq_true rfl⟩ (rAt_rc hRe_o0) (p1_bl) (fun U hU hW => p1_mv hU hW hNB hRe_o0) rfl hl.1 rfl (Nat.le_of_ble_eq_true rfl) d_Real_remainder_109 ⟨Nat.zero_le _, Nat.zero_le _⟩ ?_
          refine lv_aload_n hx hb d_Real_remainder_112 rfl (lv_at hl 0 rfl) ?_
          refine lv_lload_n hx hb d_Real_remainder_113 rfl (lv_at hl 2 rfl) ?_
          refine q_V (As := [.long a2]) (rest := [.int (F_Real_isNegative K0 a1), .ref o0]) (n := 1) hx hb hml hown hts (c_Real_power l o0 K0 a2) rfl rfl m_58 m_59 m_60 m_61 m_11 (by decide +kernel) ⟨Nat.le_of_ble_eq_true rfl, Nat.le_of_ble_eq_true rfl⟩ (rAt_rc hRe_o0) (p1_bl) (fun U hU hW => p1_mv hU hW hNB hRe_o0) rfl hl.1 rfl (Nat.le_of_ble_eq_true rfl) d_Real_remainder_114 ⟨Nat.zero_le _, Nat.zero_le _⟩ ?_
          refine lv_lload hx hb d_Real_remainder_117 (lv_at hl 3 rfl) ?_
          obtain ⟨x5, e_x5, h⟩ := bd_o h
          refine q_V (As := [.int (F_Real_isNegative K0 a1), .int (F_Real_power K0 a2), .long y4]) (rest := []) (n := 3) hx hb hml hown hts (c_Real_rounded l o0 n K0 (F_Real_isNegative K0 a1) (F_Real_power K0 a2) y4 _ e_x5) rfl rfl m_65 m_66 m_67 m_68 m_11 (by decide +kernel) ⟨Nat.le_of_ble_eq_true rfl, Nat.le_of_ble_eq_true rfl⟩ (rAt_rc hRe_o0) (p1_bl) (fun U hU hW => p1_mv hU hW hNB hRe_o0) rfl hl.1 rfl (Nat.le_of_ble_eq_true rfl) d_Real_remainder_119 ⟨Nat.zero_le _, Nat.zero_le _⟩ ?_
          exact hret 122 ls _ (Option.some.inj h) d_Real_remainder_122
        have hL80 : ∀ (n : Nat) (y6 : Int64) (y7 : Int32) (ls : Array Slot), lv_has ls 10 [(0, .ref o0), (1, .long a1), (3, .long a2), (5, .long x1), (7, .long y6), (9, .int y7)] → F_Real_remainder_L80 K0 a1 a2 x1 j106 n y6 y7 = some r → W p l e ({ frames := 2, cells := 0, slots := 0, locals := 61 } : Room) s m args below meth c s.heap [] 0 0 Q (F0 m 80 ls []) := by
          intro n
          induction n with
          | zero => intro y6 y7 ls hl h; exact no_s h
          | succ n ih =>
            intro y6 y7 ls hl h
            have h : (if y7 ≤ 0 then (j106 y6) else (gz_ (x1 = 0) <| lt_ ((y6 <<< ((if (10 : Int32) < y7 then (10 : Int32) else y7).toInt64 &&& 63)) - (y6 <<< ((if (10 : Int32) < y7 then (10 : Int32) else y7).toInt64 &&& 63)) / x1 * x1) fun x8 => lt_ (y7 + Int32.ofInt (-10)) fun x9 => F_Real_remainder_L80 K0 a1 a2 x1 j106 n x8 x9)) = some r := h
            refine lv_iload hx hb d_Real_remainder_80 (lv_at hl 5 rfl) ?_
            refine lv_if_le (tgt := 106) hx hb d_Real_remainder_82 rfl (fun hc => ?_) (fun hc => ?_)
            · have h := ite_t hc h
              exact hJ106 _ ls (lv_sub hl [0, 1, 2, 4] rfl) h
            · have h := ite_f hc h
              refine lv_lload hx hb d_Real_remainder_85 (lv_at hl 4 rfl) ?_
              refine lv_iload hx hb d_Real_remainder_87 (lv_at hl 5 rfl) ?_
              refine lv_bipush hx hb d_Real_remainder_89 bp_10 ?_
              refine va_mmin hx hb (hml.trans hl.1.symm) hown (hT _ m_100) (hT _ m_101) (hT _ m_28) (hT _ m_102) (Nat.le_of_ble_eq_true rfl) (Nat.le_of_ble_eq_true rfl) (Nat.zero_le _) (Nat.zero_le _) d_Real_remainder_91 ?_
              refine lv_lshl hx hb d_Real_remainder_94 rfl ?_
              refine lv_lload hx hb d_Real_remainder_95 (lv_at hl 3 rfl) ?_
              have hz := gz_n h
              have h := gz_h h
              refine lv_lrem hx hb d_Real_remainder_97 hz ?_
              refine lv_topl (fun x8 e_x8 => ?_)
              have h := lt_h e_x8 h
              refine lv_lstore hx hb d_Real_remainder_98 hl (by decide) rfl (fun ls hl => ?_)
              have hl : lv_has ls 10 [(7, .long x8), (0, .ref o0), (1, .long a1), (3, .long a2), (5, .long x1), (9, .int y7)] := hl
              obtain ⟨x9, e_x9⟩ : ∃ z, z = y7 + Int32.ofInt (-10) := ⟨_, rfl⟩
              have h := lt_h e_x9 h
              refine lv_iinc (k := 5) hx hb d_Real_remainder_100 hl rfl e_x9.symm (by decide) rfl (fun ls hl => ?_)
              have hl : lv_has ls 10 [(9, .int x9), (7, .long x8), (0, .ref o0), (1, .long a1), (3, .long a2), (5, .long x1)] := hl
              refine lv_goto (tgt := 80) hx hb d_Real_remainder_103 rfl ?_
              exact ih _ _ ls (lv_sub hl [2, 3, 4, 5, 1, 0] rfl) h
        exact hL80 n _ _ ls (lv_sub hl [3, 4, 5, 2, 1, 0] rfl) h
      · have hc := mt (lg_cmp_ge _ _).mpr hc
        have h := ite_f hc h
        refine lv_aload_n hx hb d_Real_remainder_35 rfl (lv_at hl 0 rfl) ?_
        refine lv_aload_n hx hb d_Real_remainder_36 rfl (lv_at hl 0 rfl) ?_
        refine lv_lload_n hx hb d_Real_remainder_37 rfl (lv_at hl 1 rfl) ?_
        refine q_V (As := [.long a1]) (rest := [.ref o0]) (n := 1) hx hb hml hown hts (c_Real_isNegative l o0 K0 a1) rfl rfl m_12 m_13 m_14 m_15 m_11 (by decide +kernel) ⟨Nat.le_of_ble_eq_true rfl, Nat.le_of_ble_eq_true rfl⟩ (rAt_rc hRe_o0) (p1_bl) (fun U hU hW => p1_mv hU hW hNB hRe_o0) rfl hl.1 rfl (Nat.le_of_ble_eq_true rfl) d_Real_remainder_38 ⟨Nat.zero_le _, Nat.zero_le _⟩ ?_
        refine lv_aload_n hx hb d_Real_remainder_41 rfl (lv_at hl 0 rfl) ?_
        refine lv_lload_n hx hb d_Real_remainder_42 rfl (lv_at hl 1 rfl) ?_
        refine q_V (As := [.long a1]) (rest := [.int (F_Real_isNegative K0 a1), .ref o0]) (n := 1) hx hb hml hown hts (c_Real_magnitude l o0 K0 a1) rfl rfl m_7 m_8 m_9 m_10 m_11 (by decide +kernel) ⟨Nat.le_of_ble_eq_true rfl, Nat.le_of_ble_eq_true rfl⟩ (rAt_rc hRe_o0) (p1_bl) (fun U hU hW => p1_mv hU hW hNB hRe_o0) rfl hl.1 rfl (Nat.le_of_ble_eq_true rfl) d_Real_remainder_43 ⟨Nat.zero_le _, Nat.zero_le _⟩ ?_
        refine q_V (As := [.int (F_Real_isNegative K0 a1), .long (F_Real_magnitude K0 a1)]) (rest := []) (n := 2) hx hb hml hown hts (c_Real_signed l o0 K0 (F_Real_isNegative K0 a1) (F_Real_magnitude K0 a1)) rfl rfl m_34 m_35 m_36 m_37 m_11 (by decide +kernel) ⟨Nat.le_of_ble_eq_true rfl, Nat.le_of_ble_eq_true rfl⟩ (rAt_rc hRe_o0) (p1_bl) (fun U hU hW => p1_mv hU hW hNB hRe_o0) rfl hl.1 rfl (Nat.le_of_ble_eq_true rfl) d_Real_remainder_46 ⟨Nat.zero_le _, Nat.zero_le _⟩ ?_
        exact hret 49 ls _ (Option.some.inj h) d_Real_remainder_49
    · have h := ite_f hc h
      exact hJ16 ls (lv_sub hl [0] rfl) h
-- Real_fromWhole
theorem d_Real_fromWhole_0 : decode b_Real_fromWhole 0 = .ok (.lload_n 1, 1) := by decide +kernel
theorem d_Real_fromWhole_1 : decode b_Real_fromWhole 1 = .ok (.ldc2_w 122, 3) := by decide +kernel
theorem d_Real_fromWhole_4 : decode b_Real_fromWhole 4 = .ok (.lcmp, 1) := by decide +kernel
theorem d_Real_fromWhole_5 : decode b_Real_fromWhole 5 = .ok (.ifCond .ne 13, 3) := by decide +kernel
theorem d_Real_fromWhole_8 : decode b_Real_fromWhole 8 = .ok (.aload_n 0, 1) := by decide +kernel
theorem d_Real_fromWhole_9 : decode b_Real_fromWhole 9 = .ok (.iconst 1, 1) := by decide +kernel
theorem d_Real_fromWhole_10 : decode b_Real_fromWhole 10 = .ok (.iconst 1, 1) := by decide +kernel
theorem d_Real_fromWhole_11 : decode b_Real_fromWhole 11 = .ok (.ldc2_w 124, 3) := by decide +kernel
theorem d_Real_fromWhole_14 : decode b_Real_fromWhole 14 = .ok (.invokevirtual 106, 3) := by decide +kernel
theorem d_Real_fromWhole_17 : decode b_Real_fromWhole 17 = .ok (.lreturn, 1) := by decide +kernel
theorem d_Real_fromWhole_18 : decode b_Real_fromWhole 18 = .ok (.aload_n 0, 1) := by decide +kernel
theorem d_Real_fromWhole_19 : decode b_Real_fromWhole 19 = .ok (.lload_n 1, 1) := by decide +kernel
theorem d_Real_fromWhole_20 : decode b_Real_fromWhole 20 = .ok (.lconst 0, 1) := by decide +kernel
theorem d_Real_fromWhole_21 : decode b_Real_fromWhole 21 = .ok (.lcmp, 1) := by decide +kernel
theorem d_Real_fromWhole_22 : decode b_Real_fromWhole 22 = .ok (.ifCond .ge 7, 3) := by decide +kernel
theorem d_Real_fromWhole_25 : decode b_Real_fromWhole 25 = .ok (.iconst 1, 1) := by decide +kernel
theorem d_Real_fromWhole_26 : decode b_Real_fromWhole 26 = .ok (.goto 4, 3) := by decide +kernel
theorem d_Real_fromWhole_29 : decode b_Real_fromWhole 29 = .ok (.iconst 0, 1) := by decide +kernel
theorem d_Real_fromWhole_30 : decode b_Real_fromWhole 30 = .ok (.iconst 0, 1) := by decide +kernel
theorem d_Real_fromWhole_31 : decode b_Real_fromWhole 31 = .ok (.lload_n 1, 1) := by decide +kernel
theorem d_Real_fromWhole_32 : decode b_Real_fromWhole 32 = .ok (.lconst 0, 1) := by decide +kernel
theorem d_Real_fromWhole_33 : decode b_Real_fromWhole 33 = .ok (.lcmp, 1) := by decide +kernel
theorem d_Real_fromWhole_34 : decode b_Real_fromWhole 34 = .ok (.ifCond .ge 8, 3) := by decide +kernel
theorem d_Real_fromWhole_37 : decode b_Real_fromWhole 37 = .ok (.lload_n 1, 1) := by decide +kernel
theorem d_Real_fromWhole_38 : decode b_Real_fromWhole 38 = .ok (.lneg, 1) := by decide +kernel
theorem d_Real_fromWhole_39 : decode b_Real_fromWhole 39 = .ok (.goto 4, 3) := by decide +kernel
theorem d_Real_fromWhole_42 : decode b_Real_fromWhole 42 = .ok (.lload_n 1, 1) := by decide +kernel
theorem d_Real_fromWhole_43 : decode b_Real_fromWhole 43 = .ok (.invokevirtual 106, 3) := by decide +kernel
theorem d_Real_fromWhole_46 : decode b_Real_fromWhole 46 = .ok (.lreturn, 1) := by decide +kernel
def F_Real_fromWhole (n : Nat) (K0 : rK) (a1 : Int64) : Option (Int64) := if ¬ a1 = (-9223372036854775808 : Int64) then (lt_ (if (0 : Int64) ≤ a1 then (0 : Int32) else (1 : Int32)) fun x1 => lt_ (if (0 : Int64) ≤ a1 then a1 else -a1) fun x2 => (F_Real_rounded n K0 x1 (0 : Int32) x2).bind fun x3 => some x3) else ((F_Real_rounded n K0 (1 : Int32) (1 : Int32) (4611686018427387904 : Int64)).bind fun x4 => some x4)
set_option maxHeartbeats 4000000 in
set_option maxRecDepth 100000 in
theorem c_Real_fromWhole (l : Launch) (o0 : Nat) (n : Nat) (K0 : rK) (a1 : Int64) (r : Int64) (h : F_Real_fromWhole n K0 a1 = some r) : Met l y_Real_fromWhole (.code y_Real_fromWhole b_Real_fromWhole 3 (some .long) :: BIG) ({ frames := 2, cells := 0, slots := 0, locals := 61 } : Room) (va_Pc [.ref o0, .long a1] (pre1 o0 K0)) (pQ (.long r)) 0 0 (fun _ => False) := by
  refine pOpen_l rfl (Nat.le_of_ble_eq_true rfl) ?_
  intro p e s m args below meth c Q ls hx hb hml hown hts hT hp hl hret
  obtain ⟨hNB, hRe_o0⟩ := hp
  have hown : s.vm.findClass R_Real = some m.cls := hown
  have hl : lv_has ls 3 [(0, .ref o0), (1, .long a1)] := hl
  have h : (if ¬ a1 = (-9223372036854775808 : Int64) then (lt_ (if (0 : Int64) ≤ a1 then (0 : Int32) else (1 : Int32)) fun x1 => lt_ (if (0 : Int64) ≤ a1 then a1 else -a1) fun x2 => (F_Real_rounded n K0 x1 (0 : Int32) x2).bind fun x3 => some x3) else ((F_Real_rounded n K0 (1 : Int32) (1 : Int32) (4611686018427387904 : Int64)).bind fun x4 => some x4)) = some r := h
  refine lv_lload_n hx hb d_Real_fromWhole_0 rfl (lv_at hl 1 rfl) ?_
  refine lv_ldc2 hx hb hown (hT _ m_103) d_Real_fromWhole_1 ?_
  refine W.lcmp hx hb d_Real_fromWhole_4 ?_
  refine lv_if_ne (tgt := 18) hx hb d_Real_fromWhole_5 rfl (fun hc => ?_) (fun hc => ?_)
  · have hc := mt (lg_cmp_eq _ _).mpr hc
    have h := ite_t hc h
    refine lv_aload_n hx hb d_Real_fromWhole_18 rfl (lv_at hl 0 rfl) ?_
    refine lv_lload_n hx hb d_Real_fromWhole_19 rfl (lv_at hl 1 rfl) ?_
    refine lv_lconst hx hb d_Real_fromWhole_20 lc_0 ?_
    refine W.lcmp hx hb d_Real_fromWhole_21 ?_
    obtain ⟨x1, e_x1, h⟩ := lt_o h
    have hJ30 : ∀ (x1' : Int32) (ls : Array Slot), x1 = x1' → lv_has ls 3 [(1, .long a1)] → W p l e ({ frames := 2, cells := 0, slots := 0, locals := 61 } : Room) s m args below meth c s.heap [] 0 0 Q (F0 m 30 ls [.int x1', .ref o0]) := by
      intro x1' ls q_x1 hl
      subst q_x1
      refine lv_iconst hx hb d_Real_fromWhole_30 ic_0 ?_
      refine lv_lload_n hx hb d_Real_fromWhole_31 rfl (lv_at hl 0 rfl) ?_
      refine lv_lconst hx hb d_Real_fromWhole_32 lc_0 ?_
      refine W.lcmp hx hb d_Real_fromWhole_33 ?_
      obtain ⟨x2, e_x2, h⟩ := lt_o h
      have hJ43 : ∀ (x2' : Int64) (ls : Array Slot), x2 = x2' → lv_has ls 3 [] → W p l e ({ frames := 2, cells := 0, slots := 0, locals := 61 } : Room) s m args below meth c s.heap [] 0 0 Q (F0 m 43 ls [.long x2', .int (0 : Int32), .int x1, .ref o0]) := by
        intro x2' ls q_x2 hl
        subst q_x2
        obtain ⟨x3, e_x3, h⟩ := bd_o h
        refine q_V (As := [.int x1, .int (0 : Int32), .long x2]) (rest := []) (n := 3) hx hb hml hown hts (c_Real_rounded l o0 n K0 x1 (0 : Int32) x2 _ e_x3) rfl rfl m_65 m_66 m_67 m_68 m_11 (by decide +kernel) ⟨Nat.le_of_ble_eq_true rfl, Nat.le_of_ble_eq_true rfl⟩ (rAt_rc hRe_o0) (p1_bl) (fun U hU hW => p1_mv hU hW hNB hRe_o0) rfl hl.1 rfl (Nat.le_of_ble_eq_true rfl) d_Real_fromWhole_43 ⟨Nat.zero_le _, Nat.zero_le _⟩ ?_
        exact hret 46 ls _ (Option.some.inj h) d_Real_fromWhole_46
      refine lv_if_ge (tgt := 42) hx hb d_Real_fromWhole_34 rfl (fun hc => ?_) (fun hc => ?_)
      · have hc := (lg_cmp_ge _ _).mp hc
        have e_x2 := e_x2.trans (if_pos hc)
        refine lv_lload_n hx hb d_Real_fromWhole_42 rfl (lv_at hl 0 rfl) ?_
        exact hJ43 _ ls e_x2 (lv_sub hl [] rfl)
      · have hc := mt (lg_cmp_ge _ _).mpr hc
        have e_x2 := e_x2.trans (if_neg hc)
        refine lv_lload_n hx hb d_Real_fromWhole_37 rfl (lv_at hl 0 rfl) ?_
        refine lv_lneg hx hb d_Real_fromWhole_38 ?_
        refine lv_goto (tgt := 43) hx hb d_Real_fromWhole_39 rfl ?_
        exact hJ43 _ ls e_x2 (lv_sub hl [] rfl)
    refine lv_if_ge (tgt := 29) hx hb d_Real_fromWhole_22 rfl (fun hc => ?_) (fun hc => ?_)
    · have hc := (lg_cmp_ge _ _).mp hc
      have e_x1 := e_x1.trans (if_pos hc)
      refine lv_iconst hx hb d_Real_fromWhole_29 ic_0 ?_
      exact hJ30 _ ls e_x1 (lv_sub hl [1] rfl)
    · have hc := mt (lg_cmp_ge _ _).mpr hc
      have e_x1 := e_x1.trans (if_neg hc)
      refine lv_iconst hx hb d_Real_fromWhole_25 ic_1 ?_
      refine lv_goto (tgt := 30) hx hb d_Real_fromWhole_26 rfl ?_
      exact hJ30 _ ls e_x1 (lv_sub hl [1] rfl)
  · have hc := not_not_intro ((lg_cmp_eq _ _).mp hc)
    have h := ite_f hc h
    refine lv_aload_n hx hb d_Real_fromWhole_8 rfl (lv_at hl 0 rfl) ?_
    refine lv_iconst hx hb d_Real_fromWhole_9 ic_1 ?_
    refine lv_iconst hx hb d_Real_fromWhole_10 ic_1 ?_
    refine lv_ldc2 hx hb hown (hT _ m_104) d_Real_fromWhole_11 ?_
    obtain ⟨x4, e_x4, h⟩ := bd_o h
    refine q_V (As := [.int (1 : Int32), .int (1 : Int32), .long (4611686018427387904 : Int64)]) (rest := []) (n := 3) hx hb hml hown hts (c_Real_rounded l o0 n K0 (1 : Int32) (1 : Int32) (4611686018427387904 : Int64) _ e_x4) rfl rfl m_65 m_66 m_67 m_68 m_11 (by decide +kernel) ⟨Nat.le_of_ble_eq_true rfl, Nat.le_of_ble_eq_true rfl⟩ (rAt_rc hRe_o0) (p1_bl) (fun U hU hW => p1_mv hU hW hNB hRe_o0) rfl hl.1 rfl (Nat.le_of_ble_eq_true rfl) d_Real_fromWhole_14 ⟨Nat.zero_le _, Nat.zero_le _⟩ ?_
    exact hret 17 ls _ (Option.some.inj h) d_Real_fromWhole_17
-- Real_fromReal
theorem d_Real_fromReal_0 : decode b_Real_fromReal 0 = .ok (.aload_n 3, 1) := by decide +kernel
theorem d_Real_fromReal_1 : decode b_Real_fromReal 1 = .ok (.lload_n 1, 1) := by decide +kernel
theorem d_Real_fromReal_2 : decode b_Real_fromReal 2 = .ok (.invokevirtual 69, 3) := by decide +kernel
theorem d_Real_fromReal_5 : decode b_Real_fromReal 5 = .ok (.ifCond .eq 8, 3) := by decide +kernel
theorem d_Real_fromReal_8 : decode b_Real_fromReal 8 = .ok (.aload_n 0, 1) := by decide +kernel
theorem d_Real_fromReal_9 : decode b_Real_fromReal 9 = .ok (.invokevirtual 72, 3) := by decide +kernel
theorem d_Real_fromReal_12 : decode b_Real_fromReal 12 = .ok (.lreturn, 1) := by decide +kernel
theorem d_Real_fromReal_13 : decode b_Real_fromReal 13 = .ok (.aload_n 3, 1) := by decide +kernel
theorem d_Real_fromReal_14 : decode b_Real_fromReal 14 = .ok (.lload_n 1, 1) := by decide +kernel
theorem d_Real_fromReal_15 : decode b_Real_fromReal 15 = .ok (.invokevirtual 80, 3) := by decide +kernel
theorem d_Real_fromReal_18 : decode b_Real_fromReal 18 = .ok (.ifCond .eq 17, 3) := by decide +kernel
theorem d_Real_fromReal_21 : decode b_Real_fromReal 21 = .ok (.aload_n 0, 1) := by decide +kernel
theorem d_Real_fromReal_22 : decode b_Real_fromReal 22 = .ok (.aload_n 3, 1) := by decide +kernel
theorem d_Real_fromReal_23 : decode b_Real_fromReal 23 = .ok (.lload_n 1, 1) := by decide +kernel
theorem d_Real_fromReal_24 : decode b_Real_fromReal 24 = .ok (.invokevirtual 52, 3) := by decide +kernel
theorem d_Real_fromReal_27 : decode b_Real_fromReal 27 = .ok (.aload_n 0, 1) := by decide +kernel
theorem d_Real_fromReal_28 : decode b_Real_fromReal 28 = .ok (.getfield 45, 3) := by decide +kernel
theorem d_Real_fromReal_31 : decode b_Real_fromReal 31 = .ok (.invokevirtual 76, 3) := by decide +kernel
theorem d_Real_fromReal_34 : decode b_Real_fromReal 34 = .ok (.lreturn, 1) := by decide +kernel
theorem d_Real_fromReal_35 : decode b_Real_fromReal 35 = .ok (.aload_n 0, 1) := by decide +kernel
theorem d_Real_fromReal_36 : decode b_Real_fromReal 36 = .ok (.aload_n 3, 1) := by decide +kernel
theorem d_Real_fromReal_37 : decode b_Real_fromReal 37 = .ok (.lload_n 1, 1) := by decide +kernel
theorem d_Real_fromReal_38 : decode b_Real_fromReal 38 = .ok (.invokevirtual 52, 3) := by decide +kernel
theorem d_Real_fromReal_41 : decode b_Real_fromReal 41 = .ok (.aload_n 3, 1) := by decide +kernel
theorem d_Real_fromReal_42 : decode b_Real_fromReal 42 = .ok (.lload_n 1, 1) := by decide +kernel
theorem d_Real_fromReal_43 : decode b_Real_fromReal 43 = .ok (.invokevirtual 116, 3) := by decide +kernel
theorem d_Real_fromReal_46 : decode b_Real_fromReal 46 = .ok (.aload_n 3, 1) := by decide +kernel
theorem d_Real_fromReal_47 : decode b_Real_fromReal 47 = .ok (.lload_n 1, 1) := by decide +kernel
theorem d_Real_fromReal_48 : decode b_Real_fromReal 48 = .ok (.invokevirtual 113, 3) := by decide +kernel
theorem d_Real_fromReal_51 : decode b_Real_fromReal 51 = .ok (.invokevirtual 106, 3) := by decide +kernel
theorem d_Real_fromReal_54 : decode b_Real_fromReal 54 = .ok (.lreturn, 1) := by decide +kernel
def F_Real_fromReal (n : Nat) (K0 : rK) (K2 : rK) (a1 : Int64) : Option (Int64) := if (F_Real_isNan K2 a1) = 0 then (if (F_Real_isInfinite K2 a1) = 0 then ((F_Real_rounded n K0 (F_Real_isNegative K2 a1) (F_Real_power K2 a1) (F_Real_significand K2 a1)).bind fun x1 => some x1) else (some (F_Real_signed K0 (F_Real_isNegative K2 a1) K0.2.2.2.2))) else (some (F_Real_nan K0))
set_option maxHeartbeats 4000000 in
set_option maxRecDepth 100000 in
theorem c_Real_fromReal (l : Launch) (o0 : Nat) (o2 : Nat) (n : Nat) (K0 : rK) (K2 : rK) (a1 : Int64) (r : Int64) (h : F_Real_fromReal n K0 K2 a1 = some r) : Met l y_Real_fromReal (.code y_Real_fromReal b_Real_fromReal 4 (some .long) :: BIG) ({ frames := 2, cells := 0, slots := 0, locals := 61 } : Room) (va_Pc [.ref o0, .long a1, .ref o2] (pre2 o0 K0 o2 K2)) (pQ (.long r)) 0 0 (fun _ => False) := by
  refine pOpen_l rfl (Nat.le_of_ble_eq_true rfl) ?_
  intro p e s m args below meth c Q ls hx hb hml hown hts hT hp hl hret
  obtain ⟨hNB, hRe_o0, hRe_o2⟩ := hp
  have hown : s.vm.findClass R_Real = some m.cls := hown
  have hl : lv_has ls 4 [(0, .ref o0), (1, .long a1), (3, .ref o2)] := hl
  have h : (if (F_Real_isNan K2 a1) = 0 then (if (F_Real_isInfinite K2 a1) = 0 then ((F_Real_rounded n K0 (F_Real_isNegative K2 a1) (F_Real_power K2 a1) (F_Real_significand K2 a1)).bind fun x1 => some x1) else (some (F_Real_signed K0 (F_Real_isNegative K2 a1) K0.2.2.2.2))) else (some (F_Real_nan K0))) = some r := h
  refine lv_aload_n hx hb d_Real_fromReal_0 rfl (lv_at hl 2 rfl) ?_
  refine lv_lload_n hx hb d_Real_fromReal_1 rfl (lv_at hl 1 rfl) ?_
  refine q_V (As := [.long a1]) (rest := []) (n := 1) hx hb hml hown hts (c_Real_isNan l o2 K2 a1) rfl rfl m_30 m_31 m_32 m_33 m_11 (by decide +kernel) ⟨Nat.le_of_ble_eq_true rfl, Nat.le_of_ble_eq_true rfl⟩ (rAt_rc hRe_o2) (p1_bl) (fun U hU hW => p1_mv hU hW hNB hRe_o2) rfl hl.1 rfl (Nat.le_of_ble_eq_true rfl) d_Real_fromReal_2 ⟨Nat.zero_le _, Nat.zero_le _⟩ ?_
  refine lv_if_eq (tgt := 13) hx hb d_Real_fromReal_5 rfl (fun hc => ?_) (fun hc => ?_)
  · have h := ite_t hc h
    refine lv_aload_n hx hb d_Real_fromReal_13 rfl (lv_at hl 2 rfl) ?_
    refine lv_lload_n hx hb d_Real_fromReal_14 rfl (lv_at hl 1 rfl) ?_
    refine q_V (As := [.long a1]) (rest := []) (n := 1) hx hb hml hown hts (c_Real_isInfinite l o2 K2 a1) rfl rfl m_42 m_43 m_44 m_45 m_11 (by decide +kernel) ⟨Nat.le_of_ble_eq_true rfl, Nat.le_of_ble_eq_true rfl⟩ (rAt_rc hRe_o2) (p1_bl) (fun U hU hW => p1_mv hU hW hNB hRe_o2) rfl hl.1 rfl (Nat.le_of_ble_eq_true rfl) d_Real_fromReal_15 ⟨Nat.zero_le _, Nat.zero_le _⟩ ?_
    refine lv_if_eq (tgt := 35) hx hb d_Real_fromReal_18 rfl (fun hc => ?_) (fun hc => ?_)
    · have h := ite_t hc h
      refine lv_aload_n hx hb d_Real_fromReal_35 rfl (lv_at hl 0 rfl) ?_
      refine lv_aload_n hx hb d_Real_fromReal_36 rfl (lv_at hl 2 rfl) ?_
      refine lv_lload_n hx hb d_Real_fromReal_37 rfl (lv_at hl 1 rfl) ?_
      refine q_V (As := [.long a1]) (rest := [.ref o0]) (n := 1) hx hb hml hown hts (c_Real_isNegative l o2 K2 a1) rfl rfl m_12 m_13 m_14 m_15 m_11 (by decide +kernel) ⟨Nat.le_of_ble_eq_true rfl, Nat.le_of_ble_eq_true rfl⟩ (rAt_rc hRe_o2) (p1_bl) (fun U hU hW => p1_mv hU hW hNB hRe_o2) rfl hl.1 rfl (Nat.le_of_ble_eq_true rfl) d_Real_fromReal_38 ⟨Nat.zero_le _, Nat.zero_le _⟩ ?_
      refine lv_aload_n hx hb d_Real_fromReal_41 rfl (lv_at hl 2 rfl) ?_
      refine lv_lload_n hx hb d_Real_fromReal_42 rfl (lv_at hl 1 rfl) ?_
      refine q_V (As := [.long a1]) (rest := [.int (F_Real_isNegative K2 a1), .ref o0]) (n := 1) hx hb hml hown hts (c_Real_power l o2 K2 a1) rfl rfl m_58 m_59 m_60 m_61 m_11 (by decide +kernel) ⟨Nat.le_of_ble_eq_true rfl, Nat.le_of_ble_eq_true rfl⟩ (rAt_rc hRe_o2) (p1_bl) (fun U hU hW => p1_mv hU hW hNB hRe_o2) rfl hl.1 rfl (Nat.le_of_ble_eq_true rfl) d_Real_fromReal_43 ⟨Nat.zero_le _, Nat.zero_le _⟩ ?_
      refine lv_aload_n hx hb d_Real_fromReal_46 rfl (lv_at hl 2 rfl) ?_
      refine lv_lload_n hx hb d_Real_fromReal_47 rfl (lv_at hl 1 rfl) ?_
      refine q_V (As := [.long a1]) (rest := [.int (F_Real_power K2 a1), .int (F_Real_isNegative K2 a1), .ref o0]) (n := 1) hx hb hml hown hts (c_Real_significand l o2 K2 a1) rfl rfl m_54 m_55 m_56 m_57 m_11 (by decide +kernel) ⟨Nat.le_of_ble_eq_true rfl, Nat.le_of_ble_eq_true rfl⟩ (rAt_rc hRe_o2) (p1_bl) (fun U hU hW => p1_mv hU hW hNB hRe_o2) rfl hl.1 rfl (Nat.le_of_ble_eq_true rfl) d_Real_fromReal_48 ⟨Nat.zero_le _, Nat.zero_le _⟩ ?_
      obtain ⟨x1, e_x1, h⟩ := bd_o h
      refine q_V (As := [.int (F_Real_isNegative K2 a1), .int (F_Real_power K2 a1), .long (F_Real_significand K2 a1)]) (rest := []) (n := 3) hx hb hml hown hts (c_Real_rounded l o0 n K0 (F_Real_isNegative K2 a1) (F_Real_power K2 a1) (F_Real_significand K2 a1) _ e_x1) rfl rfl m_65 m_66 m_67 m_68 m_11 (by decide +kernel) ⟨Nat.le_of_ble_eq_true rfl, Nat.le_of_ble_eq_true rfl⟩ (rAt_rc hRe_o0) (p1_bl) (fun U hU hW => p1_mv hU hW hNB hRe_o0) rfl hl.1 rfl (Nat.le_of_ble_eq_true rfl) d_Real_fromReal_51 ⟨Nat.zero_le _, Nat.zero_le _⟩ ?_
      exact hret 54 ls _ (Option.some.inj h) d_Real_fromReal_54
    · have h := ite_f hc h
      refine lv_aload_n hx hb d_Real_fromReal_21 rfl (lv_at hl 0 rfl) ?_
      refine lv_aload_n hx hb d_Real_fromReal_22 rfl (lv_at hl 2 rfl) ?_
      refine lv_lload_n hx hb d_Real_fromReal_23 rfl (lv_at hl 1 rfl) ?_
      refine q_V (As := [.long a1]) (rest := [.ref o0]) (n := 1) hx hb hml hown hts (c_Real_isNegative l o2 K2 a1) rfl rfl m_12 m_13 m_14 m_15 m_11 (by decide +kernel) ⟨Nat.le_of_ble_eq_true rfl, Nat.le_of_ble_eq_true rfl⟩ (rAt_rc hRe_o2) (p1_bl) (fun U hU hW => p1_mv hU hW hNB hRe_o2) rfl hl.1 rfl (Nat.le_of_ble_eq_true rfl) d_Real_fromReal_24 ⟨Nat.zero_le _, Nat.zero_le _⟩ ?_
      refine lv_aload_n hx hb d_Real_fromReal_27 rfl (lv_at hl 0 rfl) ?_
      refine vk_getf hx hb (hRe_o0.2.2.2.2.2) va_S.rf hown (hT _ m_4) (fun _ h9 => h9) d_Real_fromReal_28 ?_
      refine q_V (As := [.int (F_Real_isNegative K2 a1), .long K0.2.2.2.2]) (rest := []) (n := 2) hx hb hml hown hts (c_Real_signed l o0 K0 (F_Real_isNegative K2 a1) K0.2.2.2.2) rfl rfl m_34 m_35 m_36 m_37 m_11 (by decide +kernel) ⟨Nat.le_of_ble_eq_true rfl, Nat.le_of_ble_eq_true rfl⟩ (rAt_rc hRe_o0) (p1_bl) (fun U hU hW => p1_mv hU hW hNB hRe_o0) rfl hl.1 rfl (Nat.le_of_ble_eq_true rfl) d_Real_fromReal_31 ⟨Nat.zero_le _, Nat.zero_le _⟩ ?_
      exact hret 34 ls _ (Option.some.inj h) d_Real_fromReal_34
  · have h := ite_f hc h
    refine lv_aload_n hx hb d_Real_fromReal_8 rfl (lv_at hl 0 rfl) ?_
    refine q_V (As := []) (rest := []) (n := 0) hx hb hml hown hts (c_Real_nan l o0 K0) rfl rfl m_38 m_39 m_40 m_41 m_11 (by decide +kernel) ⟨Nat.le_of_ble_eq_true rfl, Nat.le_of_ble_eq_true rfl⟩ (rAt_rc hRe_o0) (p1_bl) (fun U hU hW => p1_mv hU hW hNB hRe_o0) rfl hl.1 rfl (Nat.le_of_ble_eq_true rfl) d_Real_fromReal_9 ⟨Nat.zero_le _, Nat.zero_le _⟩ ?_
    exact hret 12 ls _ (Option.some.inj h) d_Real_fromReal_12
-- Real_toLong
theorem d_Real_toLong_0 : decode b_Real_toLong 0 = .ok (.aload_n 0, 1) := by decide +kernel
theorem d_Real_toLong_1 : decode b_Real_toLong 1 = .ok (.lload_n 1, 1) := by decide +kernel
theorem d_Real_toLong_2 : decode b_Real_toLong 2 = .ok (.invokevirtual 69, 3) := by decide +kernel
theorem d_Real_toLong_5 : decode b_Real_toLong 5 = .ok (.ifCond .eq 5, 3) := by decide +kernel
theorem d_Real_toLong_8 : decode b_Real_toLong 8 = .ok (.lconst 0, 1) := by decide +kernel
theorem d_Real_toLong_9 : decode b_Real_toLong 9 = .ok (.lreturn, 1) := by decide +kernel
theorem d_Real_toLong_10 : decode b_Real_toLong 10 = .ok (.aload_n 0, 1) := by decide +kernel
theorem d_Real_toLong_11 : decode b_Real_toLong 11 = .ok (.lload_n 1, 1) := by decide +kernel
theorem d_Real_toLong_12 : decode b_Real_toLong 12 = .ok (.invokevirtual 116, 3) := by decide +kernel
theorem d_Real_toLong_15 : decode b_Real_toLong 15 = .ok (.istore_n 3, 1) := by decide +kernel
theorem d_Real_toLong_16 : decode b_Real_toLong 16 = .ok (.iload_n 3, 1) := by decide +kernel
theorem d_Real_toLong_17 : decode b_Real_toLong 17 = .ok (.bipush 62, 2) := by decide +kernel
theorem d_Real_toLong_19 : decode b_Real_toLong 19 = .ok (.aload_n 0, 1) := by decide +kernel
theorem d_Real_toLong_20 : decode b_Real_toLong 20 = .ok (.getfield 31, 3) := by decide +kernel
theorem d_Real_toLong_23 : decode b_Real_toLong 23 = .ok (.isub, 1) := by decide +kernel
theorem d_Real_toLong_24 : decode b_Real_toLong 24 = .ok (.if_icmp .le 21, 3) := by decide +kernel
theorem d_Real_toLong_27 : decode b_Real_toLong 27 = .ok (.aload_n 0, 1) := by decide +kernel
theorem d_Real_toLong_28 : decode b_Real_toLong 28 = .ok (.lload_n 1, 1) := by decide +kernel
theorem d_Real_toLong_29 : decode b_Real_toLong 29 = .ok (.invokevirtual 52, 3) := by decide +kernel
theorem d_Real_toLong_32 : decode b_Real_toLong 32 = .ok (.ifCond .eq 9, 3) := by decide +kernel
theorem d_Real_toLong_35 : decode b_Real_toLong 35 = .ok (.ldc2_w 122, 3) := by decide +kernel
theorem d_Real_toLong_38 : decode b_Real_toLong 38 = .ok (.goto 6, 3) := by decide +kernel
theorem d_Real_toLong_41 : decode b_Real_toLong 41 = .ok (.ldc2_w 126, 3) := by decide +kernel
theorem d_Real_toLong_44 : decode b_Real_toLong 44 = .ok (.lreturn, 1) := by decide +kernel
theorem d_Real_toLong_45 : decode b_Real_toLong 45 = .ok (.iload_n 3, 1) := by decide +kernel
theorem d_Real_toLong_46 : decode b_Real_toLong 46 = .ok (.bipush (-64), 2) := by decide +kernel
theorem d_Real_toLong_48 : decode b_Real_toLong 48 = .ok (.if_icmp .gt 5, 3) := by decide +kernel
theorem d_Real_toLong_51 : decode b_Real_toLong 51 = .ok (.lconst 0, 1) := by decide +kernel
theorem d_Real_toLong_52 : decode b_Real_toLong 52 = .ok (.lreturn, 1) := by decide +kernel
theorem d_Real_toLong_53 : decode b_Real_toLong 53 = .ok (.iload_n 3, 1) := by decide +kernel
theorem d_Real_toLong_54 : decode b_Real_toLong 54 = .ok (.ifCond .ge 14, 3) := by decide +kernel
theorem d_Real_toLong_57 : decode b_Real_toLong 57 = .ok (.aload_n 0, 1) := by decide +kernel
theorem d_Real_toLong_58 : decode b_Real_toLong 58 = .ok (.lload_n 1, 1) := by decide +kernel
theorem d_Real_toLong_59 : decode b_Real_toLong 59 = .ok (.invokevirtual 113, 3) := by decide +kernel
theorem d_Real_toLong_62 : decode b_Real_toLong 62 = .ok (.iload_n 3, 1) := by decide +kernel
theorem d_Real_toLong_63 : decode b_Real_toLong 63 = .ok (.ineg, 1) := by decide +kernel
theorem d_Real_toLong_64 : decode b_Real_toLong 64 = .ok (.lushr, 1) := by decide +kernel
theorem d_Real_toLong_65 : decode b_Real_toLong 65 = .ok (.goto 10, 3) := by decide +kernel
theorem d_Real_toLong_68 : decode b_Real_toLong 68 = .ok (.aload_n 0, 1) := by decide +kernel
theorem d_Real_toLong_69 : decode b_Real_toLong 69 = .ok (.lload_n 1, 1) := by decide +kernel
theorem d_Real_toLong_70 : decode b_Real_toLong 70 = .ok (.invokevirtual 113, 3) := by decide +kernel
theorem d_Real_toLong_73 : decode b_Real_toLong 73 = .ok (.iload_n 3, 1) := by decide +kernel
theorem d_Real_toLong_74 : decode b_Real_toLong 74 = .ok (.lshl, 1) := by decide +kernel
theorem d_Real_toLong_75 : decode b_Real_toLong 75 = .ok (.lstore 4, 2) := by decide +kernel
theorem d_Real_toLong_77 : decode b_Real_toLong 77 = .ok (.aload_n 0, 1) := by decide +kernel
theorem d_Real_toLong_78 : decode b_Real_toLong 78 = .ok (.lload_n 1, 1) := by decide +kernel
theorem d_Real_toLong_79 : decode b_Real_toLong 79 = .ok (.invokevirtual 52, 3) := by decide +kernel
theorem d_Real_toLong_82 : decode b_Real_toLong 82 = .ok (.ifCond .eq 9, 3) := by decide +kernel
theorem d_Real_toLong_85 : decode b_Real_toLong 85 = .ok (.lload 4, 2) := by decide +kernel
theorem d_Real_toLong_87 : decode b_Real_toLong 87 = .ok (.lneg, 1) := by decide +kernel
theorem d_Real_toLong_88 : decode b_Real_toLong 88 = .ok (.goto 5, 3) := by decide +kernel
theorem d_Real_toLong_91 : decode b_Real_toLong 91 = .ok (.lload 4, 2) := by decide +kernel
theorem d_Real_toLong_93 : decode b_Real_toLong 93 = .ok (.lreturn, 1) := by decide +kernel
def F_Real_toLong (K0 : rK) (a1 : Int64) : Int64 := if (F_Real_isNan K0 a1) = 0 then (lt_ (F_Real_power K0 a1) fun x1 => if x1 ≤ ((62 : Int32) - K0.1) then (if (-64 : Int32) < x1 then (lt_ (if 0 ≤ x1 then (F_Real_significand K0 a1) <<< ((x1).toInt64 &&& 63) else ((F_Real_significand K0 a1).toUInt64 >>> ((-x1).toInt64.toUInt64 &&& Int64.toUInt64 63)).toInt64) fun x2 => lt_ (if (F_Real_isNegative K0 a1) = 0 then x2 else -x2) fun x3 => x3) else (0 : Int64)) else (lt_ (if (F_Real_isNegative K0 a1) = 0 then (9223372036854775807 : Int64) else (-9223372036854775808 : Int64)) fun x4 => x4)) else (0 : Int64)
set_option maxHeartbeats 4000000 in
set_option maxRecDepth 100000 in
theorem c_Real_toLong (l : Launch) (o0 : Nat) (K0 : rK) (a1 : Int64) : Met l y_Real_toLong (.code y_Real_toLong b_Real_toLong 6 (some .long) :: BIG) ({ frames := 2, cells := 0, slots := 0, locals := 44 } : Room) (va_Pc [.ref o0, .long a1] (pre1 o0 K0)) (pQ (.long (F_Real_toLong K0 a1))) 0 0 (fun _ => False) := by
  refine pOpen_l rfl (Nat.le_of_ble_eq_true rfl) ?_
  intro p e s m args below meth c Q ls hx hb hml hown hts hT hp hl hret
  obtain ⟨hNB, hRe_o0⟩ := hp
  have hown : s.vm.findClass R_Real = some m.cls := hown
  have hl : lv_has ls 6 [(0, .ref o0), (1, .long a1)] := hl
  obtain ⟨r, h⟩ : ∃ r, F_Real_toLong K0 a1 = r := ⟨_, rfl⟩
  rw [h] at hret
  have h : (if (F_Real_isNan K0 a1) = 0 then (lt_ (F_Real_power K0 a1) fun x1 => if x1 ≤ ((62 : Int32) - K0.1) then (if (-64 : Int32) < x1 then (lt_ (if 0 ≤ x1 then (F_Real_significand K0 a1) <<< ((x1).toInt64 &&& 63) else ((F_Real_significand K0 a1).toUInt64 >>> ((-x1).toInt64.toUInt64 &&& Int64.toUInt64 63)).toInt64) fun x2 => lt_ (if (F_Real_isNegative K0 a1) = 0 then x2 else -x2) fun x3 => x3) else (0 : Int64)) else (lt_ (if (F_Real_isNegative K0 a1) = 0 then (9223372036854775807 : Int64) else (-9223372036854775808 : Int64)) fun x4 => x4)) else (0 : Int64)) = r := h
  refine lv_aload_n hx hb d_Real_toLong_0 rfl (lv_at hl 0 rfl) ?_
  refine lv_lload_n hx hb d_Real_toLong_1 rfl (lv_at hl 1 rfl) ?_
  refine q_V (As := [.long a1]) (rest := []) (n := 1) hx hb hml hown hts (c_Real_isNan l o0 K0 a1) rfl rfl m_30 m_31 m_32 m_33 m_11 (by decide +kernel) ⟨Nat.le_of_ble_eq_true rfl, Nat.le_of_ble_eq_true rfl⟩ (rAt_rc hRe_o0) (p1_bl) (fun U hU hW => p1_mv hU hW hNB hRe_o0) rfl hl.1 rfl (Nat.le_of_ble_eq_true rfl) d_Real_toLong_2 ⟨Nat.zero_le _, Nat.zero_le _⟩ ?_
  refine lv_if_eq (tgt := 10) hx hb d_Real_toLong_5 rfl (fun hc => ?_) (fun hc => ?_)
  · have h := ite_t hc h
    refine lv_aload_n hx hb d_Real_toLong_10 rfl (lv_at hl 0 rfl) ?_
    refine lv_lload_n hx hb d_Real_toLong_11 rfl (lv_at hl 1 rfl) ?_
    refine q_V (As := [.long a1]) (rest := []) (n := 1) hx hb hml hown hts (c_Real_power l o0 K0 a1) rfl rfl m_58 m_59 m_60 m_61 m_11 (by decide +kernel) ⟨Nat.le_of_ble_eq_true rfl, Nat.le_of_ble_eq_true rfl⟩ (rAt_rc hRe_o0) (p1_bl) (fun U hU hW => p1_mv hU hW hNB hRe_o0) rfl hl.1 rfl (Nat.le_of_ble_eq_true rfl) d_Real_toLong_12 ⟨Nat.zero_le _, Nat.zero_le _⟩ ?_
    refine lv_topi (fun x1 e_x1 => ?_)
    have h := lt_h e_x1 h
    refine lv_istore_n hx hb d_Real_toLong_15 rfl hl (by decide) rfl (fun ls hl => ?_)
    have hl : lv_has ls 6 [(3, .int x1), (0, .ref o0), (1, .long a1)] := hl
    refine lv_iload_n hx hb d_Real_toLong_16 rfl (lv_at hl 0 rfl) ?_
    refine lv_bipush hx hb d_Real_toLong_17 bp_62 ?_
    refine lv_aload_n hx hb d_Real_toLong_19 rfl (lv_at hl 1 rfl) ?_
    refine vk_getf hx hb (hRe_o0.2.1) va_S.rf hown (hT _ m_5) (fun _ h9 => h9) d_Real_toLong_20 ?_
    refine lv_isub hx hb d_Real_toLong_23 ?_
    refine lv_icmp_le (tgt := 45) hx hb d_Real_toLong_24 rfl (fun hc => ?_) (fun hc => ?_)
    · have h := ite_t hc h
      refine lv_iload_n hx hb d_Real_toLong_45 rfl (lv_at hl 0 rfl) ?_
      refine lv_bipush hx hb d_Real_toLong_46 bp_m64 ?_
      refine lv_icmp_gt (tgt := 53) hx hb d_Real_toLong_48 rfl (fun hc => ?_) (fun hc => ?_)
      · have h := ite_t hc h
        refine lv_iload_n hx hb d_Real_toLong_53 rfl (lv_at hl 0 rfl) ?_
        obtain ⟨x2, e_x2, h⟩ := lt_o h
        have hJ75 : ∀ (x2' : Int64) (ls : Array Slot), x2 = x2' → lv_has ls 6 [(0, .ref o0), (1, .long a1)] → W p l e ({ frames := 2, cells := 0, slots := 0, locals := 44 } : Room) s m args below meth c s.heap [] 0 0 Q (F0 m 75 ls [.long x2']) := by
          intro x2' ls q_x2 hl
          subst q_x2
          refine lv_lstore hx hb d_Real_toLong_75 hl (by decide) rfl (fun ls hl => ?_)
          have hl : lv_has ls 6 [(4, .long x2), (0, .ref o0), (1, .long a1)] := hl
          refine lv_aload_n hx hb d_Real_toLong_77 rfl (lv_at hl 1 rfl) ?_
          refine lv_lload_n hx hb d_Real_toLong_78 rfl (lv_at hl 2 rfl) ?_
          refine q_V (As := [.long a1]) (rest := []) (n := 1) hx hb hml hown hts (c_Real_isNegative l o0 K0 a1) rfl rfl m_12 m_13 m_14 m_15 m_11 (by decide +kernel) ⟨Nat.le_of_ble_eq_true rfl, Nat.le_of_ble_eq_true rfl⟩ (rAt_rc hRe_o0) (p1_bl) (fun U hU hW => p1_mv hU hW hNB hRe_o0) rfl hl.1 rfl (Nat.le_of_ble_eq_true rfl) d_Real_toLong_79 ⟨Nat.zero_le _, Nat.zero_le _⟩ ?_
          obtain ⟨x3, e_x3, h⟩ := lt_o h
          have hJ93 : ∀ (x3' : Int64) (ls : Array Slot), x3 = x3' → lv_has ls 6 [] → W p l e ({ frames := 2, cells := 0, slots := 0, locals := 44 } : Room) s m args below meth c s.heap [] 0 0 Q (F0 m 93 ls [.long x3']) := by
            intro x3' ls q_x3 hl
            subst q_x3
            exact hret 93 ls _ h d_Real_toLong_93
          refine lv_if_eq (tgt := 91) hx hb d_Real_toLong_82 rfl (fun hc => ?_) (fun hc => ?_)
          · have e_x3 := e_x3.trans (if_pos hc)
            refine lv_lload hx hb d_Real_toLong_91 (lv_at hl 0 rfl) ?_
            exact hJ93 _ ls e_x3 (lv_sub hl [] rfl)
          · have e_x3 := e_x3.trans (if_neg hc)
            refine lv_lload hx hb d_Real_toLong_85 (lv_at hl 0 rfl) ?_
            refine lv_lneg hx hb d_Real_toLong_87 ?_
            refine lv_goto (tgt := 93) hx hb d_Real_toLong_88 rfl ?_
            exact hJ93 _ ls e_x3 (lv_sub hl [] rfl)
        refine lv_if_ge (tgt := 68) hx hb d_Real_toLong_54 rfl (fun hc => ?_) (fun hc => ?_)
        · have e_x2 := e_x2.trans (if_pos hc)
          refine lv_aload_n hx hb d_Real_toLong_68 rfl (lv_at hl 1 rfl) ?_
          refine lv_lload_n hx hb d_Real_toLong_69 rfl (lv_at hl 2 rfl) ?_
          refine q_V (As := [.long a1]) (rest := []) (n := 1) hx hb hml hown hts (c_Real_significand l o0 K0 a1) rfl rfl m_54 m_55 m_56 m_57 m_11 (by decide +kernel) ⟨Nat.le_of_ble_eq_true rfl, Nat.le_of_ble_eq_true rfl⟩ (rAt_rc hRe_o0) (p1_bl) (fun U hU hW => p1_mv hU hW hNB hRe_o0) rfl hl.1 rfl (Nat.le_of_ble_eq_true rfl) d_Real_toLong_70 ⟨Nat.zero_le _, Nat.zero_le _⟩ ?_
          refine lv_iload_n hx hb d_Real_toLong_73 rfl (lv_at hl 0 rfl) ?_
          refine lv_lshl hx hb d_Real_toLong_74 rfl ?_
          exact hJ75 _ ls e_x2 (lv_sub hl [1, 2] rfl)
        · have e_x2 := e_x2.trans (if_neg hc)
          refine lv_aload_n hx hb d_Real_toLong_57 rfl (lv_at hl 1 rfl) ?_
          refine lv_lload_n hx hb d_Real_toLong_58 rfl (lv_at hl 2 rfl) ?_
          refine q_V (As := [.long a1]) (rest := []) (n := 1) hx hb hml hown hts (c_Real_significand l o0 K0 a1) rfl rfl m_54 m_55 m_56 m_57 m_11 (by decide +kernel) ⟨Nat.le_of_ble_eq_true rfl, Nat.le_of_ble_eq_true rfl⟩ (rAt_rc hRe_o0) (p1_bl) (fun U hU hW => p1_mv hU hW hNB hRe_o0) rfl hl.1 rfl (Nat.le_of_ble_eq_true rfl) d_Real_toLong_59 ⟨Nat.zero_le _, Nat.zero_le _⟩ ?_
          refine lv_iload_n hx hb d_Real_toLong_62 rfl (lv_at hl 0 rfl) ?_
          refine lv_ineg hx hb d_Real_toLong_63 ?_
          refine lv_lushr hx hb d_Real_toLong_64 rfl ?_
          refine lv_goto (tgt := 75) hx hb d_Real_toLong_65 rfl ?_
          exact hJ75 _ ls e_x2 (lv_sub hl [1, 2] rfl)
      · have h := ite_f hc h
        refine lv_lconst hx hb d_Real_toLong_51 lc_0 ?_
        exact hret 52 ls _ h d_Real_toLong_52
    · have h := ite_f hc h
      refine lv_aload_n hx hb d_Real_toLong_27 rfl (lv_at hl 1 rfl) ?_
      refine lv_lload_n hx hb d_Real_toLong_28 rfl (lv_at hl 2 rfl) ?_
      refine q_V (As := [.long a1]) (rest := []) (n := 1) hx hb hml hown hts (c_Real_isNegative l o0 K0 a1) rfl rfl m_12 m_13 m_14 m_15 m_11 (by decide +kernel) ⟨Nat.le_of_ble_eq_true rfl, Nat.le_of_ble_eq_true rfl⟩ (rAt_rc hRe_o0) (p1_bl) (fun U hU hW => p1_mv hU hW hNB hRe_o0) rfl hl.1 rfl (Nat.le_of_ble_eq_true rfl) d_Real_toLong_29 ⟨Nat.zero_le _, Nat.zero_le _⟩ ?_
      obtain ⟨x4, e_x4, h⟩ := lt_o h
      have hJ44 : ∀ (x4' : Int64) (ls : Array Slot), x4 = x4' → lv_has ls 6 [] → W p l e ({ frames := 2, cells := 0, slots := 0, locals := 44 } : Room) s m args below meth c s.heap [] 0 0 Q (F0 m 44 ls [.long x4']) := by
        intro x4' ls q_x4 hl
        subst q_x4
        exact hret 44 ls _ h d_Real_toLong_44
      refine lv_if_eq (tgt := 41) hx hb d_Real_toLong_32 rfl (fun hc => ?_) (fun hc => ?_)
      · have e_x4 := e_x4.trans (if_pos hc)
        refine lv_ldc2 hx hb hown (hT _ m_105) d_Real_toLong_41 ?_
        exact hJ44 _ ls e_x4 (lv_sub hl [] rfl)
      · have e_x4 := e_x4.trans (if_neg hc)
        refine lv_ldc2 hx hb hown (hT _ m_103) d_Real_toLong_35 ?_
        refine lv_goto (tgt := 44) hx hb d_Real_toLong_38 rfl ?_
        exact hJ44 _ ls e_x4 (lv_sub hl [] rfl)
  · have h := ite_f hc h
    refine lv_lconst hx hb d_Real_toLong_8 lc_0 ?_
    exact hret 9 ls _ h d_Real_toLong_9
-- SD_nearer
theorem d_SD_nearer_0 : decode b_SD_nearer 0 = .ok (.lload_n 3, 1) := by decide +kernel
theorem d_SD_nearer_1 : decode b_SD_nearer 1 = .ok (.lload 5, 2) := by decide +kernel
theorem d_SD_nearer_3 : decode b_SD_nearer 3 = .ok (.ldc2_w 42, 3) := by decide +kernel
theorem d_SD_nearer_6 : decode b_SD_nearer 6 = .ok (.ldiv, 1) := by decide +kernel
theorem d_SD_nearer_7 : decode b_SD_nearer 7 = .ok (.ladd, 1) := by decide +kernel
theorem d_SD_nearer_8 : decode b_SD_nearer 8 = .ok (.lstore 7, 2) := by decide +kernel
theorem d_SD_nearer_10 : decode b_SD_nearer 10 = .ok (.lload_n 0, 1) := by decide +kernel
theorem d_SD_nearer_11 : decode b_SD_nearer 11 = .ok (.lload 7, 2) := by decide +kernel
theorem d_SD_nearer_13 : decode b_SD_nearer 13 = .ok (.lcmp, 1) := by decide +kernel
theorem d_SD_nearer_14 : decode b_SD_nearer 14 = .ok (.ifCond .lt 27, 3) := by decide +kernel
theorem d_SD_nearer_17 : decode b_SD_nearer 17 = .ok (.lload_n 0, 1) := by decide +kernel
theorem d_SD_nearer_18 : decode b_SD_nearer 18 = .ok (.lload 7, 2) := by decide +kernel
theorem d_SD_nearer_20 : decode b_SD_nearer 20 = .ok (.lcmp, 1) := by decide +kernel
theorem d_SD_nearer_21 : decode b_SD_nearer 21 = .ok (.ifCond .ne 24, 3) := by decide +kernel
theorem d_SD_nearer_24 : decode b_SD_nearer 24 = .ok (.iload_n 2, 1) := by decide +kernel
theorem d_SD_nearer_25 : decode b_SD_nearer 25 = .ok (.ifCond .eq 20, 3) := by decide +kernel
theorem d_SD_nearer_28 : decode b_SD_nearer 28 = .ok (.lload_n 3, 1) := by decide +kernel
theorem d_SD_nearer_29 : decode b_SD_nearer 29 = .ok (.lload 5, 2) := by decide +kernel
theorem d_SD_nearer_31 : decode b_SD_nearer 31 = .ok (.ldiv, 1) := by decide +kernel
theorem d_SD_nearer_32 : decode b_SD_nearer 32 = .ok (.ldc2_w 42, 3) := by decide +kernel
theorem d_SD_nearer_35 : decode b_SD_nearer 35 = .ok (.lrem, 1) := by decide +kernel
theorem d_SD_nearer_36 : decode b_SD_nearer 36 = .ok (.lconst 0, 1) := by decide +kernel
theorem d_SD_nearer_37 : decode b_SD_nearer 37 = .ok (.lcmp, 1) := by decide +kernel
theorem d_SD_nearer_38 : decode b_SD_nearer 38 = .ok (.ifCond .ne 7, 3) := by decide +kernel
theorem d_SD_nearer_41 : decode b_SD_nearer 41 = .ok (.iconst 1, 1) := by decide +kernel
theorem d_SD_nearer_42 : decode b_SD_nearer 42 = .ok (.goto 4, 3) := by decide +kernel
theorem d_SD_nearer_45 : decode b_SD_nearer 45 = .ok (.iconst 0, 1) := by decide +kernel
theorem d_SD_nearer_46 : decode b_SD_nearer 46 = .ok (.istore 9, 2) := by decide +kernel
theorem d_SD_nearer_48 : decode b_SD_nearer 48 = .ok (.iload 9, 2) := by decide +kernel
theorem d_SD_nearer_50 : decode b_SD_nearer 50 = .ok (.ifCond .eq 7, 3) := by decide +kernel
theorem d_SD_nearer_53 : decode b_SD_nearer 53 = .ok (.lload_n 3, 1) := by decide +kernel
theorem d_SD_nearer_54 : decode b_SD_nearer 54 = .ok (.goto 7, 3) := by decide +kernel
theorem d_SD_nearer_57 : decode b_SD_nearer 57 = .ok (.lload_n 3, 1) := by decide +kernel
theorem d_SD_nearer_58 : decode b_SD_nearer 58 = .ok (.lload 5, 2) := by decide +kernel
theorem d_SD_nearer_60 : decode b_SD_nearer 60 = .ok (.ladd, 1) := by decide +kernel
theorem d_SD_nearer_61 : decode b_SD_nearer 61 = .ok (.lreturn, 1) := by decide +kernel
def F_SD_nearer (n : Nat) (a0 : Int64) (a1 : Int32) (a2 : Int64) (a3 : Int64) : Option (Int64) := lt_ (a2 + (a3 / (2 : Int64))) fun x1 => lt_ (fun (y2 : Int32) => lt_ (if y2 = 0 then a2 + a3 else a2) fun x3 => some x3) fun j46 => lt_ (fun (_ : Unit) => j46 (1 : Int32)) fun j41 => if a0 < x1 then (j41 ()) else (lt_ (fun (_ : Unit) => j46 (0 : Int32)) fun j45 => if ¬ a0 = x1 then (j45 ()) else (if a1 = 0 then (j45 ()) else (gz_ (a3 = 0) <| if ¬ ((a2 / a3) - (a2 / a3) / (2 : Int64) * (2 : Int64)) = (0 : Int64) then (j45 ()) else (j41 ()))))
set_option maxHeartbeats 4000000 in
set_option maxRecDepth 100000 in
theorem c_SD_nearer (l : Launch) (n : Nat) (a0 : Int64) (a1 : Int32) (a2 : Int64) (a3 : Int64) (r : Int64) (h : F_SD_nearer n a0 a1 a2 a3 = some r) : Met l y_SD_nearer (.code y_SD_nearer b_SD_nearer 10 (some .long) :: BIG) ({ frames := 0, cells := 0, slots := 0, locals := 0 } : Room) (va_Pc [.long a0, .int a1, .long a2, .long a3] (pre0)) (pQ (.long r)) 0 0 (fun _ => False) := by
  refine pOpen_l rfl (Nat.le_of_ble_eq_true rfl) ?_
  intro p e s m args below meth c Q ls hx hb hml hown hts hT hp hl hret
  have hNB := hp
  have hown : s.vm.findClass R_SD = some m.cls := hown
  have hl : lv_has ls 10 [(0, .long a0), (2, .int a1), (3, .long a2), (5, .long a3)] := hl
  have h : (lt_ (a2 + (a3 / (2 : Int64))) fun x1 => lt_ (fun (y2 : Int32) => lt_ (if y2 = 0 then a2 + a3 else a2) fun x3 => some x3) fun j46 => lt_ (fun (_ : Unit) => j46 (1 : Int32)) fun j41 => if a0 < x1 then (j41 ()) else (lt_ (fun (_ : Unit) => j46 (0 : Int32)) fun j45 => if ¬ a0 = x1 then (j45 ()) else (if a1 = 0 then (j45 ()) else (gz_ (a3 = 0) <| if ¬ ((a2 / a3) - (a2 / a3) / (2 : Int64) * (2 : Int64)) = (0 : Int64) then (j45 ()) else (j41 ()))))) = some r := h
  refine lv_lload_n hx hb d_SD_nearer_0 rfl (lv_at hl 2 rfl) ?_
  refine lv_lload hx hb d_SD_nearer_1 (lv_at hl 3 rfl) ?_
  refine lv_ldc2 hx hb hown (hT _ m_106) d_SD_nearer_3 ?_
  refine lv_ldiv hx hb d_SD_nearer_6 (by decide) ?_
  refine lv_ladd hx hb d_SD_nearer_7 ?_
  refine lv_topl (fun x1 e_x1 => ?_)
  have h := lt_h e_x1 h
  refine lv_lstore hx hb d_SD_nearer_8 hl (by decide) rfl (fun ls hl => ?_)
  have hl : lv_has ls 10 [(7, .long x1), (0, .long a0), (2, .int a1), (3, .long a2), (5, .long a3)] := hl
  refine lv_lload_n hx hb d_SD_nearer_10 rfl (lv_at hl 1 rfl) ?_
  refine lv_lload hx hb d_SD_nearer_11 (lv_at hl 0 rfl) ?_
  refine W.lcmp hx hb d_SD_nearer_13 ?_
  obtain ⟨j46, e_j46, h⟩ := lt_o h
  have hJ46 : ∀ (y2 : Int32) (ls : Array Slot), lv_has ls 10 [(3, .long a2), (5, .long a3)] → j46 y2 = some r → W p l e ({ frames := 0, cells := 0, slots := 0, locals := 0 } : Room) s m args below meth c s.heap [] 0 0 Q (F0 m 46 ls [.int y2]) := by
    intro y2 ls hl h
    rw [e_j46] at h
    refine lv_istore hx hb d_SD_nearer_46 hl (by decide) rfl (fun ls hl => ?_)
    have hl : lv_has ls 10 [(9, .int y2), (3, .long a2), (5, .long a3)] := hl
    refine lv_iload hx hb d_SD_nearer_48 (lv_at hl 0 rfl) ?_
    obtain ⟨x3, e_x3, h⟩ := lt_o h
    have hJ61 : ∀ (x3' : Int64) (ls : Array Slot), x3 = x3' → lv_has ls 10 [] → W p l e ({ frames := 0, cells := 0, slots := 0, locals := 0 } : Room) s m args below meth c s.heap [] 0 0 Q (F0 m 61 ls [.long x3']) := by
      intro x3' ls q_x3 hl
      subst q_x3
      exact hret 61 ls _ (Option.some.inj h) d_SD_nearer_61
    refine lv_if_eq (tgt := 57) hx hb d_SD_nearer_50 rfl (fun hc => ?_) (fun hc => ?_)
    · have e_x3 := e_x3.trans (if_pos hc)
      refine lv_lload_n hx hb d_SD_nearer_57 rfl (lv_at hl 1 rfl) ?_
      refine lv_lload hx hb d_SD_nearer_58 (lv_at hl 2 rfl) ?_
      refine lv_ladd hx hb d_SD_nearer_60 ?_
      exact hJ61 _ ls e_x3 (lv_sub hl [] rfl)
    · have e_x3 := e_x3.trans (if_neg hc)
      refine lv_lload_n hx hb d_SD_nearer_53 rfl (lv_at hl 1 rfl) ?_
      refine lv_goto (tgt := 61) hx hb d_SD_nearer_54 rfl ?_
      exact hJ61 _ ls e_x3 (lv_sub hl [] rfl)
  obtain ⟨j41, e_j41, h⟩ := lt_o h
  have hJ41 : ∀ (ls : Array Slot), lv_has ls 10 [(3, .long a2), (5, .long a3)] → j41 () = some r → W p l e ({ frames := 0, cells := 0, slots := 0, locals := 0 } : Room) s m args below meth c s.heap [] 0 0 Q (F0 m 41 ls []) := by
    intro  ls hl h
    rw [e_j41] at h
    refine lv_iconst hx hb d_SD_nearer_41 ic_1 ?_
    refine lv_goto (tgt := 46) hx hb d_SD_nearer_42 rfl ?_
    exact hJ46 _ ls (lv_sub hl [0, 1] rfl) h
  refine lv_if_lt (tgt := 41) hx hb d_SD_nearer_14 rfl (fun hc => ?_) (fun hc => ?_)
  · have hc := (lg_cmp_lt _ _).mp hc
    have h := ite_t hc h
    exact hJ41 ls (lv_sub hl [3, 4] rfl) h
  · have hc := mt (lg_cmp_lt _ _).mpr hc
    have h := ite_f hc h
    refine lv_lload_n hx hb d_SD_nearer_17 rfl (lv_at hl 1 rfl) ?_
    refine lv_lload hx hb d_SD_nearer_18 (lv_at hl 0 rfl) ?_
    refine W.lcmp hx hb d_SD_nearer_20 ?_
    obtain ⟨j45, e_j45, h⟩ := lt_o h
    have hJ45 : ∀ (ls : Array Slot), lv_has ls 10 [(3, .long a2), (5, .long a3)] → j45 () = some r → W p l e ({ frames := 0, cells := 0, slots := 0, locals := 0 } : Room) s m args below meth c s.heap [] 0 0 Q (F0 m 45 ls []) := by
      intro  ls hl h
      rw [e_j45] at h
      refine lv_iconst hx hb d_SD_nearer_45 ic_0 ?_
      exact hJ46 _ ls (lv_sub hl [0, 1] rfl) h
    refine lv_if_ne (tgt := 45) hx hb d_SD_nearer_21 rfl (fun hc => ?_) (fun hc => ?_)
    · have hc := mt (lg_cmp_eq _ _).mpr hc
      have h := ite_t hc h
      exact hJ45 ls (lv_sub hl [3, 4] rfl) h
    · have hc := not_not_intro ((lg_cmp_eq _ _).mp hc)
      have h := ite_f hc h
      refine lv_iload_n hx hb d_SD_nearer_24 rfl (lv_at hl 2 rfl) ?_
      refine lv_if_eq (tgt := 45) hx hb d_SD_nearer_25 rfl (fun hc => ?_) (fun hc => ?_)
      · have h := ite_t hc h
        exact hJ45 ls (lv_sub hl [3, 4] rfl) h
      · have h := ite_f hc h
        refine lv_lload_n hx hb d_SD_nearer_28 rfl (lv_at hl 3 rfl) ?_
        refine lv_lload hx hb d_SD_nearer_29 (lv_at hl 4 rfl) ?_
        have hz := gz_n h
        have h := gz_h h
        refine lv_ldiv hx hb d_SD_nearer_31 hz ?_
        refine lv_ldc2 hx hb hown (hT _ m_106) d_SD_nearer_32 ?_
        refine lv_lrem hx hb d_SD_nearer_35 (by decide) ?_
        refine lv_lconst hx hb d_SD_nearer_36 lc_0 ?_
        refine W.lcmp hx hb d_SD_nearer_37 ?_
        refine lv_if_ne (tgt := 45) hx hb d_SD_nearer_38 rfl (fun hc => ?_) (fun hc => ?_)
        · have hc := mt (lg_cmp_eq _ _).mpr hc
          have h := ite_t hc h
          exact hJ45 ls (lv_sub hl [3, 4] rfl) h
        · have hc := not_not_intro ((lg_cmp_eq _ _).mp hc)
          have h := ite_f hc h
          exact hJ41 ls (lv_sub hl [3, 4] rfl) h
end
section
-- BW_powerOfFive
theorem d_BW_powerOfFive_0 : decode b_BW_powerOfFive 0 = .ok (.lconst 1, 1) := by decide +kernel
theorem d_BW_powerOfFive_1 : decode b_BW_powerOfFive 1 = .ok (.lstore_n 1, 1) := by decide +kernel
theorem d_BW_powerOfFive_2 : decode b_BW_powerOfFive 2 = .ok (.iconst 0, 1) := by decide +kernel
theorem d_BW_powerOfFive_3 : decode b_BW_powerOfFive 3 = .ok (.istore_n 3, 1) := by decide +kernel
theorem d_BW_powerOfFive_4 : decode b_BW_powerOfFive 4 = .ok (.iload_n 3, 1) := by decide +kernel
theorem d_BW_powerOfFive_5 : decode b_BW_powerOfFive 5 = .ok (.iload_n 0, 1) := by decide +kernel
theorem d_BW_powerOfFive_6 : decode b_BW_powerOfFive 6 = .ok (.if_icmp .ge 15, 3) := by decide +kernel
theorem d_BW_powerOfFive_9 : decode b_BW_powerOfFive 9 = .ok (.lload_n 1, 1) := by decide +kernel
theorem d_BW_powerOfFive_10 : decode b_BW_powerOfFive 10 = .ok (.ldc2_w 46, 3) := by decide +kernel
theorem d_BW_powerOfFive_13 : decode b_BW_powerOfFive 13 = .ok (.lmul, 1) := by decide +kernel
theorem d_BW_powerOfFive_14 : decode b_BW_powerOfFive 14 = .ok (.lstore_n 1, 1) := by decide +kernel
theorem d_BW_powerOfFive_15 : decode b_BW_powerOfFive 15 = .ok (.iinc 3 1, 3) := by decide +kernel
theorem d_BW_powerOfFive_18 : decode b_BW_powerOfFive 18 = .ok (.goto (-14), 3) := by decide +kernel
theorem d_BW_powerOfFive_21 : decode b_BW_powerOfFive 21 = .ok (.lload_n 1, 1) := by decide +kernel
theorem d_BW_powerOfFive_22 : decode b_BW_powerOfFive 22 = .ok (.lreturn, 1) := by decide +kernel
def F_BW_powerOfFive_L4 (a0 : Int32) (j21 : (Int64 → Option (Int64))) : Nat → Int64 → Int32 → Option (Int64)
  | 0, _, _ => none
  | n+1, y2, y3 => if a0 ≤ y3 then (j21 y2) else (lt_ (y2 * (5 : Int64)) fun x4 => lt_ (y3 + Int32.ofInt 1) fun x5 => F_BW_powerOfFive_L4 a0 j21 n x4 x5)
def F_BW_powerOfFive (n : Nat) (a0 : Int32) : Option (Int64) := lt_ (fun (y1 : Int64) => some y1) fun j21 => F_BW_powerOfFive_L4 a0 j21 n (1 : Int64) (0 : Int32)
set_option maxHeartbeats 4000000 in
set_option maxRecDepth 100000 in
theorem c_BW_powerOfFive (l : Launch) (n : Nat) (a0 : Int32) (r : Int64) (h : F_BW_powerOfFive n a0 = some r) : Met l y_BW_powerOfFive (.code y_BW_powerOfFive b_BW_powerOfFive 4 (some .long) :: BIG) ({ frames := 0, cells := 0, slots := 0, locals := 0 } : Room) (va_Pc [.int a0] (pre0)) (pQ (.long r)) 0 0 (fun _ => False) := by
  refine pOpen_l rfl (Nat.le_of_ble_eq_true rfl) ?_
  intro p e s m args below meth c Q ls hx hb hml hown hts hT hp hl hret
  have hNB := hp
  have hown : s.vm.findClass R_BW = some m.cls := hown
  have hl : lv_has ls 4 [(0, .int a0)] := hl
  have h : (lt_ (fun (y1 : Int64) => some y1) fun j21 => F_BW_powerOfFive_L4 a0 j21 n (1 : Int64) (0 : Int32)) = some r := h
  refine lv_lconst hx hb d_BW_powerOfFive_0 lc_1 ?_
  refine lv_lstore_n hx hb d_BW_powerOfFive_1 rfl hl (by decide) rfl (fun ls hl => ?_)
  have hl : lv_has ls 4 [(1, .long (1 : Int64)), (0, .int a0)] := hl
  refine lv_iconst hx hb d_BW_powerOfFive_2 ic_0 ?_
  refine lv_istore_n hx hb d_BW_powerOfFive_3 rfl hl (by decide) rfl (fun ls hl => ?_)
  have hl : lv_has ls 4 [(3, .int (0 : Int32)), (1, .long (1 : Int64)), (0, .int a0)] := hl
  obtain ⟨j21, e_j21, h⟩ := lt_o h
  have hJ21 : ∀ (y1 : Int64) (ls : Array Slot), lv_has ls 4 [(1, .long y1)] → j21 y1 = some r → W p l e ({ frames := 0, cells := 0, slots := 0, locals := 0 } : Room) s m args below meth c s.heap [] 0 0 Q (F0 m 21 ls []) := by
    intro y1 ls hl h
    rw [e_j21] at h
    refine lv_lload_n hx hb d_BW_powerOfFive_21 rfl (lv_at hl 0 rfl) ?_
    exact hret 22 ls _ (Option.some.inj h) d_BW_powerOfFive_22
  have hL4 : ∀ (n : Nat) (y2 : Int64) (y3 : Int32) (ls : Array Slot), lv_has ls 4 [(0, .int a0), (1, .long y2), (3, .int y3)] → F_BW_powerOfFive_L4 a0 j21 n y2 y3 = some r → W p l e ({ frames := 0, cells := 0, slots := 0, locals := 0 } : Room) s m args below meth c s.heap [] 0 0 Q (F0 m 4 ls []) := by
    intro n
    induction n with
    | zero => intro y2 y3 ls hl h; exact no_s h
    | succ n ih =>
      intro y2 y3 ls hl h
      have h : (if a0 ≤ y3 then (j21 y2) else (lt_ (y2 * (5 : Int64)) fun x4 => lt_ (y3 + Int32.ofInt 1) fun x5 => F_BW_powerOfFive_L4 a0 j21 n x4 x5)) = some r := h
      refine lv_iload_n hx hb d_BW_powerOfFive_4 rfl (lv_at hl 2 rfl) ?_
      refine lv_iload_n hx hb d_BW_powerOfFive_5 rfl (lv_at hl 0 rfl) ?_
      refine lv_icmp_ge (tgt := 21) hx hb d_BW_powerOfFive_6 rfl (fun hc => ?_) (fun hc => ?_)
      · have h := ite_t hc h
        exact hJ21 _ ls (lv_sub hl [1] rfl) h
      · have h := ite_f hc h
        refine lv_lload_n hx hb d_BW_powerOfFive_9 rfl (lv_at hl 1 rfl) ?_
        refine lv_ldc2 hx hb hown (hT _ m_115) d_BW_powerOfFive_10 ?_
        refine lv_lmul hx hb d_BW_powerOfFive_13 ?_
        refine lv_topl (fun x4 e_x4 => ?_)
        have h := lt_h e_x4 h
        refine lv_lstore_n hx hb d_BW_powerOfFive_14 rfl hl (by decide) rfl (fun ls hl => ?_)
        have hl : lv_has ls 4 [(1, .long x4), (0, .int a0), (3, .int y3)] := hl
        obtain ⟨x5, e_x5⟩ : ∃ z, z = y3 + Int32.ofInt 1 := ⟨_, rfl⟩
        have h := lt_h e_x5 h
        refine lv_iinc (k := 2) hx hb d_BW_powerOfFive_15 hl rfl e_x5.symm (by decide) rfl (fun ls hl => ?_)
        have hl : lv_has ls 4 [(3, .int x5), (1, .long x4), (0, .int a0)] := hl
        refine lv_goto (tgt := 4) hx hb d_BW_powerOfFive_18 rfl ?_
        exact ih _ _ ls (lv_sub hl [2, 1, 0] rfl) h
  exact hL4 n _ _ ls (lv_sub hl [2, 1, 0] rfl) h
-- BW_slice
theorem d_BW_slice_0 : decode b_BW_slice 0 = .ok (.iload_n 2, 1) := by decide +kernel
theorem d_BW_slice_1 : decode b_BW_slice 1 = .ok (.bipush (-32), 2) := by decide +kernel
theorem d_BW_slice_3 : decode b_BW_slice 3 = .ok (.if_icmp .le 9, 3) := by decide +kernel
theorem d_BW_slice_6 : decode b_BW_slice 6 = .ok (.iload_n 2, 1) := by decide +kernel
theorem d_BW_slice_7 : decode b_BW_slice 7 = .ok (.bipush 63, 2) := by decide +kernel
theorem d_BW_slice_9 : decode b_BW_slice 9 = .ok (.if_icmp .le 5, 3) := by decide +kernel
theorem d_BW_slice_12 : decode b_BW_slice 12 = .ok (.lconst 0, 1) := by decide +kernel
theorem d_BW_slice_13 : decode b_BW_slice 13 = .ok (.lreturn, 1) := by decide +kernel
theorem d_BW_slice_14 : decode b_BW_slice 14 = .ok (.iload_n 2, 1) := by decide +kernel
theorem d_BW_slice_15 : decode b_BW_slice 15 = .ok (.ifCond .ge 10, 3) := by decide +kernel
theorem d_BW_slice_18 : decode b_BW_slice 18 = .ok (.lload_n 0, 1) := by decide +kernel
theorem d_BW_slice_19 : decode b_BW_slice 19 = .ok (.iload_n 2, 1) := by decide +kernel
theorem d_BW_slice_20 : decode b_BW_slice 20 = .ok (.ineg, 1) := by decide +kernel
theorem d_BW_slice_21 : decode b_BW_slice 21 = .ok (.lshl, 1) := by decide +kernel
theorem d_BW_slice_22 : decode b_BW_slice 22 = .ok (.goto 6, 3) := by decide +kernel
theorem d_BW_slice_25 : decode b_BW_slice 25 = .ok (.lload_n 0, 1) := by decide +kernel
theorem d_BW_slice_26 : decode b_BW_slice 26 = .ok (.iload_n 2, 1) := by decide +kernel
theorem d_BW_slice_27 : decode b_BW_slice 27 = .ok (.lushr, 1) := by decide +kernel
theorem d_BW_slice_28 : decode b_BW_slice 28 = .ok (.ldc2_w 56, 3) := by decide +kernel
theorem d_BW_slice_31 : decode b_BW_slice 31 = .ok (.land, 1) := by decide +kernel
theorem d_BW_slice_32 : decode b_BW_slice 32 = .ok (.lreturn, 1) := by decide +kernel
def F_BW_slice (a0 : Int64) (a1 : Int32) : Int64 := lt_ (fun (_ : Unit) => (0 : Int64)) fun j12 => if a1 ≤ (-32 : Int32) then (j12 ()) else (if a1 ≤ (63 : Int32) then (lt_ (if 0 ≤ a1 then ((a0).toUInt64 >>> ((a1).toInt64.toUInt64 &&& Int64.toUInt64 63)).toInt64 else a0 <<< ((-a1).toInt64 &&& 63)) fun x1 => x1 &&& (4294967295 : Int64)) else (j12 ()))
set_option maxHeartbeats 4000000 in
set_option maxRecDepth 100000 in
theorem c_BW_slice (l : Launch) (a0 : Int64) (a1 : Int32) : Met l y_BW_slice (.code y_BW_slice b_BW_slice 3 (some .long) :: BIG) ({ frames := 0, cells := 0, slots := 0, locals := 0 } : Room) (va_Pc [.long a0, .int a1] (pre0)) (pQ (.long (F_BW_slice a0 a1))) 0 0 (fun _ => False) := by
  refine pOpen_l rfl (Nat.le_of_ble_eq_true rfl) ?_
  intro p e s m args below meth c Q ls hx hb hml hown hts hT hp hl hret
  have hNB := hp
  have hown : s.vm.findClass R_BW = some m.cls := hown
  have hl : lv_has ls 3 [(0, .long a0), (2, .int a1)] := hl
  obtain ⟨r, h⟩ : ∃ r, F_BW_slice a0 a1 = r := ⟨_, rfl⟩
  rw [h] at hret
  have h : (lt_ (fun (_ : Unit) => (0 : Int64)) fun j12 => if a1 ≤ (-32 : Int32) then (j12 ()) else (if a1 ≤ (63 : Int32) then (lt_ (if 0 ≤ a1 then ((a0).toUInt64 >>> ((a1).toInt64.toUInt64 &&& Int64.toUInt64 63)).toInt64 else a0 <<< ((-a1).toInt64 &&& 63)) fun x1 => x1 &&& (4294967295 : Int64)) else (j12 ()))) = r := h
  refine lv_iload_n hx hb d_BW_slice_0 rfl (lv_at hl 1 rfl) ?_
  refine lv_bipush hx hb d_BW_slice_1 bp_m32 ?_
  obtain ⟨j12, e_j12, h⟩ := lt_o h
  have hJ12 : ∀ (ls : Array Slot), lv_has ls 3 [] → j12 () = r → W p l e ({ frames := 0, cells := 0, slots := 0, locals := 0 } : Room) s m args below meth c s.heap [] 0 0 Q (F0 m 12 ls []) := by
    intro  ls hl h
    rw [e_j12] at h
    refine lv_lconst hx hb d_BW_slice_12 lc_0 ?_
    exact hret 13 ls _ h d_BW_slice_13
  refine lv_icmp_le (tgt := 12) hx hb d_BW_slice_3 rfl (fun hc => ?_) (fun hc => ?_)
  · have h := ite_t hc h
    exact hJ12 ls (lv_sub hl [] rfl) h
  · have h := ite_f hc h
    refine lv_iload_n hx hb d_BW_slice_6 rfl (lv_at hl 1 rfl) ?_
    refine lv_bipush hx hb d_BW_slice_7 bp_63 ?_
    refine lv_icmp_le (tgt := 14) hx hb d_BW_slice_9 rfl (fun hc => ?_) (fun hc => ?_)
    · have h := ite_t hc h
      refine lv_iload_n hx hb d_BW_slice_14 rfl (lv_at hl 1 rfl) ?_
      obtain ⟨x1, e_x1, h⟩ := lt_o h
      have hJ28 : ∀ (x1' : Int64) (ls : Array Slot), x1 = x1' → lv_has ls 3 [] → W p l e ({ frames := 0, cells := 0, slots := 0, locals := 0 } : Room) s m args below meth c s.heap [] 0 0 Q (F0 m 28 ls [.long x1']) := by
        intro x1' ls q_x1 hl
        subst q_x1
        refine lv_ldc2 hx hb hown (hT _ m_116) d_BW_slice_28 ?_
        refine lv_land hx hb d_BW_slice_31 ?_
        exact hret 32 ls _ h d_BW_slice_32
      refine lv_if_ge (tgt := 25) hx hb d_BW_slice_15 rfl (fun hc => ?_) (fun hc => ?_)
      · have e_x1 := e_x1.trans (if_pos hc)
        refine lv_lload_n hx hb d_BW_slice_25 rfl (lv_at hl 0 rfl) ?_
        refine lv_iload_n hx hb d_BW_slice_26 rfl (lv_at hl 1 rfl) ?_
        refine lv_lushr hx hb d_BW_slice_27 rfl ?_
        exact hJ28 _ ls e_x1 (lv_sub hl [] rfl)
      · have e_x1 := e_x1.trans (if_neg hc)
        refine lv_lload_n hx hb d_BW_slice_18 rfl (lv_at hl 0 rfl) ?_
        refine lv_iload_n hx hb d_BW_slice_19 rfl (lv_at hl 1 rfl) ?_
        refine lv_ineg hx hb d_BW_slice_20 ?_
        refine lv_lshl hx hb d_BW_slice_21 rfl ?_
        refine lv_goto (tgt := 28) hx hb d_BW_slice_22 rfl ?_
        exact hJ28 _ ls e_x1 (lv_sub hl [] rfl)
    · have h := ite_f hc h
      exact hJ12 ls (lv_sub hl [] rfl) h
-- Lt_digitCount
theorem d_Lt_digitCount_0 : decode b_Lt_digitCount 0 = .ok (.iconst 1, 1) := by decide +kernel
theorem d_Lt_digitCount_1 : decode b_Lt_digitCount 1 = .ok (.istore_n 2, 1) := by decide +kernel
theorem d_Lt_digitCount_2 : decode b_Lt_digitCount 2 = .ok (.lload_n 0, 1) := by decide +kernel
theorem d_Lt_digitCount_3 : decode b_Lt_digitCount 3 = .ok (.ldc2_w 62, 3) := by decide +kernel
theorem d_Lt_digitCount_6 : decode b_Lt_digitCount 6 = .ok (.ldiv, 1) := by decide +kernel
theorem d_Lt_digitCount_7 : decode b_Lt_digitCount 7 = .ok (.lstore_n 3, 1) := by decide +kernel
theorem d_Lt_digitCount_8 : decode b_Lt_digitCount 8 = .ok (.lload_n 3, 1) := by decide +kernel
theorem d_Lt_digitCount_9 : decode b_Lt_digitCount 9 = .ok (.lconst 0, 1) := by decide +kernel
theorem d_Lt_digitCount_10 : decode b_Lt_digitCount 10 = .ok (.lcmp, 1) := by decide +kernel
theorem d_Lt_digitCount_11 : decode b_Lt_digitCount 11 = .ok (.ifCond .eq 21, 3) := by decide +kernel
theorem d_Lt_digitCount_14 : decode b_Lt_digitCount 14 = .ok (.iload_n 2, 1) := by decide +kernel
theorem d_Lt_digitCount_15 : decode b_Lt_digitCount 15 = .ok (.bipush 19, 2) := by decide +kernel
theorem d_Lt_digitCount_17 : decode b_Lt_digitCount 17 = .ok (.if_icmp .ge 15, 3) := by decide +kernel
theorem d_Lt_digitCount_20 : decode b_Lt_digitCount 20 = .ok (.iinc 2 1, 3) := by decide +kernel
theorem d_Lt_digitCount_23 : decode b_Lt_digitCount 23 = .ok (.lload_n 3, 1) := by decide +kernel
theorem d_Lt_digitCount_24 : decode b_Lt_digitCount 24 = .ok (.ldc2_w 62, 3) := by decide +kernel
theorem d_Lt_digitCount_27 : decode b_Lt_digitCount 27 = .ok (.ldiv, 1) := by decide +kernel
theorem d_Lt_digitCount_28 : decode b_Lt_digitCount 28 = .ok (.lstore_n 3, 1) := by decide +kernel
theorem d_Lt_digitCount_29 : decode b_Lt_digitCount 29 = .ok (.goto (-21), 3) := by decide +kernel
theorem d_Lt_digitCount_32 : decode b_Lt_digitCount 32 = .ok (.iload_n 2, 1) := by decide +kernel
theorem d_Lt_digitCount_33 : decode b_Lt_digitCount 33 = .ok (.ireturn, 1) := by decide +kernel
def F_Lt_digitCount_L8 (j32 : (Int32 → Option (Int32))) : Nat → Int32 → Int64 → Option (Int32)
  | 0, _, _ => none
  | n+1, y3, y4 => if y4 = (0 : Int64) then (j32 y3) else (if (19 : Int32) ≤ y3 then (j32 y3) else (lt_ (y3 + Int32.ofInt 1) fun x5 => lt_ (y4 / (10 : Int64)) fun x6 => F_Lt_digitCount_L8 j32 n x5 x6))
def F_Lt_digitCount (n : Nat) (a0 : Int64) : Option (Int32) := lt_ (a0 / (10 : Int64)) fun x1 => lt_ (fun (y2 : Int32) => some y2) fun j32 => F_Lt_digitCount_L8 j32 n (1 : Int32) x1
set_option maxHeartbeats 4000000 in
set_option maxRecDepth 100000 in
theorem c_Lt_digitCount (l : Launch) (n : Nat) (a0 : Int64) (r : Int32) (h : F_Lt_digitCount n a0 = some r) : Met l y_Lt_digitCount (.code y_Lt_digitCount b_Lt_digitCount 5 (some .int) :: BIG) ({ frames := 0, cells := 0, slots := 0, locals := 0 } : Room) (va_Pc [.long a0] (pre0)) (pQ (.int r)) 0 0 (fun _ => False) := by
  refine pOpen_i rfl (Nat.le_of_ble_eq_true rfl) ?_
  intro p e s m args below meth c Q ls hx hb hml hown hts hT hp hl hret
  have hNB := hp
  have hown : s.vm.findClass R_Lt = some m.cls := hown
  have hl : lv_has ls 5 [(0, .long a0)] := hl
  have h : (lt_ (a0 / (10 : Int64)) fun x1 => lt_ (fun (y2 : Int32) => some y2) fun j32 => F_Lt_digitCount_L8 j32 n (1 : Int32) x1) = some r := h
  refine lv_iconst hx hb d_Lt_digitCount_0 ic_1 ?_
  refine lv_istore_n hx hb d_Lt_digitCount_1 rfl hl (by decide) rfl (fun ls hl => ?_)
  have hl : lv_has ls 5 [(2, .int (1 : Int32)), (0, .long a0)] := hl
  refine lv_lload_n hx hb d_Lt_digitCount_2 rfl (lv_at hl 1 rfl) ?_
  refine lv_ldc2 hx hb hown (hT _ m_117) d_Lt_digitCount_3 ?_
  refine lv_ldiv hx hb d_Lt_digitCount_6 (by decide) ?_
  refine lv_topl (fun x1 e_x1 => ?_)
  have h := lt_h e_x1 h
  refine lv_lstore_n hx hb d_Lt_digitCount_7 rfl hl (by decide) rfl (fun ls hl => ?_)
  have hl : lv_has ls 5 [(3, .long x1), (2, .int (1 : Int32)), (0, .long a0)] := hl
  obtain ⟨j32, e_j32, h⟩ := lt_o h
  have hJ32 : ∀ (y2 : Int32) (ls : Array Slot), lv_has ls 5 [(2, .int y2)] → j32 y2 = some r → W p l e ({ frames := 0, cells := 0, slots := 0, locals := 0 } : Room) s m args below meth c s.heap [] 0 0 Q (F0 m 32 ls []) := by
    intro y2 ls hl h
    rw [e_j32] at h
    refine lv_iload_n hx hb d_Lt_digitCount_32 rfl (lv_at hl 0 rfl) ?_
    exact hret 33 ls _ (Option.some.inj h) d_Lt_digitCount_33
  have hL8 : ∀ (n : Nat) (y3 : Int32) (y4 : Int64) (ls : Array Slot), lv_has ls 5 [(2, .int y3), (3, .long y4)] → F_Lt_digitCount_L8 j32 n y3 y4 = some r → W p l e ({ frames := 0, cells := 0, slots := 0, locals := 0 } : Room) s m args below meth c s.heap [] 0 0 Q (F0 m 8 ls []) := by
    intro n
    induction n with
    | zero => intro y3 y4 ls hl h; exact no_s h
    | succ n ih =>
      intro y3 y4 ls hl h
      have h : (if y4 = (0 : Int64) then (j32 y3) else (if (19 : Int32) ≤ y3 then (j32 y3) else (lt_ (y3 + Int32.ofInt 1) fun x5 => lt_ (y4 / (10 : Int64)) fun x6 => F_Lt_digitCount_L8 j32 n x5 x6))) = some r := h
      refine lv_lload_n hx hb d_Lt_digitCount_8 rfl (lv_at hl 1 rfl) ?_
      refine lv_lconst hx hb d_Lt_digitCount_9 lc_0 ?_
      refine W.lcmp hx hb d_Lt_digitCount_10 ?_
      refine lv_if_eq (tgt := 32) hx hb d_Lt_digitCount_11 rfl (fun hc => ?_) (fun hc => ?_)
      · have hc := (lg_cmp_eq _ _).mp hc
        have h := ite_t hc h
        exact hJ32 _ ls (lv_sub hl [0] rfl) h
      · have hc := mt (lg_cmp_eq _ _).mpr hc
        have h := ite_f hc h
        refine lv_iload_n hx hb d_Lt_digitCount_14 rfl (lv_at hl 0 rfl) ?_
        refine lv_bipush hx hb d_Lt_digitCount_15 bp_19 ?_
        refine lv_icmp_ge (tgt := 32) hx hb d_Lt_digitCount_17 rfl (fun hc => ?_) (fun hc => ?_)
        · have h := ite_t hc h
          exact hJ32 _ ls (lv_sub hl [0] rfl) h
        · have h := ite_f hc h
          obtain ⟨x5, e_x5⟩ : ∃ z, z = y3 + Int32.ofInt 1 := ⟨_, rfl⟩
          have h := lt_h e_x5 h
          refine lv_iinc (k := 0) hx hb d_Lt_digitCount_20 hl rfl e_x5.symm (by decide) rfl (fun ls hl => ?_)
          have hl : lv_has ls 5 [(2, .int x5), (3, .long y4)] := hl
          refine lv_lload_n hx hb d_Lt_digitCount_23 rfl (lv_at hl 1 rfl) ?_
          refine lv_ldc2 hx hb hown (hT _ m_117) d_Lt_digitCount_24 ?_
          refine lv_ldiv hx hb d_Lt_digitCount_27 (by decide) ?_
          refine lv_topl (fun x6 e_x6 => ?_)
          have h := lt_h e_x6 h
          refine lv_lstore_n hx hb d_Lt_digitCount_28 rfl hl (by decide) rfl (fun ls hl => ?_)
          have hl : lv_has ls 5 [(3, .long x6), (2, .int x5)] := hl
          refine lv_goto (tgt := 8) hx hb d_Lt_digitCount_29 rfl ?_
          exact ih _ _ ls (lv_sub hl [1, 0] rfl) h
  exact hL8 n _ _ ls (lv_sub hl [1, 0] rfl) h
-- Lt_powerOfTen
theorem d_Lt_powerOfTen_0 : decode b_Lt_powerOfTen 0 = .ok (.lconst 1, 1) := by decide +kernel
theorem d_Lt_powerOfTen_1 : decode b_Lt_powerOfTen 1 = .ok (.lstore_n 1, 1) := by decide +kernel
theorem d_Lt_powerOfTen_2 : decode b_Lt_powerOfTen 2 = .ok (.iconst 0, 1) := by decide +kernel
theorem d_Lt_powerOfTen_3 : decode b_Lt_powerOfTen 3 = .ok (.istore_n 3, 1) := by decide +kernel
theorem d_Lt_powerOfTen_4 : decode b_Lt_powerOfTen 4 = .ok (.iload_n 3, 1) := by decide +kernel
theorem d_Lt_powerOfTen_5 : decode b_Lt_powerOfTen 5 = .ok (.iload_n 0, 1) := by decide +kernel
theorem d_Lt_powerOfTen_6 : decode b_Lt_powerOfTen 6 = .ok (.if_icmp .ge 21, 3) := by decide +kernel
theorem d_Lt_powerOfTen_9 : decode b_Lt_powerOfTen 9 = .ok (.iload_n 3, 1) := by decide +kernel
theorem d_Lt_powerOfTen_10 : decode b_Lt_powerOfTen 10 = .ok (.bipush 18, 2) := by decide +kernel
theorem d_Lt_powerOfTen_12 : decode b_Lt_powerOfTen 12 = .ok (.if_icmp .ge 15, 3) := by decide +kernel
theorem d_Lt_powerOfTen_15 : decode b_Lt_powerOfTen 15 = .ok (.lload_n 1, 1) := by decide +kernel
theorem d_Lt_powerOfTen_16 : decode b_Lt_powerOfTen 16 = .ok (.ldc2_w 62, 3) := by decide +kernel
theorem d_Lt_powerOfTen_19 : decode b_Lt_powerOfTen 19 = .ok (.lmul, 1) := by decide +kernel
theorem d_Lt_powerOfTen_20 : decode b_Lt_powerOfTen 20 = .ok (.lstore_n 1, 1) := by decide +kernel
theorem d_Lt_powerOfTen_21 : decode b_Lt_powerOfTen 21 = .ok (.iinc 3 1, 3) := by decide +kernel
theorem d_Lt_powerOfTen_24 : decode b_Lt_powerOfTen 24 = .ok (.goto (-20), 3) := by decide +kernel
theorem d_Lt_powerOfTen_27 : decode b_Lt_powerOfTen 27 = .ok (.lload_n 1, 1) := by decide +kernel
theorem d_Lt_powerOfTen_28 : decode b_Lt_powerOfTen 28 = .ok (.lreturn, 1) := by decide +kernel
def F_Lt_powerOfTen_L4 (a0 : Int32) (j27 : (Int64 → Option (Int64))) : Nat → Int64 → Int32 → Option (Int64)
  | 0, _, _ => none
  | n+1, y2, y3 => if a0 ≤ y3 then (j27 y2) else (if (18 : Int32) ≤ y3 then (j27 y2) else (lt_ (y2 * (10 : Int64)) fun x4 => lt_ (y3 + Int32.ofInt 1) fun x5 => F_Lt_powerOfTen_L4 a0 j27 n x4 x5))
def F_Lt_powerOfTen (n : Nat) (a0 : Int32) : Option (Int64) := lt_ (fun (y1 : Int64) => some y1) fun j27 => F_Lt_powerOfTen_L4 a0 j27 n (1 : Int64) (0 : Int32)
set_option maxHeartbeats 4000000 in
set_option maxRecDepth 100000 in
theorem c_Lt_powerOfTen (l : Launch) (n : Nat) (a0 : Int32) (r : Int64) (h : F_Lt_powerOfTen n a0 = some r) : Met l y_Lt_powerOfTen (.code y_Lt_powerOfTen b_Lt_powerOfTen 4 (some .long) :: BIG) ({ frames := 0, cells := 0, slots := 0, locals := 0 } : Room) (va_Pc [.int a0] (pre0)) (pQ (.long r)) 0 0 (fun _ => False) := by
  refine pOpen_l rfl (Nat.le_of_ble_eq_true rfl) ?_
  intro p e s m args below meth c Q ls hx hb hml hown hts hT hp hl hret
  have hNB := hp
  have hown : s.vm.findClass R_Lt = some m.cls := hown
  have hl : lv_has ls 4 [(0, .int a0)] := hl
  have h : (lt_ (fun (y1 : Int64) => some y1) fun j27 => F_Lt_powerOfTen_L4 a0 j27 n (1 : Int64) (0 : Int32)) = some r := h
  refine lv_lconst hx hb d_Lt_powerOfTen_0 lc_1 ?_
  refine lv_lstore_n hx hb d_Lt_powerOfTen_1 rfl hl (by decide) rfl (fun ls hl => ?_)
  have hl : lv_has ls 4 [(1, .long (1 : Int64)), (0, .int a0)] := hl
  refine lv_iconst hx hb d_Lt_powerOfTen_2 ic_0 ?_
  refine lv_istore_n hx hb d_Lt_powerOfTen_3 rfl hl (by decide) rfl (fun ls hl => ?_)
  have hl : lv_has ls 4 [(3, .int (0 : Int32)), (1, .long (1 : Int64)), (0, .int a0)] := hl
  obtain ⟨j27, e_j27, h⟩ := lt_o h
  have hJ27 : ∀ (y1 : Int64) (ls : Array Slot), lv_has ls 4 [(1, .long y1)] → j27 y1 = some r → W p l e ({ frames := 0, cells := 0, slots := 0, locals := 0 } : Room) s m args below meth c s.heap [] 0 0 Q (F0 m 27 ls []) := by
    intro y1 ls hl h
    rw [e_j27] at h
    refine lv_lload_n hx hb d_Lt_powerOfTen_27 rfl (lv_at hl 0 rfl) ?_
    exact hret 28 ls _ (Option.some.inj h) d_Lt_powerOfTen_28
  have hL4 : ∀ (n : Nat) (y2 : Int64) (y3 : Int32) (ls : Array Slot), lv_has ls 4 [(0, .int a0), (1, .long y2), (3, .int y3)] → F_Lt_powerOfTen_L4 a0 j27 n y2 y3 = some r → W p l e ({ frames := 0, cells := 0, slots := 0, locals := 0 } : Room) s m args below meth c s.heap [] 0 0 Q (F0 m 4 ls []) := by
    intro n
    induction n with
    | zero => intro y2 y3 ls hl h; exact no_s h
    | succ n ih =>
      intro y2 y3 ls hl h
      have h : (if a0 ≤ y3 then (j27 y2) else (if (18 : Int32) ≤ y3 then (j27 y2) else (lt_ (y2 * (10 : Int64)) fun x4 => lt_ (y3 + Int32.ofInt 1) fun x5 => F_Lt_powerOfTen_L4 a0 j27 n x4 x5))) = some r := h
      refine lv_iload_n hx hb d_Lt_powerOfTen_4 rfl (lv_at hl 2 rfl) ?_
      refine lv_iload_n hx hb d_Lt_powerOfTen_5 rfl (lv_at hl 0 rfl) ?_
      refine lv_icmp_ge (tgt := 27) hx hb d_Lt_powerOfTen_6 rfl (fun hc => ?_) (fun hc => ?_)
      · have h := ite_t hc h
        exact hJ27 _ ls (lv_sub hl [1] rfl) h
      · have h := ite_f hc h
        refine lv_iload_n hx hb d_Lt_powerOfTen_9 rfl (lv_at hl 2 rfl) ?_
        refine lv_bipush hx hb d_Lt_powerOfTen_10 bp_18 ?_
        refine lv_icmp_ge (tgt := 27) hx hb d_Lt_powerOfTen_12 rfl (fun hc => ?_) (fun hc => ?_)
        · have h := ite_t hc h
          exact hJ27 _ ls (lv_sub hl [1] rfl) h
        · have h := ite_f hc h
          refine lv_lload_n hx hb d_Lt_powerOfTen_15 rfl (lv_at hl 1 rfl) ?_
          refine lv_ldc2 hx hb hown (hT _ m_117) d_Lt_powerOfTen_16 ?_
          refine lv_lmul hx hb d_Lt_powerOfTen_19 ?_
          refine lv_topl (fun x4 e_x4 => ?_)
          have h := lt_h e_x4 h
          refine lv_lstore_n hx hb d_Lt_powerOfTen_20 rfl hl (by decide) rfl (fun ls hl => ?_)
          have hl : lv_has ls 4 [(1, .long x4), (0, .int a0), (3, .int y3)] := hl
          obtain ⟨x5, e_x5⟩ : ∃ z, z = y3 + Int32.ofInt 1 := ⟨_, rfl⟩
          have h := lt_h e_x5 h
          refine lv_iinc (k := 2) hx hb d_Lt_powerOfTen_21 hl rfl e_x5.symm (by decide) rfl (fun ls hl => ?_)
          have hl : lv_has ls 4 [(3, .int x5), (1, .long x4), (0, .int a0)] := hl
          refine lv_goto (tgt := 4) hx hb d_Lt_powerOfTen_24 rfl ?_
          exact ih _ _ ls (lv_sub hl [2, 1, 0] rfl) h
  exact hL4 n _ _ ls (lv_sub hl [2, 1, 0] rfl) h
-- Md_nan
theorem d_Md_nan_0 : decode b_Md_nan 0 = .ok (.iload_n 0, 1) := by decide +kernel
theorem d_Md_nan_1 : decode b_Md_nan 1 = .ok (.ifCond .eq 9, 3) := by decide +kernel
theorem d_Md_nan_4 : decode b_Md_nan 4 = .ok (.ldc2_w 24, 3) := by decide +kernel
theorem d_Md_nan_7 : decode b_Md_nan 7 = .ok (.goto 6, 3) := by decide +kernel
theorem d_Md_nan_10 : decode b_Md_nan 10 = .ok (.ldc2_w 26, 3) := by decide +kernel
theorem d_Md_nan_13 : decode b_Md_nan 13 = .ok (.lreturn, 1) := by decide +kernel
def F_Md_nan (a0 : Int32) : Int64 := lt_ (if a0 = 0 then (9221120237041090560 : Int64) else (2143289344 : Int64)) fun x1 => x1
set_option maxHeartbeats 4000000 in
set_option maxRecDepth 100000 in
theorem c_Md_nan (l : Launch) (a0 : Int32) : Met l y_Md_nan (.code y_Md_nan b_Md_nan 1 (some .long) :: BIG) ({ frames := 0, cells := 0, slots := 0, locals := 0 } : Room) (va_Pc [.int a0] (pre0)) (pQ (.long (F_Md_nan a0))) 0 0 (fun _ => False) := by
  refine pOpen_l rfl (Nat.le_of_ble_eq_true rfl) ?_
  intro p e s m args below meth c Q ls hx hb hml hown hts hT hp hl hret
  have hNB := hp
  have hown : s.vm.findClass R_Md = some m.cls := hown
  have hl : lv_has ls 1 [(0, .int a0)] := hl
  obtain ⟨r, h⟩ : ∃ r, F_Md_nan a0 = r := ⟨_, rfl⟩
  rw [h] at hret
  have h : (lt_ (if a0 = 0 then (9221120237041090560 : Int64) else (2143289344 : Int64)) fun x1 => x1) = r := h
  refine lv_iload_n hx hb d_Md_nan_0 rfl (lv_at hl 0 rfl) ?_
  obtain ⟨x1, e_x1, h⟩ := lt_o h
  have hJ13 : ∀ (x1' : Int64) (ls : Array Slot), x1 = x1' → lv_has ls 1 [] → W p l e ({ frames := 0, cells := 0, slots := 0, locals := 0 } : Room) s m args below meth c s.heap [] 0 0 Q (F0 m 13 ls [.long x1']) := by
    intro x1' ls q_x1 hl
    subst q_x1
    exact hret 13 ls _ h d_Md_nan_13
  refine lv_if_eq (tgt := 10) hx hb d_Md_nan_1 rfl (fun hc => ?_) (fun hc => ?_)
  · have e_x1 := e_x1.trans (if_pos hc)
    refine lv_ldc2 hx hb hown (hT _ m_118) d_Md_nan_10 ?_
    exact hJ13 _ ls e_x1 (lv_sub hl [] rfl)
  · have e_x1 := e_x1.trans (if_neg hc)
    refine lv_ldc2 hx hb hown (hT _ m_119) d_Md_nan_4 ?_
    refine lv_goto (tgt := 13) hx hb d_Md_nan_7 rfl ?_
    exact hJ13 _ ls e_x1 (lv_sub hl [] rfl)
-- Md_sign
theorem d_Md_sign_0 : decode b_Md_sign 0 = .ok (.iload_n 0, 1) := by decide +kernel
theorem d_Md_sign_1 : decode b_Md_sign 1 = .ok (.ifCond .ne 7, 3) := by decide +kernel
theorem d_Md_sign_4 : decode b_Md_sign 4 = .ok (.lconst 0, 1) := by decide +kernel
theorem d_Md_sign_5 : decode b_Md_sign 5 = .ok (.goto 16, 3) := by decide +kernel
theorem d_Md_sign_8 : decode b_Md_sign 8 = .ok (.iload_n 1, 1) := by decide +kernel
theorem d_Md_sign_9 : decode b_Md_sign 9 = .ok (.ifCond .eq 9, 3) := by decide +kernel
theorem d_Md_sign_12 : decode b_Md_sign 12 = .ok (.ldc2_w 36, 3) := by decide +kernel
theorem d_Md_sign_15 : decode b_Md_sign 15 = .ok (.goto 6, 3) := by decide +kernel
theorem d_Md_sign_18 : decode b_Md_sign 18 = .ok (.ldc2_w 40, 3) := by decide +kernel
theorem d_Md_sign_21 : decode b_Md_sign 21 = .ok (.lreturn, 1) := by decide +kernel
def F_Md_sign (a0 : Int32) (a1 : Int32) : Int64 := lt_ (if ¬ a0 = 0 then if a1 = 0 then (-9223372036854775808 : Int64) else (2147483648 : Int64) else (0 : Int64)) fun x1 => x1
set_option maxHeartbeats 4000000 in
set_option maxRecDepth 100000 in
theorem c_Md_sign (l : Launch) (a0 : Int32) (a1 : Int32) : Met l y_Md_sign (.code y_Md_sign b_Md_sign 2 (some .long) :: BIG) ({ frames := 0, cells := 0, slots := 0, locals := 0 } : Room) (va_Pc [.int a0, .int a1] (pre0)) (pQ (.long (F_Md_sign a0 a1))) 0 0 (fun _ => False) := by
  refine pOpen_l rfl (Nat.le_of_ble_eq_true rfl) ?_
  intro p e s m args below meth c Q ls hx hb hml hown hts hT hp hl hret
  have hNB := hp
  have hown : s.vm.findClass R_Md = some m.cls := hown
  have hl : lv_has ls 2 [(0, .int a0), (1, .int a1)] := hl
  obtain ⟨r, h⟩ : ∃ r, F_Md_sign a0 a1 = r := ⟨_, rfl⟩
  rw [h] at hret
  have h : (lt_ (if ¬ a0 = 0 then if a1 = 0 then (-9223372036854775808 : Int64) else (2147483648 : Int64) else (0 : Int64)) fun x1 => x1) = r := h
  refine lv_iload_n hx hb d_Md_sign_0 rfl (lv_at hl 0 rfl) ?_
  obtain ⟨x1, e_x1, h⟩ := lt_o h
  have hJ21 : ∀ (x1' : Int64) (ls : Array Slot), x1 = x1' → lv_has ls 2 [] → W p l e ({ frames := 0, cells := 0, slots := 0, locals := 0 } : Room) s m args below meth c s.heap [] 0 0 Q (F0 m 21 ls [.long x1']) := by
    intro x1' ls q_x1 hl
    subst q_x1
    exact hret 21 ls _ h d_Md_sign_21
  refine lv_if_ne (tgt := 8) hx hb d_Md_sign_1 rfl (fun hc => ?_) (fun hc => ?_)
  · have e_x1 := e_x1.trans (if_pos hc)
    refine lv_iload_n hx hb d_Md_sign_8 rfl (lv_at hl 1 rfl) ?_
    refine lv_if_eq (tgt := 18) hx hb d_Md_sign_9 rfl (fun hc => ?_) (fun hc => ?_)
    · have e_x1 := e_x1.trans (if_pos hc)
      refine lv_ldc2 hx hb hown (hT _ m_120) d_Md_sign_18 ?_
      exact hJ21 _ ls e_x1 (lv_sub hl [] rfl)
    · have e_x1 := e_x1.trans (if_neg hc)
      refine lv_ldc2 hx hb hown (hT _ m_121) d_Md_sign_12 ?_
      refine lv_goto (tgt := 21) hx hb d_Md_sign_15 rfl ?_
      exact hJ21 _ ls e_x1 (lv_sub hl [] rfl)
  · have hc := not_not_intro hc
    have e_x1 := e_x1.trans (if_neg hc)
    refine lv_lconst hx hb d_Md_sign_4 lc_0 ?_
    refine lv_goto (tgt := 21) hx hb d_Md_sign_5 rfl ?_
    exact hJ21 _ ls e_x1 (lv_sub hl [] rfl)
-- Md_far
theorem d_Md_far_0 : decode b_Md_far 0 = .ok (.iload_n 1, 1) := by decide +kernel
theorem d_Md_far_1 : decode b_Md_far 1 = .ok (.ifCond .eq 9, 3) := by decide +kernel
theorem d_Md_far_4 : decode b_Md_far 4 = .ok (.ldc2_w 28, 3) := by decide +kernel
theorem d_Md_far_7 : decode b_Md_far 7 = .ok (.goto 6, 3) := by decide +kernel
theorem d_Md_far_10 : decode b_Md_far 10 = .ok (.ldc2_w 30, 3) := by decide +kernel
theorem d_Md_far_13 : decode b_Md_far 13 = .ok (.iload_n 0, 1) := by decide +kernel
theorem d_Md_far_14 : decode b_Md_far 14 = .ok (.iload_n 1, 1) := by decide +kernel
theorem d_Md_far_15 : decode b_Md_far 15 = .ok (.invokestatic 32, 3) := by decide +kernel
theorem d_Md_far_18 : decode b_Md_far 18 = .ok (.lor, 1) := by decide +kernel
theorem d_Md_far_19 : decode b_Md_far 19 = .ok (.lreturn, 1) := by decide +kernel
def F_Md_far (a0 : Int32) (a1 : Int32) : Int64 := lt_ (if a1 = 0 then (9218868437227405312 : Int64) else (2139095040 : Int64)) fun x1 => x1 ||| (F_Md_sign a0 a1)
set_option maxHeartbeats 4000000 in
set_option maxRecDepth 100000 in
theorem c_Md_far (l : Launch) (a0 : Int32) (a1 : Int32) : Met l y_Md_far (.code y_Md_far b_Md_far 2 (some .long) :: BIG) ({ frames := 1, cells := 0, slots := 0, locals := 21 } : Room) (va_Pc [.int a0, .int a1] (pre0)) (pQ (.long (F_Md_far a0 a1))) 0 0 (fun _ => False) := by
  refine pOpen_l rfl (Nat.le_of_ble_eq_true rfl) ?_
  intro p e s m args below meth c Q ls hx hb hml hown hts hT hp hl hret
  have hNB := hp
  have hown : s.vm.findClass R_Md = some m.cls := hown
  have hl : lv_has ls 2 [(0, .int a0), (1, .int a1)] := hl
  obtain ⟨r, h⟩ : ∃ r, F_Md_far a0 a1 = r := ⟨_, rfl⟩
  rw [h] at hret
  have h : (lt_ (if a1 = 0 then (9218868437227405312 : Int64) else (2139095040 : Int64)) fun x1 => x1 ||| (F_Md_sign a0 a1)) = r := h
  refine lv_iload_n hx hb d_Md_far_0 rfl (lv_at hl 1 rfl) ?_
  obtain ⟨x1, e_x1, h⟩ := lt_o h
  have hJ13 : ∀ (x1' : Int64) (ls : Array Slot), x1 = x1' → lv_has ls 2 [(0, .int a0), (1, .int a1)] → W p l e ({ frames := 1, cells := 0, slots := 0, locals := 21 } : Room) s m args below meth c s.heap [] 0 0 Q (F0 m 13 ls [.long x1']) := by
    intro x1' ls q_x1 hl
    subst q_x1
    refine lv_iload_n hx hb d_Md_far_13 rfl (lv_at hl 0 rfl) ?_
    refine lv_iload_n hx hb d_Md_far_14 rfl (lv_at hl 1 rfl) ?_
    refine q_S (As := [.int a0, .int a1]) (rest := [.long x1]) (n := 2) hx hb hml hown hts (c_Md_sign l a0 a1) rfl rfl m_124 m_125 m_126 m_127 (by decide +kernel) ⟨Nat.le_of_ble_eq_true rfl, Nat.le_of_ble_eq_true rfl⟩ (p0_bl) (fun U hU hW => p0_mv hU hW hNB) rfl hl.1 rfl (Nat.le_of_ble_eq_true rfl) d_Md_far_15 ⟨Nat.zero_le _, Nat.zero_le _⟩ ?_
    refine lv_lor hx hb d_Md_far_18 ?_
    exact hret 19 ls _ h d_Md_far_19
  refine lv_if_eq (tgt := 10) hx hb d_Md_far_1 rfl (fun hc => ?_) (fun hc => ?_)
  · have e_x1 := e_x1.trans (if_pos hc)
    refine lv_ldc2 hx hb hown (hT _ m_122) d_Md_far_10 ?_
    exact hJ13 _ ls e_x1 (lv_sub hl [0, 1] rfl)
  · have e_x1 := e_x1.trans (if_neg hc)
    refine lv_ldc2 hx hb hown (hT _ m_123) d_Md_far_4 ?_
    refine lv_goto (tgt := 13) hx hb d_Md_far_7 rfl ?_
    exact hJ13 _ ls e_x1 (lv_sub hl [0, 1] rfl)
-- Md_length
theorem d_Md_length_0 : decode b_Md_length 0 = .ok (.iconst 0, 1) := by decide +kernel
theorem d_Md_length_1 : decode b_Md_length 1 = .ok (.istore_n 2, 1) := by decide +kernel
theorem d_Md_length_2 : decode b_Md_length 2 = .ok (.lload_n 0, 1) := by decide +kernel
theorem d_Md_length_3 : decode b_Md_length 3 = .ok (.lstore_n 3, 1) := by decide +kernel
theorem d_Md_length_4 : decode b_Md_length 4 = .ok (.lload_n 3, 1) := by decide +kernel
theorem d_Md_length_5 : decode b_Md_length 5 = .ok (.lconst 0, 1) := by decide +kernel
theorem d_Md_length_6 : decode b_Md_length 6 = .ok (.lcmp, 1) := by decide +kernel
theorem d_Md_length_7 : decode b_Md_length 7 = .ok (.ifCond .eq 13, 3) := by decide +kernel
theorem d_Md_length_10 : decode b_Md_length 10 = .ok (.iinc 2 1, 3) := by decide +kernel
theorem d_Md_length_13 : decode b_Md_length 13 = .ok (.lload_n 3, 1) := by decide +kernel
theorem d_Md_length_14 : decode b_Md_length 14 = .ok (.iconst 1, 1) := by decide +kernel
theorem d_Md_length_15 : decode b_Md_length 15 = .ok (.lushr, 1) := by decide +kernel
theorem d_Md_length_16 : decode b_Md_length 16 = .ok (.lstore_n 3, 1) := by decide +kernel
theorem d_Md_length_17 : decode b_Md_length 17 = .ok (.goto (-13), 3) := by decide +kernel
theorem d_Md_length_20 : decode b_Md_length 20 = .ok (.iload_n 2, 1) := by decide +kernel
theorem d_Md_length_21 : decode b_Md_length 21 = .ok (.ireturn, 1) := by decide +kernel
def F_Md_length_L4 (j20 : (Int32 → Option (Int32))) : Nat → Int32 → Int64 → Option (Int32)
  | 0, _, _ => none
  | n+1, y2, y3 => if y3 = (0 : Int64) then (j20 y2) else (lt_ (y2 + Int32.ofInt 1) fun x4 => lt_ (((y3).toUInt64 >>> (((1 : Int32)).toInt64.toUInt64 &&& Int64.toUInt64 63)).toInt64) fun x5 => F_Md_length_L4 j20 n x4 x5)
def F_Md_length (n : Nat) (a0 : Int64) : Option (Int32) := lt_ (fun (y1 : Int32) => some y1) fun j20 => F_Md_length_L4 j20 n (0 : Int32) a0
set_option maxHeartbeats 4000000 in
set_option maxRecDepth 100000 in
theorem c_Md_length (l : Launch) (n : Nat) (a0 : Int64) (r : Int32) (h : F_Md_length n a0 = some r) : Met l y_Md_length (.code y_Md_length b_Md_length 5 (some .int) :: BIG) ({ frames := 0, cells := 0, slots := 0, locals := 0 } : Room) (va_Pc [.long a0] (pre0)) (pQ (.int r)) 0 0 (fun _ => False) := by
  refine pOpen_i rfl (Nat.le_of_ble_eq_true rfl) ?_
  intro p e s m args below meth c Q ls hx hb hml hown hts hT hp hl hret
  have hNB := hp
  have hown : s.vm.findClass R_Md = some m.cls := hown
  have hl : lv_has ls 5 [(0, .long a0)] := hl
  have h : (lt_ (fun (y1 : Int32) => some y1) fun j20 => F_Md_length_L4 j20 n (0 : Int32) a0) = some r := h
  refine lv_iconst hx hb d_Md_length_0 ic_0 ?_
  refine lv_istore_n hx hb d_Md_length_1 rfl hl (by decide) rfl (fun ls hl => ?_)
  have hl : lv_has ls 5 [(2, .int (0 : Int32)), (0, .long a0)] := hl
  refine lv_lload_n hx hb d_Md_length_2 rfl (lv_at hl 1 rfl) ?_
  refine lv_lstore_n hx hb d_Md_length_3 rfl hl (by decide) rfl (fun ls hl => ?_)
  have hl : lv_has ls 5 [(3, .long a0), (2, .int (0 : Int32)), (0, .long a0)] := hl
  obtain ⟨j20, e_j20, h⟩ := lt_o h
  have hJ20 : ∀ (y1 : Int32) (ls : Array Slot), lv_has ls 5 [(2, .int y1)] → j20 y1 = some r → W p l e ({ frames := 0, cells := 0, slots := 0, locals := 0 } : Room) s m args below meth c s.heap [] 0 0 Q (F0 m 20 ls []) := by
    intro y1 ls hl h
    rw [e_j20] at h
    refine lv_iload_n hx hb d_Md_length_20 rfl (lv_at hl 0 rfl) ?_
    exact hret 21 ls _ (Option.some.inj h) d_Md_length_21
  have hL4 : ∀ (n : Nat) (y2 : Int32) (y3 : Int64) (ls : Array Slot), lv_has ls 5 [(2, .int y2), (3, .long y3)] → F_Md_length_L4 j20 n y2 y3 = some r → W p l e ({ frames := 0, cells := 0, slots := 0, locals := 0 } : Room) s m args below meth c s.heap [] 0 0 Q (F0 m 4 ls []) := by
    intro n
    induction n with
    | zero => intro y2 y3 ls hl h; exact no_s h
    | succ n ih =>
      intro y2 y3 ls hl h
      have h : (if y3 = (0 : Int64) then (j20 y2) else (lt_ (y2 + Int32.ofInt 1) fun x4 => lt_ (((y3).toUInt64 >>> (((1 : Int32)).toInt64.toUInt64 &&& Int64.toUInt64 63)).toInt64) fun x5 => F_Md_length_L4 j20 n x4 x5)) = some r := h
      refine lv_lload_n hx hb d_Md_length_4 rfl (lv_at hl 1 rfl) ?_
      refine lv_lconst hx hb d_Md_length_5 lc_0 ?_
      refine W.lcmp hx hb d_Md_length_6 ?_
      refine lv_if_eq (tgt := 20) hx hb d_Md_length_7 rfl (fun hc => ?_) (fun hc => ?_)
      · have hc := (lg_cmp_eq _ _).mp hc
        have h := ite_t hc h
        exact hJ20 _ ls (lv_sub hl [0] rfl) h
      · have hc := mt (lg_cmp_eq _ _).mpr hc
        have h := ite_f hc h
        obtain ⟨x4, e_x4⟩ : ∃ z, z = y2 + Int32.ofInt 1 := ⟨_, rfl⟩
        have h := lt_h e_x4 h
        refine lv_iinc (k := 0) hx hb d_Md_length_10 hl rfl e_x4.symm (by decide) rfl (fun ls hl => ?_)
        have hl : lv_has ls 5 [(2, .int x4), (3, .long y3)] := hl
        refine lv_lload_n hx hb d_Md_length_13 rfl (lv_at hl 1 rfl) ?_
        refine lv_iconst hx hb d_Md_length_14 ic_1 ?_
        refine lv_lushr hx hb d_Md_length_15 rfl ?_
        refine lv_topl (fun x5 e_x5 => ?_)
        have h := lt_h e_x5 h
        refine lv_lstore_n hx hb d_Md_length_16 rfl hl (by decide) rfl (fun ls hl => ?_)
        have hl : lv_has ls 5 [(3, .long x5), (2, .int x4)] := hl
        refine lv_goto (tgt := 4) hx hb d_Md_length_17 rfl ?_
        exact ih _ _ ls (lv_sub hl [1, 0] rfl) h
  exact hL4 n _ _ ls (lv_sub hl [1, 0] rfl) h
-- Md_round
theorem d_Md_round_0 : decode b_Md_round 0 = .ok (.iload 5, 2) := by decide +kernel
theorem d_Md_round_2 : decode b_Md_round 2 = .ok (.ifCond .eq 8, 3) := by decide +kernel
theorem d_Md_round_5 : decode b_Md_round 5 = .ok (.bipush 24, 2) := by decide +kernel
theorem d_Md_round_7 : decode b_Md_round 7 = .ok (.goto 5, 3) := by decide +kernel
theorem d_Md_round_10 : decode b_Md_round 10 = .ok (.bipush 53, 2) := by decide +kernel
theorem d_Md_round_12 : decode b_Md_round 12 = .ok (.istore 6, 2) := by decide +kernel
theorem d_Md_round_14 : decode b_Md_round 14 = .ok (.iload 5, 2) := by decide +kernel
theorem d_Md_round_16 : decode b_Md_round 16 = .ok (.ifCond .eq 9, 3) := by decide +kernel
theorem d_Md_round_19 : decode b_Md_round 19 = .ok (.sipush (-149), 3) := by decide +kernel
theorem d_Md_round_22 : decode b_Md_round 22 = .ok (.goto 6, 3) := by decide +kernel
theorem d_Md_round_25 : decode b_Md_round 25 = .ok (.sipush (-1074), 3) := by decide +kernel
theorem d_Md_round_28 : decode b_Md_round 28 = .ok (.istore 7, 2) := by decide +kernel
theorem d_Md_round_30 : decode b_Md_round 30 = .ok (.lload_n 1, 1) := by decide +kernel
theorem d_Md_round_31 : decode b_Md_round 31 = .ok (.invokestatic 76, 3) := by decide +kernel
theorem d_Md_round_34 : decode b_Md_round 34 = .ok (.iload 6, 2) := by decide +kernel
theorem d_Md_round_36 : decode b_Md_round 36 = .ok (.isub, 1) := by decide +kernel
theorem d_Md_round_37 : decode b_Md_round 37 = .ok (.iload 7, 2) := by decide +kernel
theorem d_Md_round_39 : decode b_Md_round 39 = .ok (.iload_n 3, 1) := by decide +kernel
theorem d_Md_round_40 : decode b_Md_round 40 = .ok (.isub, 1) := by decide +kernel
theorem d_Md_round_41 : decode b_Md_round 41 = .ok (.invokestatic 80, 3) := by decide +kernel
theorem d_Md_round_44 : decode b_Md_round 44 = .ok (.istore 8, 2) := by decide +kernel
theorem d_Md_round_46 : decode b_Md_round 46 = .ok (.lload_n 1, 1) := by decide +kernel
theorem d_Md_round_47 : decode b_Md_round 47 = .ok (.lstore 9, 2) := by decide +kernel
theorem d_Md_round_49 : decode b_Md_round 49 = .ok (.iload 8, 2) := by decide +kernel
theorem d_Md_round_51 : decode b_Md_round 51 = .ok (.ifCond .gt 13, 3) := by decide +kernel
theorem d_Md_round_54 : decode b_Md_round 54 = .ok (.lload_n 1, 1) := by decide +kernel
theorem d_Md_round_55 : decode b_Md_round 55 = .ok (.iload 8, 2) := by decide +kernel
theorem d_Md_round_57 : decode b_Md_round 57 = .ok (.ineg, 1) := by decide +kernel
theorem d_Md_round_58 : decode b_Md_round 58 = .ok (.lshl, 1) := by decide +kernel
theorem d_Md_round_59 : decode b_Md_round 59 = .ok (.lstore 9, 2) := by decide +kernel
theorem d_Md_round_61 : decode b_Md_round 61 = .ok (.goto 112, 3) := by decide +kernel
theorem d_Md_round_64 : decode b_Md_round 64 = .ok (.iload 8, 2) := by decide +kernel
theorem d_Md_round_66 : decode b_Md_round 66 = .ok (.bipush 64, 2) := by decide +kernel
theorem d_Md_round_68 : decode b_Md_round 68 = .ok (.if_icmp .le 9, 3) := by decide +kernel
theorem d_Md_round_71 : decode b_Md_round 71 = .ok (.lconst 0, 1) := by decide +kernel
theorem d_Md_round_72 : decode b_Md_round 72 = .ok (.lstore 9, 2) := by decide +kernel
theorem d_Md_round_74 : decode b_Md_round 74 = .ok (.goto 99, 3) := by decide +kernel
theorem d_Md_round_77 : decode b_Md_round 77 = .ok (.iload 8, 2) := by decide +kernel
theorem d_Md_round_79 : decode b_Md_round 79 = .ok (.bipush 64, 2) := by decide +kernel
theorem d_Md_round_81 : decode b_Md_round 81 = .ok (.if_icmp .ne 7, 3) := by decide +kernel
theorem d_Md_round_84 : decode b_Md_round 84 = .ok (.lconst 0, 1) := by decide +kernel
theorem d_Md_round_85 : decode b_Md_round 85 = .ok (.goto 9, 3) := by decide +kernel
theorem d_Md_round_88 : decode b_Md_round 88 = .ok (.lload_n 1, 1) := by decide +kernel
theorem d_Md_round_89 : decode b_Md_round 89 = .ok (.iload 8, 2) := by decide +kernel
theorem d_Md_round_91 : decode b_Md_round 91 = .ok (.iconst 1, 1) := by decide +kernel
theorem d_Md_round_92 : decode b_Md_round 92 = .ok (.isub, 1) := by decide +kernel
theorem d_Md_round_93 : decode b_Md_round 93 = .ok (.lushr, 1) := by decide +kernel
theorem d_Md_round_94 : decode b_Md_round 94 = .ok (.lstore 11, 2) := by decide +kernel
theorem d_Md_round_96 : decode b_Md_round 96 = .ok (.iload 8, 2) := by decide +kernel
theorem d_Md_round_98 : decode b_Md_round 98 = .ok (.bipush 64, 2) := by decide +kernel
theorem d_Md_round_100 : decode b_Md_round 100 = .ok (.if_icmp .ne 7, 3) := by decide +kernel
theorem d_Md_round_103 : decode b_Md_round 103 = .ok (.lload_n 1, 1) := by decide +kernel
theorem d_Md_round_104 : decode b_Md_round 104 = .ok (.goto 13, 3) := by decide +kernel
theorem d_Md_round_107 : decode b_Md_round 107 = .ok (.lload_n 1, 1) := by decide +kernel
theorem d_Md_round_108 : decode b_Md_round 108 = .ok (.lconst 1, 1) := by decide +kernel
theorem d_Md_round_109 : decode b_Md_round 109 = .ok (.iload 8, 2) := by decide +kernel
theorem d_Md_round_111 : decode b_Md_round 111 = .ok (.iconst 1, 1) := by decide +kernel
theorem d_Md_round_112 : decode b_Md_round 112 = .ok (.isub, 1) := by decide +kernel
theorem d_Md_round_113 : decode b_Md_round 113 = .ok (.lshl, 1) := by decide +kernel
theorem d_Md_round_114 : decode b_Md_round 114 = .ok (.lconst 1, 1) := by decide +kernel
theorem d_Md_round_115 : decode b_Md_round 115 = .ok (.lsub, 1) := by decide +kernel
theorem d_Md_round_116 : decode b_Md_round 116 = .ok (.land, 1) := by decide +kernel
theorem d_Md_round_117 : decode b_Md_round 117 = .ok (.lstore 13, 2) := by decide +kernel
theorem d_Md_round_119 : decode b_Md_round 119 = .ok (.lload 13, 2) := by decide +kernel
theorem d_Md_round_121 : decode b_Md_round 121 = .ok (.lconst 0, 1) := by decide +kernel
theorem d_Md_round_122 : decode b_Md_round 122 = .ok (.lcmp, 1) := by decide +kernel
theorem d_Md_round_123 : decode b_Md_round 123 = .ok (.ifCond .ne 8, 3) := by decide +kernel
theorem d_Md_round_126 : decode b_Md_round 126 = .ok (.iload 4, 2) := by decide +kernel
theorem d_Md_round_128 : decode b_Md_round 128 = .ok (.ifCond .eq 7, 3) := by decide +kernel
theorem d_Md_round_131 : decode b_Md_round 131 = .ok (.iconst 1, 1) := by decide +kernel
theorem d_Md_round_132 : decode b_Md_round 132 = .ok (.goto 4, 3) := by decide +kernel
theorem d_Md_round_135 : decode b_Md_round 135 = .ok (.iconst 0, 1) := by decide +kernel
theorem d_Md_round_136 : decode b_Md_round 136 = .ok (.istore 15, 2) := by decide +kernel
theorem d_Md_round_138 : decode b_Md_round 138 = .ok (.lload 11, 2) := by decide +kernel
theorem d_Md_round_140 : decode b_Md_round 140 = .ok (.iconst 1, 1) := by decide +kernel
theorem d_Md_round_141 : decode b_Md_round 141 = .ok (.lushr, 1) := by decide +kernel
theorem d_Md_round_142 : decode b_Md_round 142 = .ok (.lstore 9, 2) := by decide +kernel
theorem d_Md_round_144 : decode b_Md_round 144 = .ok (.lload 11, 2) := by decide +kernel
theorem d_Md_round_146 : decode b_Md_round 146 = .ok (.lconst 1, 1) := by decide +kernel
theorem d_Md_round_147 : decode b_Md_round 147 = .ok (.land, 1) := by decide +kernel
theorem d_Md_round_148 : decode b_Md_round 148 = .ok (.lconst 1, 1) := by decide +kernel
theorem d_Md_round_149 : decode b_Md_round 149 = .ok (.lcmp, 1) := by decide +kernel
theorem d_Md_round_150 : decode b_Md_round 150 = .ok (.ifCond .ne 23, 3) := by decide +kernel
theorem d_Md_round_153 : decode b_Md_round 153 = .ok (.iload 15, 2) := by decide +kernel
theorem d_Md_round_155 : decode b_Md_round 155 = .ok (.ifCond .ne 12, 3) := by decide +kernel
theorem d_Md_round_158 : decode b_Md_round 158 = .ok (.lload 9, 2) := by decide +kernel
theorem d_Md_round_160 : decode b_Md_round 160 = .ok (.lconst 1, 1) := by decide +kernel
theorem d_Md_round_161 : decode b_Md_round 161 = .ok (.land, 1) := by decide +kernel
theorem d_Md_round_162 : decode b_Md_round 162 = .ok (.lconst 1, 1) := by decide +kernel
theorem d_Md_round_163 : decode b_Md_round 163 = .ok (.lcmp, 1) := by decide +kernel
theorem d_Md_round_164 : decode b_Md_round 164 = .ok (.ifCond .ne 9, 3) := by decide +kernel
theorem d_Md_round_167 : decode b_Md_round 167 = .ok (.lload 9, 2) := by decide +kernel
theorem d_Md_round_169 : decode b_Md_round 169 = .ok (.lconst 1, 1) := by decide +kernel
theorem d_Md_round_170 : decode b_Md_round 170 = .ok (.ladd, 1) := by decide +kernel
theorem d_Md_round_171 : decode b_Md_round 171 = .ok (.lstore 9, 2) := by decide +kernel
theorem d_Md_round_173 : decode b_Md_round 173 = .ok (.iload_n 3, 1) := by decide +kernel
theorem d_Md_round_174 : decode b_Md_round 174 = .ok (.iload 8, 2) := by decide +kernel
theorem d_Md_round_176 : decode b_Md_round 176 = .ok (.iadd, 1) := by decide +kernel
theorem d_Md_round_177 : decode b_Md_round 177 = .ok (.istore 11, 2) := by decide +kernel
theorem d_Md_round_179 : decode b_Md_round 179 = .ok (.lload 9, 2) := by decide +kernel
theorem d_Md_round_181 : decode b_Md_round 181 = .ok (.invokestatic 76, 3) := by decide +kernel
theorem d_Md_round_184 : decode b_Md_round 184 = .ok (.iload 6, 2) := by decide +kernel
theorem d_Md_round_186 : decode b_Md_round 186 = .ok (.if_icmp .le 12, 3) := by decide +kernel
theorem d_Md_round_189 : decode b_Md_round 189 = .ok (.lload 9, 2) := by decide +kernel
theorem d_Md_round_191 : decode b_Md_round 191 = .ok (.iconst 1, 1) := by decide +kernel
theorem d_Md_round_192 : decode b_Md_round 192 = .ok (.lushr, 1) := by decide +kernel
theorem d_Md_round_193 : decode b_Md_round 193 = .ok (.lstore 9, 2) := by decide +kernel
theorem d_Md_round_195 : decode b_Md_round 195 = .ok (.iinc 11 1, 3) := by decide +kernel
theorem d_Md_round_198 : decode b_Md_round 198 = .ok (.lload 9, 2) := by decide +kernel
theorem d_Md_round_200 : decode b_Md_round 200 = .ok (.lconst 0, 1) := by decide +kernel
theorem d_Md_round_201 : decode b_Md_round 201 = .ok (.lcmp, 1) := by decide +kernel
theorem d_Md_round_202 : decode b_Md_round 202 = .ok (.ifCond .ne 10, 3) := by decide +kernel
theorem d_Md_round_205 : decode b_Md_round 205 = .ok (.iload_n 0, 1) := by decide +kernel
theorem d_Md_round_206 : decode b_Md_round 206 = .ok (.iload 5, 2) := by decide +kernel
theorem d_Md_round_208 : decode b_Md_round 208 = .ok (.invokestatic 32, 3) := by decide +kernel
theorem d_Md_round_211 : decode b_Md_round 211 = .ok (.lreturn, 1) := by decide +kernel
theorem d_Md_round_212 : decode b_Md_round 212 = .ok (.iload 6, 2) := by decide +kernel
theorem d_Md_round_214 : decode b_Md_round 214 = .ok (.iconst 1, 1) := by decide +kernel
theorem d_Md_round_215 : decode b_Md_round 215 = .ok (.isub, 1) := by decide +kernel
theorem d_Md_round_216 : decode b_Md_round 216 = .ok (.istore 12, 2) := by decide +kernel
theorem d_Md_round_218 : decode b_Md_round 218 = .ok (.lload 9, 2) := by decide +kernel
theorem d_Md_round_220 : decode b_Md_round 220 = .ok (.invokestatic 76, 3) := by decide +kernel
theorem d_Md_round_223 : decode b_Md_round 223 = .ok (.iload 6, 2) := by decide +kernel
theorem d_Md_round_225 : decode b_Md_round 225 = .ok (.if_icmp .ge 13, 3) := by decide +kernel
theorem d_Md_round_228 : decode b_Md_round 228 = .ok (.lload 9, 2) := by decide +kernel
theorem d_Md_round_230 : decode b_Md_round 230 = .ok (.iload_n 0, 1) := by decide +kernel
theorem d_Md_round_231 : decode b_Md_round 231 = .ok (.iload 5, 2) := by decide +kernel
theorem d_Md_round_233 : decode b_Md_round 233 = .ok (.invokestatic 32, 3) := by decide +kernel
theorem d_Md_round_236 : decode b_Md_round 236 = .ok (.lor, 1) := by decide +kernel
theorem d_Md_round_237 : decode b_Md_round 237 = .ok (.lreturn, 1) := by decide +kernel
theorem d_Md_round_238 : decode b_Md_round 238 = .ok (.iload 11, 2) := by decide +kernel
theorem d_Md_round_240 : decode b_Md_round 240 = .ok (.iload 5, 2) := by decide +kernel
theorem d_Md_round_242 : decode b_Md_round 242 = .ok (.ifCond .eq 9, 3) := by decide +kernel
theorem d_Md_round_245 : decode b_Md_round 245 = .ok (.sipush 150, 3) := by decide +kernel
theorem d_Md_round_248 : decode b_Md_round 248 = .ok (.goto 6, 3) := by decide +kernel
theorem d_Md_round_251 : decode b_Md_round 251 = .ok (.sipush 1075, 3) := by decide +kernel
theorem d_Md_round_254 : decode b_Md_round 254 = .ok (.iadd, 1) := by decide +kernel
theorem d_Md_round_255 : decode b_Md_round 255 = .ok (.istore 13, 2) := by decide +kernel
theorem d_Md_round_257 : decode b_Md_round 257 = .ok (.iload 13, 2) := by decide +kernel
theorem d_Md_round_259 : decode b_Md_round 259 = .ok (.iload 5, 2) := by decide +kernel
theorem d_Md_round_261 : decode b_Md_round 261 = .ok (.ifCond .eq 9, 3) := by decide +kernel
theorem d_Md_round_264 : decode b_Md_round 264 = .ok (.sipush 255, 3) := by decide +kernel
theorem d_Md_round_267 : decode b_Md_round 267 = .ok (.goto 6, 3) := by decide +kernel
theorem d_Md_round_270 : decode b_Md_round 270 = .ok (.sipush 2047, 3) := by decide +kernel
theorem d_Md_round_273 : decode b_Md_round 273 = .ok (.if_icmp .lt 10, 3) := by decide +kernel
theorem d_Md_round_276 : decode b_Md_round 276 = .ok (.iload_n 0, 1) := by decide +kernel
theorem d_Md_round_277 : decode b_Md_round 277 = .ok (.iload 5, 2) := by decide +kernel
theorem d_Md_round_279 : decode b_Md_round 279 = .ok (.invokestatic 86, 3) := by decide +kernel
theorem d_Md_round_282 : decode b_Md_round 282 = .ok (.lreturn, 1) := by decide +kernel
theorem d_Md_round_283 : decode b_Md_round 283 = .ok (.lload 9, 2) := by decide +kernel
theorem d_Md_round_285 : decode b_Md_round 285 = .ok (.lconst 1, 1) := by decide +kernel
theorem d_Md_round_286 : decode b_Md_round 286 = .ok (.iload 12, 2) := by decide +kernel
theorem d_Md_round_288 : decode b_Md_round 288 = .ok (.lshl, 1) := by decide +kernel
theorem d_Md_round_289 : decode b_Md_round 289 = .ok (.lconst 1, 1) := by decide +kernel
theorem d_Md_round_290 : decode b_Md_round 290 = .ok (.lsub, 1) := by decide +kernel
theorem d_Md_round_291 : decode b_Md_round 291 = .ok (.land, 1) := by decide +kernel
theorem d_Md_round_292 : decode b_Md_round 292 = .ok (.iload 13, 2) := by decide +kernel
theorem d_Md_round_294 : decode b_Md_round 294 = .ok (.i2l, 1) := by decide +kernel
theorem d_Md_round_295 : decode b_Md_round 295 = .ok (.iload 12, 2) := by decide +kernel
theorem d_Md_round_297 : decode b_Md_round 297 = .ok (.lshl, 1) := by decide +kernel
theorem d_Md_round_298 : decode b_Md_round 298 = .ok (.lor, 1) := by decide +kernel
theorem d_Md_round_299 : decode b_Md_round 299 = .ok (.iload_n 0, 1) := by decide +kernel
theorem d_Md_round_300 : decode b_Md_round 300 = .ok (.iload 5, 2) := by decide +kernel
theorem d_Md_round_302 : decode b_Md_round 302 = .ok (.invokestatic 32, 3) := by decide +kernel
theorem d_Md_round_305 : decode b_Md_round 305 = .ok (.lor, 1) := by decide +kernel
theorem d_Md_round_306 : decode b_Md_round 306 = .ok (.lreturn, 1) := by decide +kernel
def F_Md_round (n : Nat) (a0 : Int32) (a1 : Int64) (a2 : Int32) (a3 : Int32) (a4 : Int32) : Option (Int64) := lt_ (if a4 = 0 then (53 : Int32) else (24 : Int32)) fun x1 => lt_ (if a4 = 0 then (-1074 : Int32) else (-149 : Int32)) fun x2 => (F_Md_length n a1).bind fun x3 => lt_ (if (x3 - x1) < (x2 - a2) then x2 - a2 else x3 - x1) fun x4 => lt_ (fun (y5 : Int64) => lt_ (a2 + x4) fun x6 => (F_Md_length n y5).bind fun x7 => lt_ (fun (y8 : Int64) (y9 : Int32) => if ¬ y8 = (0 : Int64) then (lt_ (x1 - (1 : Int32)) fun x10 => (F_Md_length n y8).bind fun x11 => if x1 ≤ x11 then (lt_ (if a4 = 0 then (1075 : Int32) else (150 : Int32)) fun x12 => lt_ (y9 + x12) fun x13 => lt_ (if a4 = 0 then (2047 : Int32) else (255 : Int32)) fun x14 => if x13 < x14 then (some (((y8 &&& (((1 : Int64) <<< ((x10).toInt64 &&& 63)) - (1 : Int64))) ||| (((x13).toInt64) <<< ((x10).toInt64 &&& 63))) ||| (F_Md_sign a0 a4))) else (some (F_Md_far a0 a4))) else (some (y8 ||| (F_Md_sign a0 a4)))) else (some (F_Md_sign a0 a4))) fun j198 => if x7 ≤ x1 then (j198 y5 x6) else (lt_ (((y5).toUInt64 >>> (((1 : Int32)).toInt64.toUInt64 &&& Int64.toUInt64 63)).toInt64) fun x15 => lt_ (x6 + Int32.ofInt 1) fun x16 => j198 x15 x16)) fun j173 => if 0 < x4 then (if x4 ≤ (64 : Int32) then (lt_ (if ¬ x4 = (64 : Int32) then ((a1).toUInt64 >>> ((x4 - (1 : Int32)).toInt64.toUInt64 &&& Int64.toUInt64 63)).toInt64 else (0 : Int64)) fun x17 => lt_ (if ¬ x4 = (64 : Int32) then a1 &&& (((1 : Int64) <<< ((x4 - (1 : Int32)).toInt64 &&& 63)) - (1 : Int64)) else a1) fun x18 => lt_ (if ¬ x18 = (0 : Int64) then (1 : Int32) else if a3 = 0 then (0 : Int32) else (1 : Int32)) fun x19 => lt_ (((x17).toUInt64 >>> (((1 : Int32)).toInt64.toUInt64 &&& Int64.toUInt64 63)).toInt64) fun x20 => if ¬ (x17 &&& (1 : Int64)) = (1 : Int64) then (j173 x20) else (lt_ (fun (_ : Unit) => lt_ (x20 + (1 : Int64)) fun x21 => j173 x21) fun j167 => if ¬ x19 = 0 then (j167 ()) else (if ¬ (x20 &&& (1 : Int64)) = (1 : Int64) then (j173 x20) else (j167 ())))) else (j173 (0 : Int64))) else (lt_ (a1 <<< ((-x4).toInt64 &&& 63)) fun x22 => j173 x22)
set_option maxHeartbeats 4000000 in
set_option maxRecDepth 100000 in
theorem c_Md_round (l : Launch) (n : Nat) (a0 : Int32) (a1 : Int64) (a2 : Int32) (a3 : Int32) (a4 : Int32) (r : Int64) (h : F_Md_round n a0 a1 a2 a3 a4 = some r) : Met l y_Md_round (.code y_Md_round b_Md_round 16 (some .long) :: BIG) ({ frames := 2, cells := 0, slots := 0, locals := 42 } : Room) (va_Pc [.int a0, .long a1, .int a2, .int a3, .int a4] (pre0)) (pQ (.long r)) 0 0 (fun _ => False) := by
  refine pOpen_l rfl (Nat.le_of_ble_eq_true rfl) ?_
  intro p e s m args below meth c Q ls hx hb hml hown hts hT hp hl hret
  have hNB := hp
  have hown : s.vm.findClass R_Md = some m.cls := hown
  have hl : lv_has ls 16 [(0, .int a0), (1, .long a1), (3, .int a2), (4, .int a3), (5, .int a4)] := hl
  have h : (lt_ (if a4 = 0 then (53 : Int32) else (24 : Int32)) fun x1 => lt_ (if a4 = 0 then (-1074 : Int32) else (-149 : Int32)) fun x2 => (F_Md_length n a1).bind fun x3 => lt_ (if (x3 - x1) < (x2 - a2) then x2 - a2 else x3 - x1) fun x4 => lt_ (fun (y5 : Int64) => lt_ (a2 + x4) fun x6 => (F_Md_length n y5).bind fun x7 => lt_ (fun (y8 : Int64) (y9 : Int32) => if ¬ y8 = (0 : Int64) then (lt_ (x1 - (1 : Int32)) fun x10 => (F_Md_length n y8).bind fun x11 => if x1 ≤ x11 then (lt_ (if a4 = 0 then (1075 : Int32) else (150 : Int32)) fun x12 => lt_ (y9 + x12) fun x13 => lt_ (if a4 = 0 then (2047 : Int32) else (255 : Int32)) fun x14 => if x13 < x14 then (some (((y8 &&& (((1 : Int64) <<< ((x10).toInt64 &&& 63)) - (1 : Int64))) ||| (((x13).toInt64) <<< ((x10).toInt64 &&& 63))) ||| (F_Md_sign a0 a4))) else (some (F_Md_far a0 a4))) else (some (y8 ||| (F_Md_sign a0 a4)))) else (some (F_Md_sign a0 a4))) fun j198 => if x7 ≤ x1 then (j198 y5 x6) else (lt_ (((y5).toUInt64 >>> (((1 : Int32)).toInt64.toUInt64 &&& Int64.toUInt64 63)).toInt64) fun x15 => lt_ (x6 + Int32.ofInt 1) fun x16 => j198 x15 x16)) fun j173 => if 0 < x4 then (if x4 ≤ (64 : Int32) then (lt_ (if ¬ x4 = (64 : Int32) then ((a1).toUInt64 >>> ((x4 - (1 : Int32)).toInt64.toUInt64 &&& Int64.toUInt64 63)).toInt64 else (0 : Int64)) fun x17 => lt_ (if ¬ x4 = (64 : Int32) then a1 &&& (((1 : Int64) <<< ((x4 - (1 : Int32)).toInt64 &&& 63)) - (1 : Int64)) else a1) fun x18 => lt_ (if ¬ x18 = (0 : Int64) then (1 : Int32) else if a3 = 0 then (0 : Int32) else (1 : Int32)) fun x19 => lt_ (((x17).toUInt64 >>> (((1 : Int32)).toInt64.toUInt64 &&& Int64.toUInt64 63)).toInt64) fun x20 => if ¬ (x17 &&& (1 : Int64)) = (1 : Int64) then (j173 x20) else (lt_ (fun (_ : Unit) => lt_ (x20 + (1 : Int64)) fun x21 => j173 x21) fun j167 => if ¬ x19 = 0 then (j167 ()) else (if ¬ (x20 &&& (1 : Int64)) = (1 : Int64) then (j173 x20) else (j167 ())))) else (j173 (0 : Int64))) else (lt_ (a1 <<< ((-x4).toInt64 &&& 63)) fun x22 => j173 x22)) = some r := h
  refine lv_iload hx hb d_Md_round_0 (lv_at hl 4 rfl) ?_
  obtain ⟨x1, e_x1, h⟩ := lt_o h
  have hJ12 : ∀ (x1' : Int32) (ls : Array Slot), x1 = x1' → lv_has ls 16 [(0, .int a0), (1, .long a1), (3, .int a2), (4, .int a3), (5, .int a4)] → W p l e ({ frames := 2, cells := 0, slots := 0, locals := 42 } : Room) s m args below meth c s.heap [] 0 0 Q (F0 m 12 ls [.int x1']) := by
    intro x1' ls q_x1 hl
    subst q_x1
    refine lv_istore hx hb d_Md_round_12 hl (by decide) rfl (fun ls hl => ?_)
    have hl : lv_has ls 16 [(6, .int x1), (0, .int a0), (1, .long a1), (3, .int a2), (4, .int a3), (5, .int a4)] := hl
    refine lv_iload hx hb d_Md_round_14 (lv_at hl 5 rfl) ?_
    obtain ⟨x2, e_x2, h⟩ := lt_o h
    have hJ28 : ∀ (x2' : Int32) (ls : Array Slot), x2 = x2' → lv_has ls 16 [(0, .int a0), (1, .long a1), (3, .int a2), (4, .int a3), (5, .int a4), (6, .int x1)] → W p l e ({ frames := 2, cells := 0, slots := 0, locals := 42 } : Room) s m args below meth c s.heap [] 0 0 Q (F0 m 28 ls [.int x2']) := by
      intro x2' ls q_x2 hl
      subst q_x2
      refine lv_istore hx hb d_Md_round_28 hl (by decide) rfl (fun ls hl => ?_)
      have hl : lv_has ls 16 [(7, .int x2), (0, .int a0), (1, .long a1), (3, .int a2), (4, .int a3), (5, .int a4), (6, .int x1)] := hl
      refine lv_lload_n hx hb d_Md_round_30 rfl (lv_at hl 2 rfl) ?_
      obtain ⟨x3, e_x3, h⟩ := bd_o h
      refine q_S (As := [.long a1]) (rest := []) (n := 1) hx hb hml hown hts (c_Md_length l n a1 _ e_x3) rfl rfl m_128 m_129 m_130 m_127 (by decide +kernel) ⟨Nat.le_of_ble_eq_true rfl, Nat.le_of_ble_eq_true rfl⟩ (p0_bl) (fun U hU hW => p0_mv hU hW hNB) rfl hl.1 rfl (Nat.le_of_ble_eq_true rfl) d_Md_round_31 ⟨Nat.zero_le _, Nat.zero_le _⟩ ?_
      refine lv_iload hx hb d_Md_round_34 (lv_at hl 6 rfl) ?_
      refine lv_isub hx hb d_Md_round_36 ?_
      refine lv_iload hx hb d_Md_round_37 (lv_at hl 0 rfl) ?_
      refine lv_iload_n hx hb d_Md_round_39 rfl (lv_at hl 3 rfl) ?_
      refine lv_isub hx hb d_Md_round_40 ?_
      refine va_mmax hx hb (hml.trans hl.1.symm) hown (hT _ m_131) (hT _ m_27) (hT _ m_28) (hT _ m_29) (Nat.le_of_ble_eq_true rfl) (Nat.le_of_ble_eq_true rfl) (Nat.zero_le _) (Nat.zero_le _) d_Md_round_41 ?_
      refine lv_topi (fun x4 e_x4 => ?_)
      have h := lt_h e_x4 h
      refine lv_istore hx hb d_Md_round_44 hl (by decide) rfl (fun ls hl => ?_)
      have hl : lv_has ls 16 [(8, .int x4), (7, .int x2), (0, .int a0), (1, .long a1), (3, .int a2), (4, .int a3), (5, .int a4), (6, .int x1)] := hl
      refine lv_lload_n hx hb d_Md_round_46 rfl (lv_at hl 3 rfl) ?_
      refine lv_lstore hx hb d_Md_round_47 hl (by decide) rfl (fun ls hl => ?_)
      have hl : lv_has ls 16 [(9, .long a1), (8, .int x4), (7, .int x2), (0, .int a0), (1, .long a1), (3, .int a2), (4, .int a3), (5, .int a4), (6, .int x1)] := hl
      refine lv_iload hx hb d_Md_round_49 (lv_at hl 1 rfl) ?_
      obtain ⟨j173, e_j173, h⟩ := lt_o h
      have hJ173 : ∀ (y5 : Int64) (ls : Array Slot), lv_has ls 16 [(0, .int a0), (3, .int a2), (5, .int a4), (6, .int x1), (8, .int x4), (9, .long y5)] → j173 y5 = some r → W p l e ({ frames := 2, cells := 0, slots := 0, locals := 42 } : Room) s m args below meth c s.heap [] 0 0 Q (F0 m 173 ls []) := by
        intro y5 ls hl h
        rw [e_j173] at h
        refine lv_iload_n hx hb d_Md_round_173 rfl (lv_at hl 1 rfl) ?_
        refine lv_iload hx hb d_Md_round_174 (lv_at hl 4 rfl) ?_
        refine lv_iadd hx hb d_Md_round_176 ?_
        refine lv_topi (fun x6 e_x6 => ?_)
        have h := lt_h e_x6 h
        refine lv_istore hx hb d_Md_round_177 hl (by decide) rfl (fun ls hl => ?_)
        have hl : lv_has ls 16 [(11, .int x6), (0, .int a0), (3, .int a2), (5, .int a4), (6, .int x1), (8, .int x4), (9, .long y5)] := hl
        refine lv_lload hx hb d_Md_round_179 (lv_at hl 6 rfl) ?_
        obtain ⟨x7, e_x7, h⟩ := bd_o h
        refine q_S (As := [.long y5]) (rest := []) (n := 1) hx hb hml hown hts (c_Md_length l n y5 _ e_x7) rfl rfl m_128 m_129 m_130 m_127 (by decide +kernel) ⟨Nat.le_of_ble_eq_true rfl, Nat.le_of_ble_eq_true rfl⟩ (p0_bl) (fun U hU hW => p0_mv hU hW hNB) rfl hl.1 rfl (Nat.le_of_ble_eq_true rfl) d_Md_round_181 ⟨Nat.zero_le _, Nat.zero_le _⟩ ?_
        refine lv_iload hx hb d_Md_round_184 (lv_at hl 4 rfl) ?_
        obtain ⟨j198, e_j198, h⟩ := lt_o h
        have hJ198 : ∀ (y8 : Int64) (y9 : Int32) (ls : Array Slot), lv_has ls 16 [(0, .int a0), (5, .int a4), (6, .int x1), (9, .long y8), (11, .int y9)] → j198 y8 y9 = some r → W p l e ({ frames := 2, cells := 0, slots := 0, locals := 42 } : Room) s m args below meth c s.heap [] 0 0 Q (F0 m 198 ls []) := by
          intro y8 y9 ls hl h
          rw [e_j198] at h
          refine lv_lload hx hb d_Md_round_198 (lv_at hl 3 rfl) ?_
          refine lv_lconst hx hb d_Md_round_200 lc_0 ?_
          refine W.lcmp hx hb d_Md_round_201 ?_
          refine lv_if_ne (tgt := 212) hx hb d_Md_round_202 rfl (fun hc => ?_) (fun hc => ?_)
          · have hc := mt (lg_cmp_eq _ _).mpr hc
            have h := ite_t hc h
            refine lv_iload hx hb d_Md_round_212 (lv_at hl 2 rfl) ?_
            refine lv_iconst hx hb d_Md_round_214 ic_1 ?_
            refine lv_isub hx hb d_Md_round_215 ?_
            refine lv_topi (fun x10 e_x10 => ?_)
            have h := lt_h e_x10 h
            refine lv_istore hx hb d_Md_round_216 hl (by decide) rfl (fun ls hl => ?_)
            have hl : lv_has ls 16 [(12, .int x10), (0, .int a0), (5, .int a4), (6, .int x1), (9, .long y8), (11, .int y9)] := hl
            refine lv_lload hx hb d_Md_round_218 (lv_at hl 4 rfl) ?_
            obtain ⟨x11, e_x11, h⟩ := bd_o h
            refine q_S (As := [.long y8]) (rest := []) (n := 1) hx hb hml hown hts (c_Md_length l n y8 _ e_x11) rfl rfl m_128 m_129 m_130 m_127 (by decide +kernel) ⟨Nat.le_of_ble_eq_true rfl, Nat.le_of_ble_eq_true rfl⟩ (p0_bl) (fun U hU hW => p0_mv hU hW hNB) rfl hl.1 rfl (Nat.le_of_ble_eq_true rfl) d_Md_round_220 ⟨Nat.zero_le _, Nat.zero_le _⟩ ?_
            refine lv_iload hx hb d_Md_round_223 (lv_at hl 3 rfl) ?_
            refine lv_icmp_ge (tgt := 238) hx hb d_Md_round_225 rfl (fun hc => ?_) (fun hc => ?_)
            · have h := ite_t hc h
              refine lv_iload hx hb d_Md_round_238 (lv_at hl 5 rfl) ?_
              refine lv_iload hx hb d_Md_round_240 (lv_at hl 2 rfl) ?_
              obtain ⟨x12, e_x12, h⟩ := lt_o h
              have hJ254 : ∀ (x12' : Int32) (ls : Array Slot), x12 = x12' → lv_has ls 16 [(0, .int a0), (5, .int a4), (9, .long y8), (12, .int x10)] → W p l e ({ frames := 2, cells := 0, slots := 0, locals := 42 } : Room) s m args below meth c s.heap [] 0 0 Q (F0 m 254 ls [.int x12', .int y9]) := by
                intro x12' ls q_x12 hl
                subst q_x12
                refine lv_iadd hx hb d_Md_round_254 ?_
                refine lv_topi (fun x13 e_x13 => ?_)
                have h := lt_h e_x13 h
                refine lv_istore hx hb d_Md_round_255 hl (by decide) rfl (fun ls hl => ?_)
                have hl : lv_has ls 16 [(13, .int x13), (0, .int a0), (5, .int a4), (9, .long y8), (12, .int x10)] := hl
                refine lv_iload hx hb d_Md_round_257 (lv_at hl 0 rfl) ?_
                refine lv_iload hx hb d_Md_round_259 (lv_at hl 2 rfl) ?_
                obtain ⟨x14, e_x14, h⟩ := lt_o h
                have hJ273 : ∀ (x14' : Int32) (ls : Array Slot), x14 = x14' → lv_has ls 16 [(0, .int a0), (5, .int a4), (9, .long y8), (12, .int x10), (13, .int x13)] → W p l e ({ frames := 2, cells := 0, slots := 0, locals := 42 } : Room) s m args below meth c s.heap [] 0 0 Q (F0 m 273 ls [.int x14', .int x13]) := by
                  intro x14' ls q_x14 hl
                  subst q_x14
                  refine lv_icmp_lt (tgt := 283) hx hb d_Md_round_273 rfl (fun hc => ?_) (fun hc => ?_)
                  · have h := ite_t hc h
                    refine lv_lload hx hb d_Md_round_283 (lv_at hl 2 rfl) ?_
                    refine lv_lconst hx hb d_Md_round_285 lc_1 ?_
                    refine lv_iload hx hb d_Md_round_286 (lv_at hl 3 rfl) ?_
                    refine lv_lshl hx hb d_Md_round_288 rfl ?_
                    refine lv_lconst hx hb d_Md_round_289 lc_1 ?_
                    refine lv_lsub hx hb d_Md_round_290 ?_
                    refine lv_land hx hb d_Md_round_291 ?_
                    refine lv_iload hx hb d_Md_round_292 (lv_at hl 4 rfl) ?_
                    refine lv_i2l hx hb d_Md_round_294 rfl ?_
                    refine lv_iload hx hb d_Md_round_295 (lv_at hl 3 rfl) ?_
                    refine lv_lshl hx hb d_Md_round_297 rfl ?_
                    refine lv_lor hx hb d_Md_round_298 ?_
                    refine lv_iload_n hx hb d_Md_round_299 rfl (lv_at hl 0 rfl) ?_
                    refine lv_iload hx hb d_Md_round_300 (lv_at hl 1 rfl) ?_
                    refine q_S (As := [.int a0, .int a4]) (rest := [.long ((y8 &&& (((1 : Int64) <<< ((x10).toInt64 &&& 63)) - (1 : Int64))) ||| (((x13).toInt64) <<< ((x10).toInt64 &&& 63)))]) (n := 2) hx hb hml hown hts (c_Md_sign l a0 a4) rfl rfl m_124 m_125 m_126 m_127 (by decide +kernel) ⟨Nat.le_of_ble_eq_true rfl, Nat.le_of_ble_eq_true rfl⟩ (p0_bl) (fun U hU hW => p0_mv hU hW hNB) rfl hl.1 rfl (Nat.le_of_ble_eq_true rfl) d_Md_round_302 ⟨Nat.zero_le _, Nat.zero_le _⟩ ?_
                    refine lv_lor hx hb d_Md_round_305 ?_
                    exact hret 306 ls _ (Option.some.inj h) d_Md_round_306
                  · have h := ite_f hc h
                    refine lv_iload_n hx hb d_Md_round_276 rfl (lv_at hl 0 rfl) ?_
                    refine lv_iload hx hb d_Md_round_277 (lv_at hl 1 rfl) ?_
                    refine q_S (As := [.int a0, .int a4]) (rest := []) (n := 2) hx hb hml hown hts (c_Md_far l a0 a4) rfl rfl m_132 m_133 m_134 m_127 (by decide +kernel) ⟨Nat.le_of_ble_eq_true rfl, Nat.le_of_ble_eq_true rfl⟩ (p0_bl) (fun U hU hW => p0_mv hU hW hNB) rfl hl.1 rfl (Nat.le_of_ble_eq_true rfl) d_Md_round_279 ⟨Nat.zero_le _, Nat.zero_le _⟩ ?_
                    exact hret 282 ls _ (Option.some.inj h) d_Md_round_282
                refine lv_if_eq (tgt := 270) hx hb d_Md_round_261 rfl (fun hc => ?_) (fun hc => ?_)
                · have e_x14 := e_x14.trans (if_pos hc)
                  refine lv_sipush hx hb d_Md_round_270 sp_2047 ?_
                  exact hJ273 _ ls e_x14 (lv_sub hl [1, 2, 3, 4, 0] rfl)
                · have e_x14 := e_x14.trans (if_neg hc)
                  refine lv_sipush hx hb d_Md_round_264 sp_255 ?_
                  refine lv_goto (tgt := 273) hx hb d_Md_round_267 rfl ?_
                  exact hJ273 _ ls e_x14 (lv_sub hl [1, 2, 3, 4, 0] rfl)
              refine lv_if_eq (tgt := 251) hx hb d_Md_round_242 rfl (fun hc => ?_) (fun hc => ?_)
              · have e_x12 := e_x12.trans (if_pos hc)
                refine lv_sipush hx hb d_Md_round_251 sp_1075 ?_
                exact hJ254 _ ls e_x12 (lv_sub hl [1, 2, 4, 0] rfl)
              · have e_x12 := e_x12.trans (if_neg hc)
                refine lv_sipush hx hb d_Md_round_245 sp_150 ?_
                refine lv_goto (tgt := 254) hx hb d_Md_round_248 rfl ?_
                exact hJ254 _ ls e_x12 (lv_sub hl [1, 2, 4, 0] rfl)
            · have h := ite_f hc h
              refine lv_lload hx hb d_Md_round_228 (lv_at hl 4 rfl) ?_
              refine lv_iload_n hx hb d_Md_round_230 rfl (lv_at hl 1 rfl) ?_
              refine lv_iload hx hb d_Md_round_231 (lv_at hl 2 rfl) ?_
              refine q_S (As := [.int a0, .int a4]) (rest := [.long y8]) (n := 2) hx hb hml hown hts (c_Md_sign l a0 a4) rfl rfl m_124 m_125 m_126 m_127 (by decide +kernel) ⟨Nat.le_of_ble_eq_true rfl, Nat.le_of_ble_eq_true rfl⟩ (p0_bl) (fun U hU hW => p0_mv hU hW hNB) rfl hl.1 rfl (Nat.le_of_ble_eq_true rfl) d_Md_round_233 ⟨Nat.zero_le _, Nat.zero_le _⟩ ?_
              refine lv_lor hx hb d_Md_round_236 ?_
              exact hret 237 ls _ (Option.some.inj h) d_Md_round_237
          · have hc := not_not_intro ((lg_cmp_eq _ _).mp hc)
            have h := ite_f hc h
            refine lv_iload_n hx hb d_Md_round_205 rfl (lv_at hl 0 rfl) ?_
            refine lv_iload hx hb d_Md_round_206 (lv_at hl 1 rfl) ?_
            refine q_S (As := [.int a0, .int a4]) (rest := []) (n := 2) hx hb hml hown hts (c_Md_sign l a0 a4) rfl rfl m_124 m_125 m_126 m_127 (by decide +kernel) ⟨Nat.le_of_ble_eq_true rfl, Nat.le_of_ble_eq_true rfl⟩ (p0_bl) (fun U hU hW => p0_mv hU hW hNB) rfl hl.1 rfl (Nat.le_of_ble_eq_true rfl) d_Md_round_208 ⟨Nat.zero_le _, Nat.zero_le _⟩ ?_
            exact hret 211 ls _ (Option.some.inj h) d_Md_round_211
        refine lv_icmp_le (tgt := 198) hx hb d_Md_round_186 rfl (fun hc => ?_) (fun hc => ?_)
        · have h := ite_t hc h
          exact hJ198 _ _ ls (lv_sub hl [1, 3, 4, 6, 0] rfl) h
        · have h := ite_f hc h
          refine lv_lload hx hb d_Md_round_189 (lv_at hl 6 rfl) ?_
          refine lv_iconst hx hb d_Md_round_191 ic_1 ?_
          refine lv_lushr hx hb d_Md_round_192 rfl ?_
          refine lv_topl (fun x15 e_x15 => ?_)
          have h := lt_h e_x15 h
          refine lv_lstore hx hb d_Md_round_193 hl (by decide) rfl (fun ls hl => ?_)
          have hl : lv_has ls 16 [(9, .long x15), (11, .int x6), (0, .int a0), (3, .int a2), (5, .int a4), (6, .int x1), (8, .int x4)] := hl
          obtain ⟨x16, e_x16⟩ : ∃ z, z = x6 + Int32.ofInt 1 := ⟨_, rfl⟩
          have h := lt_h e_x16 h
          refine lv_iinc (k := 1) hx hb d_Md_round_195 hl rfl e_x16.symm (by decide) rfl (fun ls hl => ?_)
          have hl : lv_has ls 16 [(11, .int x16), (9, .long x15), (0, .int a0), (3, .int a2), (5, .int a4), (6, .int x1), (8, .int x4)] := hl
          exact hJ198 _ _ ls (lv_sub hl [2, 4, 5, 1, 0] rfl) h
      refine lv_if_gt (tgt := 64) hx hb d_Md_round_51 rfl (fun hc => ?_) (fun hc => ?_)
      · have h := ite_t hc h
        refine lv_iload hx hb d_Md_round_64 (lv_at hl 1 rfl) ?_
        refine lv_bipush hx hb d_Md_round_66 bp_64 ?_
        refine lv_icmp_le (tgt := 77) hx hb d_Md_round_68 rfl (fun hc => ?_) (fun hc => ?_)
        · have h := ite_t hc h
          refine lv_iload hx hb d_Md_round_77 (lv_at hl 1 rfl) ?_
          refine lv_bipush hx hb d_Md_round_79 bp_64 ?_
          obtain ⟨x17, e_x17, h⟩ := lt_o h
          have hJ94 : ∀ (x17' : Int64) (ls : Array Slot), x17 = x17' → lv_has ls 16 [(0, .int a0), (1, .long a1), (3, .int a2), (4, .int a3), (5, .int a4), (6, .int x1), (8, .int x4)] → W p l e ({ frames := 2, cells := 0, slots := 0, locals := 42 } : Room) s m args below meth c s.heap [] 0 0 Q (F0 m 94 ls [.long x17']) := by
            intro x17' ls q_x17 hl
            subst q_x17
            refine lv_lstore hx hb d_Md_round_94 hl (by decide) rfl (fun ls hl => ?_)
            have hl : lv_has ls 16 [(11, .long x17), (0, .int a0), (1, .long a1), (3, .int a2), (4, .int a3), (5, .int a4), (6, .int x1), (8, .int x4)] := hl
            refine lv_iload hx hb d_Md_round_96 (lv_at hl 7 rfl) ?_
            refine lv_bipush hx hb d_Md_round_98 bp_64 ?_
            obtain ⟨x18, e_x18, h⟩ := lt_o h
            have hJ117 : ∀ (x18' : Int64) (ls : Array Slot), x18 = x18' → lv_has ls 16 [(0, .int a0), (3, .int a2), (4, .int a3), (5, .int a4), (6, .int x1), (8, .int x4), (11, .long x17)] → W p l e ({ frames := 2, cells := 0, slots := 0, locals := 42 } : Room) s m args below meth c s.heap [] 0 0 Q (F0 m 117 ls [.long x18']) := by
              intro x18' ls q_x18 hl
              subst q_x18
              refine lv_lstore hx hb d_Md_round_117 hl (by decide) rfl (fun ls hl => ?_)
              have hl : lv_has ls 16 [(13, .long x18), (0, .int a0), (3, .int a2), (4, .int a3), (5, .int a4), (6, .int x1), (8, .int x4), (11, .long x17)] := hl
              refine lv_lload hx hb d_Md_round_119 (lv_at hl 0 rfl) ?_
              refine lv_lconst hx hb d_Md_round_121 lc_0 ?_
              refine W.lcmp hx hb d_Md_round_122 ?_
              obtain ⟨x19, e_x19, h⟩ := lt_o h
              have hJ136 : ∀ (x19' : Int32) (ls : Array Slot), x19 = x19' → lv_has ls 16 [(0, .int a0), (3, .int a2), (5, .int a4), (6, .int x1), (8, .int x4), (11, .long x17)] → W p l e ({ frames := 2, cells := 0, slots := 0, locals := 42 } : Room) s m args below meth c s.heap [] 0 0 Q (F0 m 136 ls [.int x19']) := by
                intro x19' ls q_x19 hl
                subst q_x19
                refine lv_istore hx hb d_Md_round_136 hl (by decide) rfl (fun ls hl => ?_)
                have hl : lv_has ls 16 [(15, .int x19), (0, .int a0), (3, .int a2), (5, .int a4), (6, .int x1), (8, .int x4), (11, .long x17)] := hl
                refine lv_lload hx hb d_Md_round_138 (lv_at hl 6 rfl) ?_
                refine lv_iconst hx hb d_Md_round_140 ic_1 ?_
                refine lv_lushr hx hb d_Md_round_141 rfl ?_
                refine lv_topl (fun x20 e_x20 => ?_)
                have h := lt_h e_x20 h
                refine lv_lstore hx hb d_Md_round_142 hl (by decide) rfl (fun ls hl => ?_)
                have hl : lv_has ls 16 [(9, .long x20), (15, .int x19), (0, .int a0), (3, .int a2), (5, .int a4), (6, .int x1), (8, .int x4), (11, .long x17)] := hl
                refine lv_lload hx hb d_Md_round_144 (lv_at hl 7 rfl) ?_
                refine lv_lconst hx hb d_Md_round_146 lc_1 ?_
                refine lv_land hx hb d_Md_round_147 ?_
                refine lv_lconst hx hb d_Md_round_148 lc_1 ?_
                refine W.lcmp hx hb d_Md_round_149 ?_
                refine lv_if_ne (tgt := 173) hx hb d_Md_round_150 rfl (fun hc => ?_) (fun hc => ?_)
                · have hc := mt (lg_cmp_eq _ _).mpr hc
                  have h := ite_t hc h
                  exact hJ173 _ ls (lv_sub hl [2, 3, 4, 5, 6, 0] rfl) h
                · have hc := not_not_intro ((lg_cmp_eq _ _).mp hc)
                  have h := ite_f hc h
                  refine lv_iload hx hb d_Md_round_153 (lv_at hl 1 rfl) ?_
                  obtain ⟨j167, e_j167, h⟩ := lt_o h
                  have hJ167 : ∀ (ls : Array Slot), lv_has ls 16 [(0, .int a0), (3, .int a2), (5, .int a4), (6, .int x1), (8, .int x4), (9, .long x20)] → j167 () = some r → W p l e ({ frames := 2, cells := 0, slots := 0, locals := 42 } : Room) s m args below meth c s.heap [] 0 0 Q (F0 m 167 ls []) := by
                    intro  ls hl h
                    rw [e_j167] at h
                    refine lv_lload hx hb d_Md_round_167 (lv_at hl 5 rfl) ?_
                    refine lv_lconst hx hb d_Md_round_169 lc_1 ?_
                    refine lv_ladd hx hb d_Md_round_170 ?_
                    refine lv_topl (fun x21 e_x21 => ?_)
                    have h := lt_h e_x21 h
                    refine lv_lstore hx hb d_Md_round_171 hl (by decide) rfl (fun ls hl => ?_)
                    have hl : lv_has ls 16 [(9, .long x21), (0, .int a0), (3, .int a2), (5, .int a4), (6, .int x1), (8, .int x4)] := hl
                    exact hJ173 _ ls (lv_sub hl [1, 2, 3, 4, 5, 0] rfl) h
                  refine lv_if_ne (tgt := 167) hx hb d_Md_round_155 rfl (fun hc => ?_) (fun hc => ?_)
                  · have h := ite_t hc h
                    exact hJ167 ls (lv_sub hl [2, 3, 4, 5, 6, 0] rfl) h
                  · have hc := not_not_intro hc
                    have h := ite_f hc h
                    refine lv_lload hx hb d_Md_round_158 (lv_at hl 0 rfl) ?_
                    refine lv_lconst hx hb d_Md_round_160 lc_1 ?_
                    refine lv_land hx hb d_Md_round_161 ?_
                    refine lv_lconst hx hb d_Md_round_162 lc_1 ?_
                    refine W.lcmp hx hb d_Md_round_163 ?_
                    refine lv_if_ne (tgt := 173) hx hb d_Md_round_164 rfl (fun hc => ?_) (fun hc => ?_)
                    · have hc := mt (lg_cmp_eq _ _).mpr hc
                      have h := ite_t hc h
                      exact hJ173 _ ls (lv_sub hl [2, 3, 4, 5, 6, 0] rfl) h
                    · have hc := not_not_intro ((lg_cmp_eq _ _).mp hc)
                      have h := ite_f hc h
                      exact hJ167 ls (lv_sub hl [2, 3, 4, 5, 6, 0] rfl) h
              refine lv_if_ne (tgt := 131) hx hb d_Md_round_123 rfl (fun hc => ?_) (fun hc => ?_)
              · have hc := mt (lg_cmp_eq _ _).mpr hc
                have e_x19 := e_x19.trans (if_pos hc)
                refine lv_iconst hx hb d_Md_round_131 ic_1 ?_
                refine lv_goto (tgt := 136) hx hb d_Md_round_132 rfl ?_
                exact hJ136 _ ls e_x19 (lv_sub hl [1, 2, 4, 5, 6, 7] rfl)
              · have hc := not_not_intro ((lg_cmp_eq _ _).mp hc)
                have e_x19 := e_x19.trans (if_neg hc)
                refine lv_iload hx hb d_Md_round_126 (lv_at hl 3 rfl) ?_
                refine lv_if_eq (tgt := 135) hx hb d_Md_round_128 rfl (fun hc => ?_) (fun hc => ?_)
                · have e_x19 := e_x19.trans (if_pos hc)
                  refine lv_iconst hx hb d_Md_round_135 ic_0 ?_
                  exact hJ136 _ ls e_x19 (lv_sub hl [1, 2, 4, 5, 6, 7] rfl)
                · have e_x19 := e_x19.trans (if_neg hc)
                  refine lv_iconst hx hb d_Md_round_131 ic_1 ?_
                  refine lv_goto (tgt := 136) hx hb d_Md_round_132 rfl ?_
                  exact hJ136 _ ls e_x19 (lv_sub hl [1, 2, 4, 5, 6, 7] rfl)
            refine lv_icmp_ne (tgt := 107) hx hb d_Md_round_100 rfl (fun hc => ?_) (fun hc => ?_)
            · have e_x18 := e_x18.trans (if_pos hc)
              refine lv_lload_n hx hb d_Md_round_107 rfl (lv_at hl 2 rfl) ?_
              refine lv_lconst hx hb d_Md_round_108 lc_1 ?_
              refine lv_iload hx hb d_Md_round_109 (lv_at hl 7 rfl) ?_
              refine lv_iconst hx hb d_Md_round_111 ic_1 ?_
              refine lv_isub hx hb d_Md_round_112 ?_
              refine lv_lshl hx hb d_Md_round_113 rfl ?_
              refine lv_lconst hx hb d_Md_round_114 lc_1 ?_
              refine lv_lsub hx hb d_Md_round_115 ?_
              refine lv_land hx hb d_Md_round_116 ?_
              exact hJ117 _ ls e_x18 (lv_sub hl [1, 3, 4, 5, 6, 7, 0] rfl)
            · have hc := not_not_intro hc
              have e_x18 := e_x18.trans (if_neg hc)
              refine lv_lload_n hx hb d_Md_round_103 rfl (lv_at hl 2 rfl) ?_
              refine lv_goto (tgt := 117) hx hb d_Md_round_104 rfl ?_
              exact hJ117 _ ls e_x18 (lv_sub hl [1, 3, 4, 5, 6, 7, 0] rfl)
          refine lv_icmp_ne (tgt := 88) hx hb d_Md_round_81 rfl (fun hc => ?_) (fun hc => ?_)
          · have e_x17 := e_x17.trans (if_pos hc)
            refine lv_lload_n hx hb d_Md_round_88 rfl (lv_at hl 4 rfl) ?_
            refine lv_iload hx hb d_Md_round_89 (lv_at hl 1 rfl) ?_
            refine lv_iconst hx hb d_Md_round_91 ic_1 ?_
            refine lv_isub hx hb d_Md_round_92 ?_
            refine lv_lushr hx hb d_Md_round_93 rfl ?_
            exact hJ94 _ ls e_x17 (lv_sub hl [3, 4, 5, 6, 7, 8, 1] rfl)
          · have hc := not_not_intro hc
            have e_x17 := e_x17.trans (if_neg hc)
            refine lv_lconst hx hb d_Md_round_84 lc_0 ?_
            refine lv_goto (tgt := 94) hx hb d_Md_round_85 rfl ?_
            exact hJ94 _ ls e_x17 (lv_sub hl [3, 4, 5, 6, 7, 8, 1] rfl)
        · have h := ite_f hc h
          refine lv_lconst hx hb d_Md_round_71 lc_0 ?_
          refine lv_lstore hx hb d_Md_round_72 hl (by decide) rfl (fun ls hl => ?_)
          have hl : lv_has ls 16 [(9, .long (0 : Int64)), (8, .int x4), (7, .int x2), (0, .int a0), (1, .long a1), (3, .int a2), (4, .int a3), (5, .int a4), (6, .int x1)] := hl
          refine lv_goto (tgt := 173) hx hb d_Md_round_74 rfl ?_
          exact hJ173 _ ls (lv_sub hl [3, 5, 7, 8, 1, 0] rfl) h
      · have h := ite_f hc h
        refine lv_lload_n hx hb d_Md_round_54 rfl (lv_at hl 4 rfl) ?_
        refine lv_iload hx hb d_Md_round_55 (lv_at hl 1 rfl) ?_
        refine lv_ineg hx hb d_Md_round_57 ?_
        refine lv_lshl hx hb d_Md_round_58 rfl ?_
        refine lv_topl (fun x22 e_x22 => ?_)
        have h := lt_h e_x22 h
        refine lv_lstore hx hb d_Md_round_59 hl (by decide) rfl (fun ls hl => ?_)
        have hl : lv_has ls 16 [(9, .long x22), (8, .int x4), (7, .int x2), (0, .int a0), (1, .long a1), (3, .int a2), (4, .int a3), (5, .int a4), (6, .int x1)] := hl
        refine lv_goto (tgt := 173) hx hb d_Md_round_61 rfl ?_
        exact hJ173 _ ls (lv_sub hl [3, 5, 7, 8, 1, 0] rfl) h
    refine lv_if_eq (tgt := 25) hx hb d_Md_round_16 rfl (fun hc => ?_) (fun hc => ?_)
    · have e_x2 := e_x2.trans (if_pos hc)
      refine lv_sipush hx hb d_Md_round_25 sp_m1074 ?_
      exact hJ28 _ ls e_x2 (lv_sub hl [1, 2, 3, 4, 5, 0] rfl)
    · have e_x2 := e_x2.trans (if_neg hc)
      refine lv_sipush hx hb d_Md_round_19 sp_m149 ?_
      refine lv_goto (tgt := 28) hx hb d_Md_round_22 rfl ?_
      exact hJ28 _ ls e_x2 (lv_sub hl [1, 2, 3, 4, 5, 0] rfl)
  refine lv_if_eq (tgt := 10) hx hb d_Md_round_2 rfl (fun hc => ?_) (fun hc => ?_)
  · have e_x1 := e_x1.trans (if_pos hc)
    refine lv_bipush hx hb d_Md_round_10 bp_53 ?_
    exact hJ12 _ ls e_x1 (lv_sub hl [0, 1, 2, 3, 4] rfl)
  · have e_x1 := e_x1.trans (if_neg hc)
    refine lv_bipush hx hb d_Md_round_5 bp_24 ?_
    refine lv_goto (tgt := 12) hx hb d_Md_round_7 rfl ?_
    exact hJ12 _ ls e_x1 (lv_sub hl [0, 1, 2, 3, 4] rfl)
-- Md_cut
theorem d_Md_cut_0 : decode b_Md_cut 0 = .ok (.iload_n 2, 1) := by decide +kernel
theorem d_Md_cut_1 : decode b_Md_cut 1 = .ok (.tableswitch 51 0 3 #[31, 37, 42, 47], 31) := by decide +kernel
theorem d_Md_cut_32 : decode b_Md_cut 32 = .ok (.lload_n 0, 1) := by decide +kernel
theorem d_Md_cut_33 : decode b_Md_cut 33 = .ok (.ldc2_w 117, 3) := by decide +kernel
theorem d_Md_cut_36 : decode b_Md_cut 36 = .ok (.land, 1) := by decide +kernel
theorem d_Md_cut_37 : decode b_Md_cut 37 = .ok (.lreturn, 1) := by decide +kernel
theorem d_Md_cut_38 : decode b_Md_cut 38 = .ok (.lload_n 0, 1) := by decide +kernel
theorem d_Md_cut_39 : decode b_Md_cut 39 = .ok (.l2i, 1) := by decide +kernel
theorem d_Md_cut_40 : decode b_Md_cut 40 = .ok (.i2b, 1) := by decide +kernel
theorem d_Md_cut_41 : decode b_Md_cut 41 = .ok (.i2l, 1) := by decide +kernel
theorem d_Md_cut_42 : decode b_Md_cut 42 = .ok (.lreturn, 1) := by decide +kernel
theorem d_Md_cut_43 : decode b_Md_cut 43 = .ok (.lload_n 0, 1) := by decide +kernel
theorem d_Md_cut_44 : decode b_Md_cut 44 = .ok (.l2i, 1) := by decide +kernel
theorem d_Md_cut_45 : decode b_Md_cut 45 = .ok (.i2s, 1) := by decide +kernel
theorem d_Md_cut_46 : decode b_Md_cut 46 = .ok (.i2l, 1) := by decide +kernel
theorem d_Md_cut_47 : decode b_Md_cut 47 = .ok (.lreturn, 1) := by decide +kernel
theorem d_Md_cut_48 : decode b_Md_cut 48 = .ok (.lload_n 0, 1) := by decide +kernel
theorem d_Md_cut_49 : decode b_Md_cut 49 = .ok (.l2i, 1) := by decide +kernel
theorem d_Md_cut_50 : decode b_Md_cut 50 = .ok (.i2l, 1) := by decide +kernel
theorem d_Md_cut_51 : decode b_Md_cut 51 = .ok (.lreturn, 1) := by decide +kernel
theorem d_Md_cut_52 : decode b_Md_cut 52 = .ok (.lload_n 0, 1) := by decide +kernel
theorem d_Md_cut_53 : decode b_Md_cut 53 = .ok (.lreturn, 1) := by decide +kernel
def F_Md_cut (a0 : Int64) (a1 : Int32) : Int64 := if a1 = (0 : Int32) then (a0 &&& (65535 : Int64)) else if a1 = (1 : Int32) then ((((a0).toInt32).toInt8.toInt32).toInt64) else if a1 = (2 : Int32) then ((((a0).toInt32).toInt16.toInt32).toInt64) else if a1 = (3 : Int32) then (((a0).toInt32).toInt64) else a0
set_option maxHeartbeats 4000000 in
set_option maxRecDepth 100000 in
theorem c_Md_cut (l : Launch) (a0 : Int64) (a1 : Int32) : Met l y_Md_cut (.code y_Md_cut b_Md_cut 3 (some .long) :: BIG) ({ frames := 0, cells := 0, slots := 0, locals := 0 } : Room) (va_Pc [.long a0, .int a1] (pre0)) (pQ (.long (F_Md_cut a0 a1))) 0 0 (fun _ => False) := by
  refine pOpen_l rfl (Nat.le_of_ble_eq_true rfl) ?_
  intro p e s m args below meth c Q ls hx hb hml hown hts hT hp hl hret
  have hNB := hp
  have hown : s.vm.findClass R_Md = some m.cls := hown
  have hl : lv_has ls 3 [(0, .long a0), (2, .int a1)] := hl
  obtain ⟨r, h⟩ : ∃ r, F_Md_cut a0 a1 = r := ⟨_, rfl⟩
  rw [h] at hret
  have h : (if a1 = (0 : Int32) then (a0 &&& (65535 : Int64)) else if a1 = (1 : Int32) then ((((a0).toInt32).toInt8.toInt32).toInt64) else if a1 = (2 : Int32) then ((((a0).toInt32).toInt16.toInt32).toInt64) else if a1 = (3 : Int32) then (((a0).toInt32).toInt64) else a0) = r := h
  refine lv_iload_n hx hb d_Md_cut_0 rfl (lv_at hl 1 rfl) ?_
  by_cases hc0 : a1 = (0 : Int32)
  · have h := ite_t hc0 h
    refine lv_tableIn (off := 31) (tgt := 32) hx hb d_Md_cut_1 (by rw [hc0]; decide) (by rw [hc0]; decide) (by rw [hc0]; rfl) rfl ?_
    refine lv_lload_n hx hb d_Md_cut_32 rfl (lv_at hl 0 rfl) ?_
    refine lv_ldc2 hx hb hown (hT _ m_135) d_Md_cut_33 ?_
    refine lv_land hx hb d_Md_cut_36 ?_
    exact hret 37 ls _ h d_Md_cut_37
  have h := ite_f hc0 h
  by_cases hc1 : a1 = (1 : Int32)
  · have h := ite_t hc1 h
    refine lv_tableIn (off := 37) (tgt := 38) hx hb d_Md_cut_1 (by rw [hc1]; decide) (by rw [hc1]; decide) (by rw [hc1]; rfl) rfl ?_
    refine lv_lload_n hx hb d_Md_cut_38 rfl (lv_at hl 0 rfl) ?_
    refine lv_l2i hx hb d_Md_cut_39 rfl ?_
    refine lv_i2b hx hb d_Md_cut_40 rfl ?_
    refine lv_i2l hx hb d_Md_cut_41 rfl ?_
    exact hret 42 ls _ h d_Md_cut_42
  have h := ite_f hc1 h
  by_cases hc2 : a1 = (2 : Int32)
  · have h := ite_t hc2 h
    refine lv_tableIn (off := 42) (tgt := 43) hx hb d_Md_cut_1 (by rw [hc2]; decide) (by rw [hc2]; decide) (by rw [hc2]; rfl) rfl ?_
    refine lv_lload_n hx hb d_Md_cut_43 rfl (lv_at hl 0 rfl) ?_
    refine lv_l2i hx hb d_Md_cut_44 rfl ?_
    refine lv_i2s hx hb d_Md_cut_45 rfl ?_
    refine lv_i2l hx hb d_Md_cut_46 rfl ?_
    exact hret 47 ls _ h d_Md_cut_47
  have h := ite_f hc2 h
  by_cases hc3 : a1 = (3 : Int32)
  · have h := ite_t hc3 h
    refine lv_tableIn (off := 47) (tgt := 48) hx hb d_Md_cut_1 (by rw [hc3]; decide) (by rw [hc3]; decide) (by rw [hc3]; rfl) rfl ?_
    refine lv_lload_n hx hb d_Md_cut_48 rfl (lv_at hl 0 rfl) ?_
    refine lv_l2i hx hb d_Md_cut_49 rfl ?_
    refine lv_i2l hx hb d_Md_cut_50 rfl ?_
    exact hret 51 ls _ h d_Md_cut_51
  have h := ite_f hc3 h
  refine lv_tableOut (tgt := 52) hx hb d_Md_cut_1 (by have n0 := lv_neT hc0 (show ((0 : Int32)).toInt = 0 from rfl); have n1 := lv_neT hc1 (show ((1 : Int32)).toInt = 1 from rfl); have n2 := lv_neT hc2 (show ((2 : Int32)).toInt = 2 from rfl); have n3 := lv_neT hc3 (show ((3 : Int32)).toInt = 3 from rfl); omega) rfl ?_
  refine lv_lload_n hx hb d_Md_cut_52 rfl (lv_at hl 0 rfl) ?_
  exact hret 53 ls _ h d_Md_cut_53
-- Rs_in
theorem d_Rs_in_0 : decode b_Rs_in 0 = .ok (.iload_n 0, 1) := by decide +kernel
theorem d_Rs_in_1 : decode b_Rs_in 1 = .ok (.iload_n 1, 1) := by decide +kernel
theorem d_Rs_in_2 : decode b_Rs_in 2 = .ok (.if_icmp .lt 12, 3) := by decide +kernel
theorem d_Rs_in_5 : decode b_Rs_in 5 = .ok (.iload_n 0, 1) := by decide +kernel
theorem d_Rs_in_6 : decode b_Rs_in 6 = .ok (.iload_n 2, 1) := by decide +kernel
theorem d_Rs_in_7 : decode b_Rs_in 7 = .ok (.if_icmp .gt 7, 3) := by decide +kernel
theorem d_Rs_in_10 : decode b_Rs_in 10 = .ok (.iconst 1, 1) := by decide +kernel
theorem d_Rs_in_11 : decode b_Rs_in 11 = .ok (.goto 4, 3) := by decide +kernel
theorem d_Rs_in_14 : decode b_Rs_in 14 = .ok (.iconst 0, 1) := by decide +kernel
theorem d_Rs_in_15 : decode b_Rs_in 15 = .ok (.ireturn, 1) := by decide +kernel
def F_Rs_in (a0 : Int32) (a1 : Int32) (a2 : Int32) : Int32 := lt_ (if a0 < a1 then (0 : Int32) else if a2 < a0 then (0 : Int32) else (1 : Int32)) fun x1 => x1
set_option maxHeartbeats 4000000 in
set_option maxRecDepth 100000 in
theorem c_Rs_in (l : Launch) (a0 : Int32) (a1 : Int32) (a2 : Int32) : Met l y_Rs_in (.code y_Rs_in b_Rs_in 3 (some .boolean) :: BIG) ({ frames := 0, cells := 0, slots := 0, locals := 0 } : Room) (va_Pc [.int a0, .int a1, .int a2] (pre0)) (pQ (.int (F_Rs_in a0 a1 a2))) 0 0 (fun _ => False) := by
  refine pOpen_z rfl (Nat.le_of_ble_eq_true rfl) ?_
  intro p e s m args below meth c Q ls hx hb hml hown hts hT hp hl hret
  have hNB := hp
  have hown : s.vm.findClass R_Rs = some m.cls := hown
  have hl : lv_has ls 3 [(0, .int a0), (1, .int a1), (2, .int a2)] := hl
  obtain ⟨r, h⟩ : ∃ r, F_Rs_in a0 a1 a2 = r := ⟨_, rfl⟩
  rw [h] at hret
  have h : (lt_ (if a0 < a1 then (0 : Int32) else if a2 < a0 then (0 : Int32) else (1 : Int32)) fun x1 => x1) = r := h
  refine lv_iload_n hx hb d_Rs_in_0 rfl (lv_at hl 0 rfl) ?_
  refine lv_iload_n hx hb d_Rs_in_1 rfl (lv_at hl 1 rfl) ?_
  obtain ⟨x1, e_x1, h⟩ := lt_o h
  have hJ15 : ∀ (x1' : Int32) (ls : Array Slot), x1 = x1' → lv_has ls 3 [] → W p l e ({ frames := 0, cells := 0, slots := 0, locals := 0 } : Room) s m args below meth c s.heap [] 0 0 Q (F0 m 15 ls [.int x1']) := by
    intro x1' ls q_x1 hl
    subst q_x1
    exact hret 15 ls _ h d_Rs_in_15 (nb_1 ((by rw [e_x1]; exact ite01 (Or.inl rfl) (ite01 (Or.inl rfl) (Or.inr rfl)))))
  refine lv_icmp_lt (tgt := 14) hx hb d_Rs_in_2 rfl (fun hc => ?_) (fun hc => ?_)
  · have e_x1 := e_x1.trans (if_pos hc)
    refine lv_iconst hx hb d_Rs_in_14 ic_0 ?_
    exact hJ15 _ ls e_x1 (lv_sub hl [] rfl)
  · have e_x1 := e_x1.trans (if_neg hc)
    refine lv_iload_n hx hb d_Rs_in_5 rfl (lv_at hl 0 rfl) ?_
    refine lv_iload_n hx hb d_Rs_in_6 rfl (lv_at hl 2 rfl) ?_
    refine lv_icmp_gt (tgt := 14) hx hb d_Rs_in_7 rfl (fun hc => ?_) (fun hc => ?_)
    · have e_x1 := e_x1.trans (if_pos hc)
      refine lv_iconst hx hb d_Rs_in_14 ic_0 ?_
      exact hJ15 _ ls e_x1 (lv_sub hl [] rfl)
    · have e_x1 := e_x1.trans (if_neg hc)
      refine lv_iconst hx hb d_Rs_in_10 ic_1 ?_
      refine lv_goto (tgt := 15) hx hb d_Rs_in_11 rfl ?_
      exact hJ15 _ ls e_x1 (lv_sub hl [] rfl)
-- Rs_mantissa
theorem d_Rs_mantissa_0 : decode b_Rs_mantissa 0 = .ok (.iload_n 2, 1) := by decide +kernel
theorem d_Rs_mantissa_1 : decode b_Rs_mantissa 1 = .ok (.ifCond .eq 8, 3) := by decide +kernel
theorem d_Rs_mantissa_4 : decode b_Rs_mantissa 4 = .ok (.bipush 23, 2) := by decide +kernel
theorem d_Rs_mantissa_6 : decode b_Rs_mantissa 6 = .ok (.goto 5, 3) := by decide +kernel
theorem d_Rs_mantissa_9 : decode b_Rs_mantissa 9 = .ok (.bipush 52, 2) := by decide +kernel
theorem d_Rs_mantissa_11 : decode b_Rs_mantissa 11 = .ok (.istore_n 3, 1) := by decide +kernel
theorem d_Rs_mantissa_12 : decode b_Rs_mantissa 12 = .ok (.lload_n 0, 1) := by decide +kernel
theorem d_Rs_mantissa_13 : decode b_Rs_mantissa 13 = .ok (.lconst 1, 1) := by decide +kernel
theorem d_Rs_mantissa_14 : decode b_Rs_mantissa 14 = .ok (.iload_n 3, 1) := by decide +kernel
theorem d_Rs_mantissa_15 : decode b_Rs_mantissa 15 = .ok (.lshl, 1) := by decide +kernel
theorem d_Rs_mantissa_16 : decode b_Rs_mantissa 16 = .ok (.lconst 1, 1) := by decide +kernel
theorem d_Rs_mantissa_17 : decode b_Rs_mantissa 17 = .ok (.lsub, 1) := by decide +kernel
theorem d_Rs_mantissa_18 : decode b_Rs_mantissa 18 = .ok (.land, 1) := by decide +kernel
theorem d_Rs_mantissa_19 : decode b_Rs_mantissa 19 = .ok (.lstore 4, 2) := by decide +kernel
theorem d_Rs_mantissa_21 : decode b_Rs_mantissa 21 = .ok (.lload_n 0, 1) := by decide +kernel
theorem d_Rs_mantissa_22 : decode b_Rs_mantissa 22 = .ok (.iload_n 3, 1) := by decide +kernel
theorem d_Rs_mantissa_23 : decode b_Rs_mantissa 23 = .ok (.lshr, 1) := by decide +kernel
theorem d_Rs_mantissa_24 : decode b_Rs_mantissa 24 = .ok (.lconst 0, 1) := by decide +kernel
theorem d_Rs_mantissa_25 : decode b_Rs_mantissa 25 = .ok (.lcmp, 1) := by decide +kernel
theorem d_Rs_mantissa_26 : decode b_Rs_mantissa 26 = .ok (.ifCond .ne 8, 3) := by decide +kernel
theorem d_Rs_mantissa_29 : decode b_Rs_mantissa 29 = .ok (.lload 4, 2) := by decide +kernel
theorem d_Rs_mantissa_31 : decode b_Rs_mantissa 31 = .ok (.goto 9, 3) := by decide +kernel
theorem d_Rs_mantissa_34 : decode b_Rs_mantissa 34 = .ok (.lload 4, 2) := by decide +kernel
theorem d_Rs_mantissa_36 : decode b_Rs_mantissa 36 = .ok (.lconst 1, 1) := by decide +kernel
theorem d_Rs_mantissa_37 : decode b_Rs_mantissa 37 = .ok (.iload_n 3, 1) := by decide +kernel
theorem d_Rs_mantissa_38 : decode b_Rs_mantissa 38 = .ok (.lshl, 1) := by decide +kernel
theorem d_Rs_mantissa_39 : decode b_Rs_mantissa 39 = .ok (.ladd, 1) := by decide +kernel
theorem d_Rs_mantissa_40 : decode b_Rs_mantissa 40 = .ok (.lreturn, 1) := by decide +kernel
def F_Rs_mantissa (a0 : Int64) (a1 : Int32) : Int64 := lt_ (if a1 = 0 then (52 : Int32) else (23 : Int32)) fun x1 => lt_ (a0 &&& (((1 : Int64) <<< ((x1).toInt64 &&& 63)) - (1 : Int64))) fun x2 => lt_ (if ¬ (a0 >>> ((x1).toInt64 &&& 63)) = (0 : Int64) then x2 + ((1 : Int64) <<< ((x1).toInt64 &&& 63)) else x2) fun x3 => x3
set_option maxHeartbeats 4000000 in
set_option maxRecDepth 100000 in
theorem c_Rs_mantissa (l : Launch) (a0 : Int64) (a1 : Int32) : Met l y_Rs_mantissa (.code y_Rs_mantissa b_Rs_mantissa 6 (some .long) :: BIG) ({ frames := 0, cells := 0, slots := 0, locals := 0 } : Room) (va_Pc [.long a0, .int a1] (pre0)) (pQ (.long (F_Rs_mantissa a0 a1))) 0 0 (fun _ => False) := by
  refine pOpen_l rfl (Nat.le_of_ble_eq_true rfl) ?_
  intro p e s m args below meth c Q ls hx hb hml hown hts hT hp hl hret
  have hNB := hp
  have hown : s.vm.findClass R_Rs = some m.cls := hown
  have hl : lv_has ls 6 [(0, .long a0), (2, .int a1)] := hl
  obtain ⟨r, h⟩ : ∃ r, F_Rs_mantissa a0 a1 = r := ⟨_, rfl⟩
  rw [h] at hret
  have h : (lt_ (if a1 = 0 then (52 : Int32) else (23 : Int32)) fun x1 => lt_ (a0 &&& (((1 : Int64) <<< ((x1).toInt64 &&& 63)) - (1 : Int64))) fun x2 => lt_ (if ¬ (a0 >>> ((x1).toInt64 &&& 63)) = (0 : Int64) then x2 + ((1 : Int64) <<< ((x1).toInt64 &&& 63)) else x2) fun x3 => x3) = r := h
  refine lv_iload_n hx hb d_Rs_mantissa_0 rfl (lv_at hl 1 rfl) ?_
  obtain ⟨x1, e_x1, h⟩ := lt_o h
  have hJ11 : ∀ (x1' : Int32) (ls : Array Slot), x1 = x1' → lv_has ls 6 [(0, .long a0)] → W p l e ({ frames := 0, cells := 0, slots := 0, locals := 0 } : Room) s m args below meth c s.heap [] 0 0 Q (F0 m 11 ls [.int x1']) := by
    intro x1' ls q_x1 hl
    subst q_x1
    refine lv_istore_n hx hb d_Rs_mantissa_11 rfl hl (by decide) rfl (fun ls hl => ?_)
    have hl : lv_has ls 6 [(3, .int x1), (0, .long a0)] := hl
    refine lv_lload_n hx hb d_Rs_mantissa_12 rfl (lv_at hl 1 rfl) ?_
    refine lv_lconst hx hb d_Rs_mantissa_13 lc_1 ?_
    refine lv_iload_n hx hb d_Rs_mantissa_14 rfl (lv_at hl 0 rfl) ?_
    refine lv_lshl hx hb d_Rs_mantissa_15 rfl ?_
    refine lv_lconst hx hb d_Rs_mantissa_16 lc_1 ?_
    refine lv_lsub hx hb d_Rs_mantissa_17 ?_
    refine lv_land hx hb d_Rs_mantissa_18 ?_
    refine lv_topl (fun x2 e_x2 => ?_)
    have h := lt_h e_x2 h
    refine lv_lstore hx hb d_Rs_mantissa_19 hl (by decide) rfl (fun ls hl => ?_)
    have hl : lv_has ls 6 [(4, .long x2), (3, .int x1), (0, .long a0)] := hl
    refine lv_lload_n hx hb d_Rs_mantissa_21 rfl (lv_at hl 2 rfl) ?_
    refine lv_iload_n hx hb d_Rs_mantissa_22 rfl (lv_at hl 1 rfl) ?_
    refine lv_lshr hx hb d_Rs_mantissa_23 rfl ?_
    refine lv_lconst hx hb d_Rs_mantissa_24 lc_0 ?_
    refine W.lcmp hx hb d_Rs_mantissa_25 ?_
    obtain ⟨x3, e_x3, h⟩ := lt_o h
    have hJ40 : ∀ (x3' : Int64) (ls : Array Slot), x3 = x3' → lv_has ls 6 [] → W p l e ({ frames := 0, cells := 0, slots := 0, locals := 0 } : Room) s m args below meth c s.heap [] 0 0 Q (F0 m 40 ls [.long x3']) := by
      intro x3' ls q_x3 hl
      subst q_x3
      exact hret 40 ls _ h d_Rs_mantissa_40
    refine lv_if_ne (tgt := 34) hx hb d_Rs_mantissa_26 rfl (fun hc => ?_) (fun hc => ?_)
    · have hc := mt (lg_cmp_eq _ _).mpr hc
      have e_x3 := e_x3.trans (if_pos hc)
      refine lv_lload hx hb d_Rs_mantissa_34 (lv_at hl 0 rfl) ?_
      refine lv_lconst hx hb d_Rs_mantissa_36 lc_1 ?_
      refine lv_iload_n hx hb d_Rs_mantissa_37 rfl (lv_at hl 1 rfl) ?_
      refine lv_lshl hx hb d_Rs_mantissa_38 rfl ?_
      refine lv_ladd hx hb d_Rs_mantissa_39 ?_
      exact hJ40 _ ls e_x3 (lv_sub hl [] rfl)
    · have hc := not_not_intro ((lg_cmp_eq _ _).mp hc)
      have e_x3 := e_x3.trans (if_neg hc)
      refine lv_lload hx hb d_Rs_mantissa_29 (lv_at hl 0 rfl) ?_
      refine lv_goto (tgt := 40) hx hb d_Rs_mantissa_31 rfl ?_
      exact hJ40 _ ls e_x3 (lv_sub hl [] rfl)
  refine lv_if_eq (tgt := 9) hx hb d_Rs_mantissa_1 rfl (fun hc => ?_) (fun hc => ?_)
  · have e_x1 := e_x1.trans (if_pos hc)
    refine lv_bipush hx hb d_Rs_mantissa_9 bp_52 ?_
    exact hJ11 _ ls e_x1 (lv_sub hl [0] rfl)
  · have e_x1 := e_x1.trans (if_neg hc)
    refine lv_bipush hx hb d_Rs_mantissa_4 bp_23 ?_
    refine lv_goto (tgt := 11) hx hb d_Rs_mantissa_6 rfl ?_
    exact hJ11 _ ls e_x1 (lv_sub hl [0] rfl)
-- Rs_exponent
theorem d_Rs_exponent_0 : decode b_Rs_exponent 0 = .ok (.lload_n 0, 1) := by decide +kernel
theorem d_Rs_exponent_1 : decode b_Rs_exponent 1 = .ok (.iload_n 2, 1) := by decide +kernel
theorem d_Rs_exponent_2 : decode b_Rs_exponent 2 = .ok (.ifCond .eq 8, 3) := by decide +kernel
theorem d_Rs_exponent_5 : decode b_Rs_exponent 5 = .ok (.bipush 23, 2) := by decide +kernel
theorem d_Rs_exponent_7 : decode b_Rs_exponent 7 = .ok (.goto 5, 3) := by decide +kernel
theorem d_Rs_exponent_10 : decode b_Rs_exponent 10 = .ok (.bipush 52, 2) := by decide +kernel
theorem d_Rs_exponent_12 : decode b_Rs_exponent 12 = .ok (.lshr, 1) := by decide +kernel
theorem d_Rs_exponent_13 : decode b_Rs_exponent 13 = .ok (.l2i, 1) := by decide +kernel
theorem d_Rs_exponent_14 : decode b_Rs_exponent 14 = .ok (.istore_n 3, 1) := by decide +kernel
theorem d_Rs_exponent_15 : decode b_Rs_exponent 15 = .ok (.iload_n 3, 1) := by decide +kernel
theorem d_Rs_exponent_16 : decode b_Rs_exponent 16 = .ok (.ifCond .ne 7, 3) := by decide +kernel
theorem d_Rs_exponent_19 : decode b_Rs_exponent 19 = .ok (.iconst 1, 1) := by decide +kernel
theorem d_Rs_exponent_20 : decode b_Rs_exponent 20 = .ok (.goto 4, 3) := by decide +kernel
theorem d_Rs_exponent_23 : decode b_Rs_exponent 23 = .ok (.iload_n 3, 1) := by decide +kernel
theorem d_Rs_exponent_24 : decode b_Rs_exponent 24 = .ok (.iload_n 2, 1) := by decide +kernel
theorem d_Rs_exponent_25 : decode b_Rs_exponent 25 = .ok (.ifCond .eq 9, 3) := by decide +kernel
theorem d_Rs_exponent_28 : decode b_Rs_exponent 28 = .ok (.sipush 150, 3) := by decide +kernel
theorem d_Rs_exponent_31 : decode b_Rs_exponent 31 = .ok (.goto 6, 3) := by decide +kernel
theorem d_Rs_exponent_34 : decode b_Rs_exponent 34 = .ok (.sipush 1075, 3) := by decide +kernel
theorem d_Rs_exponent_37 : decode b_Rs_exponent 37 = .ok (.isub, 1) := by decide +kernel
theorem d_Rs_exponent_38 : decode b_Rs_exponent 38 = .ok (.ireturn, 1) := by decide +kernel
def F_Rs_exponent (a0 : Int64) (a1 : Int32) : Int32 := lt_ (if a1 = 0 then (52 : Int32) else (23 : Int32)) fun x1 => lt_ ((a0 >>> ((x1).toInt64 &&& 63)).toInt32) fun x2 => lt_ (if ¬ x2 = 0 then x2 else (1 : Int32)) fun x3 => lt_ (if a1 = 0 then (1075 : Int32) else (150 : Int32)) fun x4 => x3 - x4
set_option maxHeartbeats 4000000 in
set_option maxRecDepth 100000 in
theorem c_Rs_exponent (l : Launch) (a0 : Int64) (a1 : Int32) : Met l y_Rs_exponent (.code y_Rs_exponent b_Rs_exponent 4 (some .int) :: BIG) ({ frames := 0, cells := 0, slots := 0, locals := 0 } : Room) (va_Pc [.long a0, .int a1] (pre0)) (pQ (.int (F_Rs_exponent a0 a1))) 0 0 (fun _ => False) := by
  refine pOpen_i rfl (Nat.le_of_ble_eq_true rfl) ?_
  intro p e s m args below meth c Q ls hx hb hml hown hts hT hp hl hret
  have hNB := hp
  have hown : s.vm.findClass R_Rs = some m.cls := hown
  have hl : lv_has ls 4 [(0, .long a0), (2, .int a1)] := hl
  obtain ⟨r, h⟩ : ∃ r, F_Rs_exponent a0 a1 = r := ⟨_, rfl⟩
  rw [h] at hret
  have h : (lt_ (if a1 = 0 then (52 : Int32) else (23 : Int32)) fun x1 => lt_ ((a0 >>> ((x1).toInt64 &&& 63)).toInt32) fun x2 => lt_ (if ¬ x2 = 0 then x2 else (1 : Int32)) fun x3 => lt_ (if a1 = 0 then (1075 : Int32) else (150 : Int32)) fun x4 => x3 - x4) = r := h
  refine lv_lload_n hx hb d_Rs_exponent_0 rfl (lv_at hl 0 rfl) ?_
  refine lv_iload_n hx hb d_Rs_exponent_1 rfl (lv_at hl 1 rfl) ?_
  obtain ⟨x1, e_x1, h⟩ := lt_o h
  have hJ12 : ∀ (x1' : Int32) (ls : Array Slot), x1 = x1' → lv_has ls 4 [(2, .int a1)] → W p l e ({ frames := 0, cells := 0, slots := 0, locals := 0 } : Room) s m args below meth c s.heap [] 0 0 Q (F0 m 12 ls [.int x1', .long a0]) := by
    intro x1' ls q_x1 hl
    subst q_x1
    refine lv_lshr hx hb d_Rs_exponent_12 rfl ?_
    refine lv_l2i hx hb d_Rs_exponent_13 rfl ?_
    refine lv_topi (fun x2 e_x2 => ?_)
    have h := lt_h e_x2 h
    refine lv_istore_n hx hb d_Rs_exponent_14 rfl hl (by decide) rfl (fun ls hl => ?_)
    have hl : lv_has ls 4 [(3, .int x2), (2, .int a1)] := hl
    refine lv_iload_n hx hb d_Rs_exponent_15 rfl (lv_at hl 0 rfl) ?_
    obtain ⟨x3, e_x3, h⟩ := lt_o h
    have hJ24 : ∀ (x3' : Int32) (ls : Array Slot), x3 = x3' → lv_has ls 4 [(2, .int a1)] → W p l e ({ frames := 0, cells := 0, slots := 0, locals := 0 } : Room) s m args below meth c s.heap [] 0 0 Q (F0 m 24 ls [.int x3']) := by
      intro x3' ls q_x3 hl
      subst q_x3
      refine lv_iload_n hx hb d_Rs_exponent_24 rfl (lv_at hl 0 rfl) ?_
      obtain ⟨x4, e_x4, h⟩ := lt_o h
      have hJ37 : ∀ (x4' : Int32) (ls : Array Slot), x4 = x4' → lv_has ls 4 [] → W p l e ({ frames := 0, cells := 0, slots := 0, locals := 0 } : Room) s m args below meth c s.heap [] 0 0 Q (F0 m 37 ls [.int x4', .int x3]) := by
        intro x4' ls q_x4 hl
        subst q_x4
        refine lv_isub hx hb d_Rs_exponent_37 ?_
        exact hret 38 ls _ h d_Rs_exponent_38
      refine lv_if_eq (tgt := 34) hx hb d_Rs_exponent_25 rfl (fun hc => ?_) (fun hc => ?_)
      · have e_x4 := e_x4.trans (if_pos hc)
        refine lv_sipush hx hb d_Rs_exponent_34 sp_1075 ?_
        exact hJ37 _ ls e_x4 (lv_sub hl [] rfl)
      · have e_x4 := e_x4.trans (if_neg hc)
        refine lv_sipush hx hb d_Rs_exponent_28 sp_150 ?_
        refine lv_goto (tgt := 37) hx hb d_Rs_exponent_31 rfl ?_
        exact hJ37 _ ls e_x4 (lv_sub hl [] rfl)
    refine lv_if_ne (tgt := 23) hx hb d_Rs_exponent_16 rfl (fun hc => ?_) (fun hc => ?_)
    · have e_x3 := e_x3.trans (if_pos hc)
      refine lv_iload_n hx hb d_Rs_exponent_23 rfl (lv_at hl 0 rfl) ?_
      exact hJ24 _ ls e_x3 (lv_sub hl [1] rfl)
    · have hc := not_not_intro hc
      have e_x3 := e_x3.trans (if_neg hc)
      refine lv_iconst hx hb d_Rs_exponent_19 ic_1 ?_
      refine lv_goto (tgt := 24) hx hb d_Rs_exponent_20 rfl ?_
      exact hJ24 _ ls e_x3 (lv_sub hl [1] rfl)
  refine lv_if_eq (tgt := 10) hx hb d_Rs_exponent_2 rfl (fun hc => ?_) (fun hc => ?_)
  · have e_x1 := e_x1.trans (if_pos hc)
    refine lv_bipush hx hb d_Rs_exponent_10 bp_52 ?_
    exact hJ12 _ ls e_x1 (lv_sub hl [1] rfl)
  · have e_x1 := e_x1.trans (if_neg hc)
    refine lv_bipush hx hb d_Rs_exponent_5 bp_23 ?_
    refine lv_goto (tgt := 12) hx hb d_Rs_exponent_7 rfl ?_
    exact hJ12 _ ls e_x1 (lv_sub hl [1] rfl)
end
