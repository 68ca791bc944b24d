/-! What stands around the class: the two formats, the texts, the exceptions' words. -/
def xIA : String := "java/lang/IllegalArgumentException"
def xAE : String := "java/lang/ArithmeticException"
def xNm : List String := ["java/lang/RuntimeException", "java/lang/Exception"]
def xW (U : State) : Prop := va_Nw (.declares (Bundle.initS "java/lang/RuntimeException")) U ∧ va_Nw (.declares (Bundle.initS "java/lang/Exception")) U ∧ va_Nw (.declares (Bundle.initS Bundle.tN)) U ∧ va_Nw (.castable xIA xIA) U ∧ va_Nw (.castable xAE xAE) U ∧ va_Nc xAE xIA U
theorem xW_mv {s U : State} (hW : s.WarmedH U.vm) (h : xW s) : xW U := ⟨va_Nw.warmD hW h.1, va_Nw.warmD hW h.2.1, va_Nw.warmD hW h.2.2.1, va_Nw.warmC hW h.2.2.2.1, va_Nw.warmC hW h.2.2.2.2.1, va_Nc.moved hW.alike h.2.2.2.2.2⟩
theorem xW_bl (U : State) (g : JFrame) (mk : MethodId) (a : Array Value) (h : xW U) : xW (U.calling g mk a) := by
  have hv : U.vm = (U.calling g mk a).vm := rfl
  exact ⟨va_Nw.same rfl hv h.1, va_Nw.same rfl hv h.2.1, va_Nw.same rfl hv h.2.2.1, va_Nw.same rfl hv h.2.2.2.1, va_Nw.same rfl hv h.2.2.2.2.1, h.2.2.2.2.2⟩
def xOth (X : String) : List Cond := [.declares (Bundle.initS "java/lang/RuntimeException"), .declares (Bundle.initS "java/lang/Exception"), .declares (Bundle.initS Bundle.tN), .castable X X]
theorem xatI_g : ((vx_atS R_PB 35 xIA xNm).filter goodWord).all (fun w => decide (w ∈ lw_tbl)) = true := by decide +kernel
theorem xatA_g : ((vx_atS R_PB 123 xAE xNm).filter goodWord).all (fun w => decide (w ∈ lw_tbl)) = true := by decide +kernel
theorem xatI_o : ((vx_atS R_PB 35 xIA xNm).filter (fun w => !goodWord w)).all (fun w => decide (w ∈ xOth xIA)) = true := by decide +kernel
theorem xatA_o : ((vx_atS R_PB 123 xAE xNm).filter (fun w => !goodWord w)).all (fun w => decide (w ∈ xOth xAE)) = true := by decide +kernel
theorem xat_of {X : String} {ic : Nat} {args : Array Value} {s : State} (g : ((vx_atS R_PB ic X xNm).filter goodWord).all (fun w => decide (w ∈ lw_tbl)) = true) (o : ((vx_atS R_PB ic X xNm).filter (fun w => !goodWord w)).all (fun w => decide (w ∈ xOth X)) = true)
    (hT : ∀ w ∈ BIG, w.before args s = true) (h1 : va_Nw (.declares (Bundle.initS "java/lang/RuntimeException")) s) (h2 : va_Nw (.declares (Bundle.initS "java/lang/Exception")) s) (h3 : va_Nw (.declares (Bundle.initS Bundle.tN)) s) (h4 : va_Nw (.castable X X) s) : ∀ w ∈ vx_atS R_PB ic X xNm, w.before args s = true := by
  refine vx_hat (B := xOth X) (fun w hw => hT w (List.mem_filter.mpr ⟨of_decide_eq_true (List.all_eq_true.mp g w hw), (List.mem_filter.mp hw).2⟩)) (fun w hw => of_decide_eq_true (List.all_eq_true.mp o w hw)) ?_
  exact vx_c (va_Nw.use rfl h1) (vx_c (va_Nw.use rfl h2) (vx_c (va_Nw.use rfl h3) (vx_c (va_Nw.use rfl h4) vx_n)))
theorem xatI {args : Array Value} {s : State} (hT : ∀ w ∈ BIG, w.before args s = true) (h : xW s) : ∀ w ∈ vx_atS R_PB 35 xIA xNm, w.before args s = true := xat_of xatI_g xatI_o hT h.1 h.2.1 h.2.2.1 h.2.2.2.1
theorem xatA {args : Array Value} {s : State} (hT : ∀ w ∈ BIG, w.before args s = true) (h : xW s) : ∀ w ∈ vx_atS R_PB 123 xAE xNm, w.before args s = true := xat_of xatA_g xatA_o hT h.1 h.2.1 h.2.2.1 h.2.2.2.2.1
theorem xatI_ot : ∀ w ∈ Cond.classLink R_PB 31 xIA :: Cond.initialized xIA :: vx_atS R_PB 35 xIA xNm, vx_ot w = true := by
  have h : (Cond.classLink R_PB 31 xIA :: Cond.initialized xIA :: vx_atS R_PB 35 xIA xNm).all (fun w => vx_ot w) = true := by decide +kernel
  exact fun w hw => List.all_eq_true.mp h w hw
theorem xatA_ot : ∀ w ∈ Cond.classLink R_PB 119 xAE :: Cond.initialized xAE :: vx_atS R_PB 123 xAE xNm, vx_ot w = true := by
  have h : (Cond.classLink R_PB 119 xAE :: Cond.initialized xAE :: vx_atS R_PB 123 xAE xNm).all (fun w => vx_ot w) = true := by decide +kernel
  exact fun w hw => List.all_eq_true.mp h w hw
theorem xI_big : (Cond.classLink R_PB 31 xIA) ∈ BIG ∧ (Cond.initialized xIA) ∈ BIG := ⟨List.mem_filter.mpr ⟨by decide +kernel, by rfl⟩, List.mem_filter.mpr ⟨by decide +kernel, by rfl⟩⟩
theorem xA_big : (Cond.classLink R_PB 119 xAE) ∈ BIG ∧ (Cond.initialized xAE) ∈ BIG := ⟨List.mem_filter.mpr ⟨by decide +kernel, by rfl⟩, List.mem_filter.mpr ⟨by decide +kernel, by rfl⟩⟩
theorem x_fit : Bundle.fit xIA = true ∧ Bundle.fit xAE = true ∧ ∀ n ∈ xNm, Bundle.fit n = true := by decide +kernel
/-! a format's constant, outside A -/
def rA (o : Nat) (K : rK) (A : Nat → Prop) (U : State) (H : Heap) : Prop := va_O R_Real o A U H ∧ va_OF R_Real "fractionBits" "I" (.int K.1) o A U H ∧ va_OF R_Real "topExponent" "I" (.int K.2.1) o A U H ∧ va_OF R_Real "lowestPower" "I" (.int K.2.2.1) o A U H ∧ va_OF R_Real "signBit" "J" (.long K.2.2.2.1) o A U H ∧ va_OF R_Real "infinity" "J" (.long K.2.2.2.2) o A U H
theorem rA_at {o : Nat} {K : rK} {A : Nat → Prop} {s U : State} {H H1 : Heap} (hvm : s.vm.Alike U.vm) (hq : ∀ a : Nat, a < H.size → ¬ A a → H1[a]? = H[a]?) (h : rA o K A s H) : rA o K A U H1 :=
  ⟨(h.1.kept hq).moved hvm, (h.2.1.kept hq).moved hvm, (h.2.2.1.kept hq).moved hvm, (h.2.2.2.1.kept hq).moved hvm, (h.2.2.2.2.1.kept hq).moved hvm, (h.2.2.2.2.2.kept hq).moved hvm⟩
theorem rA_nr {o : Nat} {K : rK} {A B : Nat → Prop} {s : State} {H : Heap} (hAB : ∀ q, B q → A q) (h : rA o K A s H) : rA o K B s H :=
  ⟨h.1.narrow hAB, h.2.1.narrow hAB, h.2.2.1.narrow hAB, h.2.2.2.1.narrow hAB, h.2.2.2.2.1.narrow hAB, h.2.2.2.2.2.narrow hAB⟩
theorem rA_rAt {o : Nat} {K : rK} {A : Nat → Prop} {U : State} (h : rA o K A U U.heap) : rAt o K U := rA_nr (B := fun _ => False) (fun _ h => h.elim) h
def sOwn : Nat → String := fun i => if i < 9 then R_PB else R_Lt
def sIdx : List Nat := [121, 164, 178, 183, 33, 57, 65, 78, 91, 53, 58]
def sTx : List String := ["by a whole 0", "NaN", "Infinity", "0.0", "no such operator of this type", "no minus of this type", "no such type", "no comparison of this type", "no text of this type", ".0", "0."]
def sByt : List (List Int32) := [[98, 121, 32, 97, 32, 119, 104, 111, 108, 101, 32, 48], [78, 97, 78], [73, 110, 102, 105, 110, 105, 116, 121], [48, 46, 48], [], [], [], [], [], [46, 48], [48, 46]]
/-- one text: its cell o, its letters' cell v -/
def sT (o v : Nat) (bs : List Int32) (A : Nat → Prop) (U : State) (H : Heap) : Prop := va_O "java/lang/String" o A U H ∧ va_OF "java/lang/String" "coder" "B" (.int 0) o A U H ∧ va_OF "java/lang/String" "value" "[B" (.ref v) o A U H ∧ va_T .byte v bs.length (fun j => .int (bs.getD j 0)) A U H ∧ va_Z "java/lang/String" "COMPACT_STRINGS" "Z" (.int 1) A U H ∧ va_Zq "jdk/internal/util/Preconditions" "SIOOBE_FORMATTER" "Ljava/util/function/BiFunction;" A U H
theorem sT_at {o v : Nat} {bs : List Int32} {A : Nat → Prop} {s U : State} {H H1 : Heap} (hvm : s.vm.Alike U.vm) (hq : ∀ a : Nat, a < H.size → ¬ A a → H1[a]? = H[a]?) (h : sT o v bs A s H) : sT o v bs A U H1 :=
  ⟨(h.1.kept hq).moved hvm, (h.2.1.kept hq).moved hvm, (h.2.2.1.kept hq).moved hvm, (h.2.2.2.1.kept hq).moved hvm, (h.2.2.2.2.1.kept hq).moved hvm, va_Zq.moved hvm (h.2.2.2.2.2.kept hq)⟩
theorem sT_nr {o v : Nat} {bs : List Int32} {A B : Nat → Prop} {s : State} {H : Heap} (hAB : ∀ q, B q → A q) (h : sT o v bs A s H) : sT o v bs B s H :=
  ⟨h.1.narrow hAB, h.2.1.narrow hAB, h.2.2.1.narrow hAB, h.2.2.2.1.narrow hAB, h.2.2.2.2.1.narrow hAB, h.2.2.2.2.2.narrow hAB⟩
/-- all of it, outside A, in the heap H: oF, oD the formats, kA, vA the texts -/
def eE (oF oD : Nat) (kA vA : Nat → Nat) (A : Nat → Prop) (U : State) (H : Heap) : Prop :=
  (nB U ∧ xW U ∧ ∀ i, i < 11 → vk_R (sOwn i) (sIdx.getD i 0) (sTx.getD i "") (kA i) U) ∧
  (va_Z R_Real "FLOAT" "LPrimitiveBits$Real;" (.ref oF) A U H ∧ va_Z R_Real "DOUBLE" "LPrimitiveBits$Real;" (.ref oD) A U H ∧ rA oF KF A U H ∧ rA oD KD A U H) ∧
  (vx_Zq Bundle.tN "UNASSIGNED_STACK" Bundle.steD A U H ∧ vx_Zq Bundle.tN "SUPPRESSED_SENTINEL" Bundle.listD A U H) ∧
  (sT (kA 1) (vA 1) [78, 97, 78] A U H ∧ sT (kA 2) (vA 2) [73, 110, 102, 105, 110, 105, 116, 121] A U H ∧ sT (kA 3) (vA 3) [48, 46, 48] A U H ∧ sT (kA 9) (vA 9) [46, 48] A U H ∧ sT (kA 10) (vA 10) [48, 46] A U H)
theorem eE_at {oF oD : Nat} {kA vA : Nat → Nat} {A : Nat → Prop} {s U : State} {H H1 : Heap} (hW : s.WarmedH U.vm) (hq : ∀ a : Nat, a < H.size → ¬ A a → H1[a]? = H[a]?) (h : eE oF oD kA vA A s H) : eE oF oD kA vA A U H1 := by
  obtain ⟨⟨a1, a2, a3⟩, ⟨b1, b2, b3, b4⟩, ⟨c1, c2⟩, d1, d2, d3, d4, d5⟩ := h
  have v := hW.alike
  exact ⟨⟨nB_mv hW a1, xW_mv hW a2, fun i hi => vk_R.warm hW (a3 i hi)⟩, ⟨(b1.kept hq).moved v, (b2.kept hq).moved v, rA_at v hq b3, rA_at v hq b4⟩, ⟨(c1.kept hq).moved v, (c2.kept hq).moved v⟩, sT_at v hq d1, sT_at v hq d2, sT_at v hq d3, sT_at v hq d4, sT_at v hq d5⟩
theorem eE_nr {oF oD : Nat} {kA vA : Nat → Nat} {A B : Nat → Prop} {s : State} {H : Heap} (hAB : ∀ q, B q → A q) (h : eE oF oD kA vA A s H) : eE oF oD kA vA B s H := by
  obtain ⟨a, ⟨b1, b2, b3, b4⟩, ⟨c1, c2⟩, d1, d2, d3, d4, d5⟩ := h
  exact ⟨a, ⟨b1.narrow hAB, b2.narrow hAB, rA_nr hAB b3, rA_nr hAB b4⟩, ⟨c1.narrow hAB, c2.narrow hAB⟩, sT_nr hAB d1, sT_nr hAB d2, sT_nr hAB d3, sT_nr hAB d4, sT_nr hAB d5⟩
theorem eE_bl {oF oD : Nat} {kA vA : Nat → Nat} {A : Nat → Prop} (U : State) (g : JFrame) (mk : MethodId) (a : Array Value) (h : eE oF oD kA vA A U U.heap) : eE oF oD kA vA A (U.calling g mk a) (U.calling g mk a).heap := by
  obtain ⟨⟨a1, a2, a3⟩, ⟨b1, b2, b3, b4⟩, ⟨c1, c2⟩, d1, d2, d3, d4, d5⟩ := h
  have v : U.vm.Alike (U.calling g mk a).vm := Vm.Alike.refl U.vm
  have hq : ∀ z : Nat, z < U.heap.size → ¬ A z → (U.calling g mk a).heap[z]? = U.heap[z]? := fun _ _ _ => rfl
  exact ⟨⟨nB_bl U g mk a a1, xW_bl U g mk a a2, fun i hi => vk_R.same (u := U) rfl (a3 i hi)⟩, ⟨(b1.kept hq).moved v, (b2.kept hq).moved v, rA_at v hq b3, rA_at v hq b4⟩, ⟨(c1.kept hq).moved v, (c2.kept hq).moved v⟩, sT_at v hq d1, sT_at v hq d2, sT_at v hq d3, sT_at v hq d4, sT_at v hq d5⟩
/-- the format of a type -/
def oR (oF oD : Nat) (t : Int32) : Nat := if t = 5 then oF else oD
def KR (t : Int32) : rK := if t = 5 then KF else KD
theorem eE_r {oF oD : Nat} {kA vA : Nat → Nat} {A : Nat → Prop} {U : State} {H : Heap} (h : eE oF oD kA vA A U H) (t : Int32) : rA (oR oF oD t) (KR t) A U H := by
  unfold oR KR
  by_cases ht : t = 5
  · rw [if_pos ht, if_pos ht]; exact h.2.1.2.2.1
  · rw [if_neg ht, if_neg ht]; exact h.2.1.2.2.2
