/-! The JDK's own methods on texts: length, charAt. -/
def y_S_length : MethodName := ⟨"java/lang/String", "length", "()I"⟩
abbrev b_S_length : ByteArray := prog_15_method_54_code
def y_S_coder : MethodName := ⟨"java/lang/String", "coder", "()B"⟩
abbrev b_S_coder : ByteArray := prog_15_method_152_code
def y_S_charAt : MethodName := ⟨"java/lang/String", "charAt", "(I)C"⟩
abbrev b_S_charAt : ByteArray := prog_15_method_56_code
def y_S_isLatin1 : MethodName := ⟨"java/lang/String", "isLatin1", "()Z"⟩
abbrev b_S_isLatin1 : ByteArray := prog_15_method_154_code
def y_L_charAt : MethodName := ⟨"java/lang/StringLatin1", "charAt", "([BI)C"⟩
abbrev b_L_charAt : ByteArray := prog_16_method_2_code
def y_S_checkIndex : MethodName := ⟨"java/lang/String", "checkIndex", "(II)V"⟩
abbrev b_S_checkIndex : ByteArray := prog_15_method_155_code
def y_P_checkIndex : MethodName := ⟨"jdk/internal/util/Preconditions", "checkIndex", "(IILjava/util/function/BiFunction;)I"⟩
abbrev b_P_checkIndex : ByteArray := prog_19_method_11_code
theorem d_S_length_0 : decode b_S_length 0 = .ok (.aload_n 0, 1) := by decide +kernel
theorem d_S_length_1 : decode b_S_length 1 = .ok (.getfield 9, 3) := by decide +kernel
theorem d_S_length_4 : decode b_S_length 4 = .ok (.arraylength, 1) := by decide +kernel
theorem d_S_length_5 : decode b_S_length 5 = .ok (.aload_n 0, 1) := by decide +kernel
theorem d_S_length_6 : decode b_S_length 6 = .ok (.invokevirtual 335, 3) := by decide +kernel
theorem d_S_length_9 : decode b_S_length 9 = .ok (.ishr, 1) := by decide +kernel
theorem d_S_length_10 : decode b_S_length 10 = .ok (.ireturn, 1) := by decide +kernel
theorem d_S_coder_0 : decode b_S_coder 0 = .ok (.getstatic 38, 3) := by decide +kernel
theorem d_S_coder_3 : decode b_S_coder 3 = .ok (.ifCond .eq 10, 3) := by decide +kernel
theorem d_S_coder_6 : decode b_S_coder 6 = .ok (.aload_n 0, 1) := by decide +kernel
theorem d_S_coder_7 : decode b_S_coder 7 = .ok (.getfield 15, 3) := by decide +kernel
theorem d_S_coder_10 : decode b_S_coder 10 = .ok (.goto 4, 3) := by decide +kernel
theorem d_S_coder_14 : decode b_S_coder 14 = .ok (.ireturn, 1) := by decide +kernel
theorem d_S_charAt_0 : decode b_S_charAt 0 = .ok (.aload_n 0, 1) := by decide +kernel
theorem d_S_charAt_1 : decode b_S_charAt 1 = .ok (.invokevirtual 492, 3) := by decide +kernel
theorem d_S_charAt_4 : decode b_S_charAt 4 = .ok (.ifCond .eq 12, 3) := by decide +kernel
theorem d_S_charAt_7 : decode b_S_charAt 7 = .ok (.aload_n 0, 1) := by decide +kernel
theorem d_S_charAt_8 : decode b_S_charAt 8 = .ok (.getfield 9, 3) := by decide +kernel
theorem d_S_charAt_11 : decode b_S_charAt 11 = .ok (.iload_n 1, 1) := by decide +kernel
theorem d_S_charAt_12 : decode b_S_charAt 12 = .ok (.invokestatic 495, 3) := by decide +kernel
theorem d_S_charAt_15 : decode b_S_charAt 15 = .ok (.ireturn, 1) := by decide +kernel
theorem d_S_isLatin1_0 : decode b_S_isLatin1 0 = .ok (.getstatic 38, 3) := by decide +kernel
theorem d_S_isLatin1_3 : decode b_S_isLatin1 3 = .ok (.ifCond .eq 14, 3) := by decide +kernel
theorem d_S_isLatin1_6 : decode b_S_isLatin1 6 = .ok (.aload_n 0, 1) := by decide +kernel
theorem d_S_isLatin1_7 : decode b_S_isLatin1 7 = .ok (.getfield 15, 3) := by decide +kernel
theorem d_S_isLatin1_10 : decode b_S_isLatin1 10 = .ok (.ifCond .ne 7, 3) := by decide +kernel
theorem d_S_isLatin1_13 : decode b_S_isLatin1 13 = .ok (.iconst 1, 1) := by decide +kernel
theorem d_S_isLatin1_14 : decode b_S_isLatin1 14 = .ok (.goto 4, 3) := by decide +kernel
theorem d_S_isLatin1_18 : decode b_S_isLatin1 18 = .ok (.ireturn, 1) := by decide +kernel
theorem d_L_charAt_0 : decode b_L_charAt 0 = .ok (.iload_n 1, 1) := by decide +kernel
theorem d_L_charAt_1 : decode b_L_charAt 1 = .ok (.aload_n 0, 1) := by decide +kernel
theorem d_L_charAt_2 : decode b_L_charAt 2 = .ok (.arraylength, 1) := by decide +kernel
theorem d_L_charAt_3 : decode b_L_charAt 3 = .ok (.invokestatic 9, 3) := by decide +kernel
theorem d_L_charAt_6 : decode b_L_charAt 6 = .ok (.aload_n 0, 1) := by decide +kernel
theorem d_L_charAt_7 : decode b_L_charAt 7 = .ok (.iload_n 1, 1) := by decide +kernel
theorem d_L_charAt_8 : decode b_L_charAt 8 = .ok (.baload, 1) := by decide +kernel
theorem d_L_charAt_9 : decode b_L_charAt 9 = .ok (.sipush 255, 3) := by decide +kernel
theorem d_L_charAt_12 : decode b_L_charAt 12 = .ok (.iand, 1) := by decide +kernel
theorem d_L_charAt_13 : decode b_L_charAt 13 = .ok (.i2c, 1) := by decide +kernel
theorem d_L_charAt_14 : decode b_L_charAt 14 = .ok (.ireturn, 1) := by decide +kernel
theorem d_S_checkIndex_0 : decode b_S_checkIndex 0 = .ok (.iload_n 0, 1) := by decide +kernel
theorem d_S_checkIndex_1 : decode b_S_checkIndex 1 = .ok (.iload_n 1, 1) := by decide +kernel
theorem d_S_checkIndex_2 : decode b_S_checkIndex 2 = .ok (.getstatic 1053, 3) := by decide +kernel
theorem d_S_checkIndex_5 : decode b_S_checkIndex 5 = .ok (.invokestatic 1059, 3) := by decide +kernel
theorem d_S_checkIndex_8 : decode b_S_checkIndex 8 = .ok (.pop, 1) := by decide +kernel
theorem d_S_checkIndex_9 : decode b_S_checkIndex 9 = .ok (.return_, 1) := by decide +kernel
theorem d_P_checkIndex_0 : decode b_P_checkIndex 0 = .ok (.iload_n 0, 1) := by decide +kernel
theorem d_P_checkIndex_1 : decode b_P_checkIndex 1 = .ok (.ifCond .lt 8, 3) := by decide +kernel
theorem d_P_checkIndex_4 : decode b_P_checkIndex 4 = .ok (.iload_n 0, 1) := by decide +kernel
theorem d_P_checkIndex_5 : decode b_P_checkIndex 5 = .ok (.iload_n 1, 1) := by decide +kernel
theorem d_P_checkIndex_6 : decode b_P_checkIndex 6 = .ok (.if_icmp .lt 10, 3) := by decide +kernel
theorem d_P_checkIndex_16 : decode b_P_checkIndex 16 = .ok (.iload_n 0, 1) := by decide +kernel
theorem d_P_checkIndex_17 : decode b_P_checkIndex 17 = .ok (.ireturn, 1) := by decide +kernel
theorem ms_1 : (.methodLink "java/lang/String" 335 y_S_coder : Cond) ∈ BIG := List.mem_filter.mpr ⟨by decide +kernel, by rfl⟩
theorem ms_2 : (.instanceMethod y_S_coder : Cond) ∈ BIG := List.mem_filter.mpr ⟨by decide +kernel, by rfl⟩
theorem ms_3 : (.selects "java/lang/String" y_S_coder y_S_coder : Cond) ∈ BIG := List.mem_filter.mpr ⟨by decide +kernel, by rfl⟩
theorem ms_4 : (.code y_S_coder b_S_coder 1 (some .byte) : Cond) ∈ BIG := List.mem_filter.mpr ⟨by decide +kernel, by rfl⟩
theorem ms_5 : (.fieldLink "java/lang/String" 38 "java/lang/String" "COMPACT_STRINGS" "Z" : Cond) ∈ BIG := List.mem_filter.mpr ⟨by decide +kernel, by rfl⟩
theorem ms_6 : (.fieldLink "java/lang/String" 9 "java/lang/String" "value" "[B" : Cond) ∈ BIG := List.mem_filter.mpr ⟨by decide +kernel, by rfl⟩
theorem ms_7 : (.fieldLink "java/lang/String" 15 "java/lang/String" "coder" "B" : Cond) ∈ BIG := List.mem_filter.mpr ⟨by decide +kernel, by rfl⟩
theorem ms_8 : (.initialized "java/lang/String" : Cond) ∈ BIG := List.mem_filter.mpr ⟨by decide +kernel, by rfl⟩
theorem ms_9 : (.initialized "java/lang/StringLatin1" : Cond) ∈ BIG := List.mem_filter.mpr ⟨by decide +kernel, by rfl⟩
theorem ms_10 : (.methodLink "java/lang/String" 492 y_S_isLatin1 : Cond) ∈ BIG := List.mem_filter.mpr ⟨by decide +kernel, by rfl⟩
theorem ms_11 : (.instanceMethod y_S_isLatin1 : Cond) ∈ BIG := List.mem_filter.mpr ⟨by decide +kernel, by rfl⟩
theorem ms_12 : (.selects "java/lang/String" y_S_isLatin1 y_S_isLatin1 : Cond) ∈ BIG := List.mem_filter.mpr ⟨by decide +kernel, by rfl⟩
theorem ms_13 : (.code y_S_isLatin1 b_S_isLatin1 1 (some .boolean) : Cond) ∈ BIG := List.mem_filter.mpr ⟨by decide +kernel, by rfl⟩
theorem ms_14 : (.methodLink "java/lang/String" 495 y_L_charAt : Cond) ∈ BIG := List.mem_filter.mpr ⟨by decide +kernel, by rfl⟩
theorem ms_15 : (.static y_L_charAt : Cond) ∈ BIG := List.mem_filter.mpr ⟨by decide +kernel, by rfl⟩
theorem ms_16 : (.code y_L_charAt b_L_charAt 2 (some .char) : Cond) ∈ BIG := List.mem_filter.mpr ⟨by decide +kernel, by rfl⟩
theorem ms_17 : (.methodLink "java/lang/StringLatin1" 9 y_S_checkIndex : Cond) ∈ BIG := List.mem_filter.mpr ⟨by decide +kernel, by rfl⟩
theorem ms_18 : (.static y_S_checkIndex : Cond) ∈ BIG := List.mem_filter.mpr ⟨by decide +kernel, by rfl⟩
theorem ms_19 : (.code y_S_checkIndex b_S_checkIndex 2 none : Cond) ∈ BIG := List.mem_filter.mpr ⟨by decide +kernel, by rfl⟩
theorem ms_20 : (.fieldLink "java/lang/String" 1053 "jdk/internal/util/Preconditions" "SIOOBE_FORMATTER" "Ljava/util/function/BiFunction;" : Cond) ∈ BIG := List.mem_filter.mpr ⟨by decide +kernel, by rfl⟩
theorem ms_21 : (.methodLink "java/lang/String" 1059 y_P_checkIndex : Cond) ∈ BIG := List.mem_filter.mpr ⟨by decide +kernel, by rfl⟩
theorem ms_22 : (.static y_P_checkIndex : Cond) ∈ BIG := List.mem_filter.mpr ⟨by decide +kernel, by rfl⟩
theorem ms_23 : (.code y_P_checkIndex b_P_checkIndex 3 (some .int) : Cond) ∈ BIG := List.mem_filter.mpr ⟨by decide +kernel, by rfl⟩
theorem ms_24 : (.initialized "jdk/internal/util/Preconditions" : Cond) ∈ BIG := List.mem_filter.mpr ⟨by decide +kernel, by rfl⟩
theorem ms_25 : (.methodLink R_Lt 20 y_S_length : Cond) ∈ BIG := List.mem_filter.mpr ⟨by decide +kernel, by rfl⟩
theorem ms_26 : (.instanceMethod y_S_length : Cond) ∈ BIG := List.mem_filter.mpr ⟨by decide +kernel, by rfl⟩
theorem ms_27 : (.selects "java/lang/String" y_S_length y_S_length : Cond) ∈ BIG := List.mem_filter.mpr ⟨by decide +kernel, by rfl⟩
theorem ms_28 : (.code y_S_length b_S_length 1 (some .int) : Cond) ∈ BIG := List.mem_filter.mpr ⟨by decide +kernel, by rfl⟩
theorem ms_29 : (.methodLink R_Lt 25 y_S_charAt : Cond) ∈ BIG := List.mem_filter.mpr ⟨by decide +kernel, by rfl⟩
theorem ms_30 : (.instanceMethod y_S_charAt : Cond) ∈ BIG := List.mem_filter.mpr ⟨by decide +kernel, by rfl⟩
theorem ms_31 : (.selects "java/lang/String" y_S_charAt y_S_charAt : Cond) ∈ BIG := List.mem_filter.mpr ⟨by decide +kernel, by rfl⟩
theorem ms_32 : (.code y_S_charAt b_S_charAt 2 (some .char) : Cond) ∈ BIG := List.mem_filter.mpr ⟨by decide +kernel, by rfl⟩
abbrev pQ0 : Array Value → State → Outcome → State → Prop := fun _ st oc t => oc = .returned none ∧ t.heap = st.heap
abbrev sP (o v : Nat) (bs : List Int32) (U : State) : Prop := sT o v bs (fun _ => False) U U.heap
theorem sP_bl {o v : Nat} {bs : List Int32} (U : State) (g : JFrame) (mk : MethodId) (a : Array Value) (h : sP o v bs U) : sP o v bs (U.calling g mk a) := sT_at (s := U) (U := U.calling g mk a) (Vm.Alike.refl U.vm) (fun _ _ _ => rfl) h
theorem sP_of {o v : Nat} {bs : List Int32} {A : Nat → Prop} {s U : State} {H : Heap} {locs : List Loc} (hU : U.heap = H) (hW : s.WarmedH U.vm) (hS : va_S A s.heap H locs) (h : sT o v bs A s s.heap) : sP o v bs U := by
  unfold sP
  rw [hU]
  exact sT_nr (fun _ h => h.elim) (sT_at hW.alike hS.2.1 h)
theorem sT_rc {o v : Nat} {bs : List Int32} {A : Nat → Prop} {s : State} {H : Heap} {locs : List Loc} (hS : va_S A s.heap H locs) (h : sT o v bs A s s.heap) : ∃ cell : Cell, H[o]? = some cell ∧ cell.vm.isStatics = false ∧ s.vm.findClass "java/lang/String" = some cell.cls := by
  obtain ⟨cell, h1, h2, h3, -⟩ := h.1.kept hS.2.1
  exact ⟨cell, h1, h2, h3⟩
section SO
variable {l : Launch} {y : MethodName} {cc : ByteArray} {maxL : Nat} {rm : Room} {vs : List Value} {Pre : State → Prop}
theorem sOpen {ty : FieldType} {r : Int32} (hy : plainName y.cls = true) (hlen : (lg_sl vs).length ≤ maxL)
    (body : ∀ (p : Program) (e : Env) (s : State) (m : MethodId) (args : Array Value) (below : List Frame) (meth : Method) (c : Code) (Q : State → Prop) (ls : Array Slot), p.tables.exec = Jvm.exec → c.code = cc → c.maxLocals = maxL → s.vm.findClass y.cls = some m.cls → (∀ w ∈ Cond.code y cc maxL (some ty) :: BIG, w.before args s = true) → (∀ w ∈ BIG, w.before args s = true) → Pre s → lv_has ls maxL (lv_args 0 vs) →
      (∀ (pc : Nat) (ls : Array Slot) (v : Int32), v = r → decode cc pc = .ok (.ireturn, 1) → narrow ty (.int v) = .int v → W p l e rm s m args below meth c s.heap [] 0 0 Q (F0 m pc ls [.int v])) → W p l e rm s m args below meth c s.heap [] 0 0 Q (F0 m 0 ls [])) :
    Met l y (Cond.code y cc maxL (some ty) :: BIG) rm (va_Pc vs Pre) (pQ (.int r)) 0 0 (fun _ => False) := by
  refine Met.ofW (cc := cc) (maxL := maxL) (ret := some ty) hy rfl ?_
  intro p e s m args below meth c s₁ B hml hv
  obtain ⟨rfl, hp⟩ := hv
  have hl := lv_entry vs (n := maxL) hlen
  rw [lg_entry_eq]
  have hts := atoms_spec (ws := Cond.code y cc maxL (some ty) :: BIG) B.pre
  have hlocks := B.notSynchronized
  exact body p e s m _ below meth c _ _ B.exec B.bytes hml (findClass_of_methodNamed B.named) hts (fun w h => hts w (List.mem_cons_of_mem _ h)) hp hl (fun pc ls v hv hd hn => W.zret B.exec B.bytes B.returns hn (fun t ht _ => ⟨by rw [hv], ht⟩) (fun q hq => nomatch hq) hd)
theorem sOpen0 (hy : plainName y.cls = true) (hlen : (lg_sl vs).length ≤ maxL)
    (body : ∀ (p : Program) (e : Env) (s : State) (m : MethodId) (args : Array Value) (below : List Frame) (meth : Method) (c : Code) (Q : State → Prop) (ls : Array Slot), p.tables.exec = Jvm.exec → c.code = cc → c.maxLocals = maxL → s.vm.findClass y.cls = some m.cls → (∀ w ∈ Cond.code y cc maxL none :: BIG, w.before args s = true) → (∀ w ∈ BIG, w.before args s = true) → Pre s → lv_has ls maxL (lv_args 0 vs) →
      (∀ (pc : Nat) (ls : Array Slot), decode cc pc = .ok (.return_, 1) → W p l e rm s m args below meth c s.heap [] 0 0 Q (F0 m pc ls [])) → W p l e rm s m args below meth c s.heap [] 0 0 Q (F0 m 0 ls [])) :
    Met l y (Cond.code y cc maxL none :: BIG) rm (va_Pc vs Pre) pQ0 0 0 (fun _ => False) := by
  refine Met.ofW (cc := cc) (maxL := maxL) (ret := none) hy rfl ?_
  intro p e s m args below meth c s₁ B hml hv
  obtain ⟨rfl, hp⟩ := hv
  have hl := lv_entry vs (n := maxL) hlen
  rw [lg_entry_eq]
  have hts := atoms_spec (ws := Cond.code y cc maxL none :: BIG) B.pre
  have hlocks := B.notSynchronized
  exact body p e s m _ below meth c _ _ B.exec B.bytes hml (findClass_of_methodNamed B.named) hts (fun w h => hts w (List.mem_cons_of_mem _ h)) hp hl (fun pc ls hd => W.vret B.exec B.bytes B.returns (fun t ht _ => ⟨rfl, ht⟩) (fun q hq => nomatch hq) hd)
end SO
section SQ
variable {p : Program} {l : Launch} {e : Env} {R : Room} {s : State} {m : MethodId} {args : Array Value} {below : List Frame} {meth : Method} {c : Code} {H : Heap} {locs : List Loc} {cells slots : Nat} {Q : State → Prop}
variable {cc : ByteArray} {nL : Nat} {own : String} {c0 : Cond} {y : MethodName} {bytes : ByteArray} {maxL n index : Nat} {ret : Option FieldType} {rm : Room} {Pre : State → Prop} {As rest st0 : List Value} {pc : Nat} {ls : Array Slot}
theorem q_S0 (hx : p.tables.exec = Jvm.exec) (hb : c.code = cc) (hml : c.maxLocals = nL) (hown : s.vm.findClass own = some m.cls) (hts : ∀ w ∈ c0 :: BIG, w.before args s = true)
    (hM : Met l y (Cond.code y bytes maxL ret :: BIG) rm (va_Pc As Pre) pQ0 0 0 (fun _ => False)) (hrc : rm.cells = 0) (hrs : rm.slots = 0)
    (hcode : Cond.code y bytes maxL ret ∈ BIG) (hlk : Cond.methodLink own index y ∈ BIG) (hst : Cond.static y ∈ BIG) (hini : Cond.initialized y.cls ∈ BIG)
    (hd : y.cls ≠ "java/lang/invoke/MethodHandle" ∧ y.cls ≠ "java/lang/invoke/VarHandle" ∧ (parseMethodDescriptor y.desc).map (fun d => d.parameters.length) = some n)
    (hR : rm.frames + 1 ≤ R.frames ∧ 8 + (maxL + 11) + rm.locals ≤ R.locals) (hbl : ∀ (U : State) (g : JFrame) (mk : MethodId) (a : Array Value), Pre U → Pre (U.calling g mk a)) (hpre : ∀ U : State, U.heap = H → s.WarmedH U.vm → Pre U)
    (hn : As.length = n) (hsize : ls.size = nL) (hstack : st0 = As.reverse ++ rest) (hW : (rest.map fun v => v.category).sum ≤ 8) (hdg : decode cc pc = .ok (.invokestatic index, 3)) (hcap : cells ≤ R.cells ∧ slots ≤ R.slots)
    (kk : W p l e R s m args below meth c H locs cells slots Q (F0 m (pc + 3) ls rest)) : W p l e R s m args below meth c H locs cells slots Q (F0 m pc ls st0) := by
  have hT : ∀ w ∈ BIG, w.before args s = true := fun w h => hts w (List.mem_cons_of_mem _ h)
  have hr := va_runS (p := p) (l := l) (e := e) (m := m) (below := below) (meth := meth) (c := c) (H := H) (locs := locs) (cells := cells) (slots := slots) (g := F0 m pc ls st0) (rest := rest) (Ts := c0 :: BIG) (own := own) (index := index) (n := n) ⟨hx, hb, hml, hown, hts⟩ hM ⟨callB_of n hts (gBig hcode) rfl hrc hrs (hT _ hini) (hT _ hlk) hd hR, hT _ hst⟩ ⟨fun a U g mk q => ⟨q.1, hbl U g mk a q.2⟩, fun U hU hW => ⟨rfl, hpre U hU hW⟩⟩ rfl hn hsize hstack (lv_room hW) hdg hcap
  intro T hT X
  obtain ⟨v', st₀, t, T', L, h0, X', hL, e1, e2, ⟨hv, hh⟩, st⟩ := hr T hT X
  cases hv
  obtain ⟨t2, a1, b1⟩ := kk T' (by rw [e1, hh, h0]) (Stand.forget X' (fun q h => (hL q h).elim))
  exact ⟨t2, st t2 a1, b1⟩
end SQ
theorem shr0 (x : Int32) : x >>> ((0 : Int32) &&& 31) = x := by
  apply Int32.toBitVec_inj.mp
  rw [Int32.toBitVec_shiftRight]
  simp
section SM
variable (l : Launch) {o v : Nat} {bs : List Int32}
set_option maxHeartbeats 4000000 in
set_option maxRecDepth 100000 in
theorem c_S_coder : Met l y_S_coder (.code y_S_coder b_S_coder 1 (some .byte) :: BIG) ({ frames := 0, cells := 0, slots := 0, locals := 0 } : Room) (va_Pc [.ref o] (sP o v bs)) (pQ (.int 0)) 0 0 (fun _ => False) := by
  refine sOpen rfl (Nat.le_of_ble_eq_true rfl) ?_
  intro p e s m args below meth c Q ls hx hb hml hown hts hT hp hl hret
  have hl : lv_has ls 1 [(0, .ref o)] := hl
  obtain ⟨h0, h1, h2, h3, h4, h5⟩ := hp
  refine va_gets hx hb h4 va_S.rf hown (hT _ ms_5) (fun _ h9 => h9) d_S_coder_0 ?_
  refine lv_if_eq (tgt := 13) hx hb d_S_coder_3 rfl (fun hc => absurd hc (by decide)) (fun hc => ?_)
  refine lv_aload_n hx hb d_S_coder_6 rfl (lv_at hl 0 rfl) ?_
  refine vk_getf hx hb h1 va_S.rf hown (hT _ ms_7) (fun _ h9 => h9) d_S_coder_7 ?_
  refine lv_goto (tgt := 14) hx hb d_S_coder_10 rfl ?_
  exact hret 14 ls _ rfl d_S_coder_14 rfl
set_option maxHeartbeats 4000000 in
set_option maxRecDepth 100000 in
theorem c_S_isLatin1 : Met l y_S_isLatin1 (.code y_S_isLatin1 b_S_isLatin1 1 (some .boolean) :: BIG) ({ frames := 0, cells := 0, slots := 0, locals := 0 } : Room) (va_Pc [.ref o] (sP o v bs)) (pQ (.int 1)) 0 0 (fun _ => False) := by
  refine sOpen rfl (Nat.le_of_ble_eq_true rfl) ?_
  intro p e s m args below meth c Q ls hx hb hml hown hts hT hp hl hret
  have hl : lv_has ls 1 [(0, .ref o)] := hl
  obtain ⟨h0, h1, h2, h3, h4, h5⟩ := hp
  refine va_gets hx hb h4 va_S.rf hown (hT _ ms_5) (fun _ h9 => h9) d_S_isLatin1_0 ?_
  refine lv_if_eq (tgt := 17) hx hb d_S_isLatin1_3 rfl (fun hc => absurd hc (by decide)) (fun hc => ?_)
  refine lv_aload_n hx hb d_S_isLatin1_6 rfl (lv_at hl 0 rfl) ?_
  refine vk_getf hx hb h1 va_S.rf hown (hT _ ms_7) (fun _ h9 => h9) d_S_isLatin1_7 ?_
  refine lv_if_ne (tgt := 17) hx hb d_S_isLatin1_10 rfl (fun hc => absurd rfl hc) (fun hc => ?_)
  refine lv_iconst hx hb d_S_isLatin1_13 ic_1 ?_
  refine lv_goto (tgt := 18) hx hb d_S_isLatin1_14 rfl ?_
  exact hret 18 ls _ rfl d_S_isLatin1_18 rfl
set_option maxHeartbeats 4000000 in
set_option maxRecDepth 100000 in
theorem c_S_length : Met l y_S_length (.code y_S_length b_S_length 1 (some .int) :: BIG) ({ frames := 1, cells := 0, slots := 0, locals := 20 } : Room) (va_Pc [.ref o] (sP o v bs)) (pQ (.int (Int32.ofNat bs.length))) 0 0 (fun _ => False) := by
  refine sOpen rfl (Nat.le_of_ble_eq_true rfl) ?_
  intro p e s m args below meth c Q ls hx hb hml hown hts hT hp hl hret
  have hl : lv_has ls 1 [(0, .ref o)] := hl
  obtain ⟨h0, h1, h2, h3, h4, h5⟩ := id hp
  refine lv_aload_n hx hb d_S_length_0 rfl (lv_at hl 0 rfl) ?_
  refine vk_getf hx hb h2 va_S.rf hown (hT _ ms_6) (fun _ h9 => h9) d_S_length_1 ?_
  refine va_tlen hx hb h3 va_S.rf rfl d_S_length_4 ?_
  refine lv_aload_n hx hb d_S_length_5 rfl (lv_at hl 0 rfl) ?_
  refine q_V (C := "java/lang/String") (b := o) (As := []) (rest := [.int (Int32.ofNat bs.length)]) (n := 0) hx hb hml hown hts (c_S_coder l (o := o) (v := v) (bs := bs)) rfl rfl ms_4 ms_1 ms_2 ms_3 ms_8 (by decide +kernel) ⟨Nat.le_of_ble_eq_true rfl, Nat.le_of_ble_eq_true rfl⟩ (sT_rc (A := fun _ => False) va_S.rf hp) sP_bl (fun U hU hW => sP_of (A := fun _ => False) hU hW va_S.rf hp) rfl hl.1 rfl (Nat.le_of_ble_eq_true rfl) d_S_length_6 ⟨Nat.zero_le _, Nat.zero_le _⟩ ?_
  refine lv_ishr hx hb d_S_length_9 ?_
  rw [shr0]
  exact hret 10 ls _ rfl d_S_length_10 rfl
end SM
