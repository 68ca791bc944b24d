/-! The law's helpers: rows. -/
def hQl (D : va_G) (A : Nat → Prop) (r : Nat ⊕ Int64) (w0 : va_W) (w1 : Int64 → va_W) : Array Value → State → Outcome → State → Prop := fun _ st oc t => (∃ k, r = .inl k ∧ oc = .returned (some (.int (nI k))) ∧ va_P D cls w0 t.heap ∧ va_D A w0 ∧ va_F A st t) ∨ ∃ v, r = .inr v ∧ oc = .returned (some (.int 0)) ∧ va_P D cls (w1 v) t.heap ∧ va_D A (w1 v) ∧ va_F A st t
def hQi (D : va_G) (A : Nat → Prop) (r : Nat ⊕ Int32) (w0 : va_W) (w1 : Int32 → va_W) : Array Value → State → Outcome → State → Prop := fun _ st oc t => (∃ k, r = .inl k ∧ oc = .returned (some (.int (nI k))) ∧ va_P D cls w0 t.heap ∧ va_D A w0 ∧ va_F A st t) ∨ ∃ v, r = .inr v ∧ oc = .returned (some (.int 0)) ∧ va_P D cls (w1 v) t.heap ∧ va_D A (w1 v) ∧ va_F A st t
def hOk (D : va_G) (A : Nat → Prop) (w1 : va_W) : Array Value → State → Outcome → State → Prop := fun _ st oc t => oc = .returned (some (.int 0)) ∧ va_P D cls w1 t.heap ∧ va_D A w1 ∧ va_F A st t
section HC
variable {p : Program} {l : Launch} {e : Env} {R : Room} {s : State} {m : MethodId} {args : Array Value} {below : List Frame} {meth : Method} {c : Code} {Q : State → Prop}
variable {cc : ByteArray} {nL : Nat} {own C : String} {b : Nat} {c0 : Cond} {y : MethodName} {bytes : ByteArray} {maxL n index : Nat} {ret : Option FieldType} {rm : Room} {As rest st0 : List Value} {pc : Nat} {ls : Array Slot} {oF oD : Nat} {kA vA : Nat → Nat}
theorem q_XVl {r' : Nat ⊕ Int64} (hx : p.tables.exec = Jvm.exec) (hb : c.code = cc) (hml : c.maxLocals = nL) (hown : s.vm.findClass own = some m.cls) (hts : ∀ w ∈ c0 :: BIG, w.before args s = true)
    (hM : vx_Met l y (Cond.code y bytes maxL ret :: BIG) rm (va_Pc (.ref b :: As) (xPre oF oD kA vA)) (xQl r') (xX r') 1 6 (fun _ => False)) (hrc : rm.cells = 1) (hrs : rm.slots = 6)
    (hcode : Cond.code y bytes maxL ret ∈ BIG) (hlk : Cond.methodLink own index y ∈ BIG) (him : Cond.instanceMethod y ∈ BIG) (hsel : Cond.selects C y y ∈ BIG) (hini : Cond.initialized y.cls ∈ BIG)
    (hd : y.cls ≠ "java/lang/invoke/MethodHandle" ∧ y.cls ≠ "java/lang/invoke/VarHandle" ∧ (parseMethodDescriptor y.desc).map (fun d => d.parameters.length) = some n)
    (hR : rm.frames + 1 ≤ R.frames ∧ 8 + (maxL + 11) + rm.locals ≤ R.locals) (hrv : ∃ cell : Cell, s.heap[b]? = some cell ∧ cell.vm.isStatics = false ∧ s.vm.findClass C = some cell.cls) (hp : xPre oF oD kA vA s)
    (hn : As.length = n) (hsize : ls.size = nL) (hstack : st0 = As.reverse ++ .ref b :: rest) (hW : (rest.map fun v => v.category).sum ≤ 8) (hdg : decode cc pc = .ok (.invokevirtual index, 3)) (hcap : 1 ≤ R.cells ∧ 6 ≤ R.slots)
    (kk : ∀ v, r' = .inr v → W p l e R s m args below meth c s.heap [] 1 6 Q (F0 m (pc + 3) ls (.long v :: rest)))
    (kx : ∀ (k : Nat) (q : Addr) (ce : Cell) (H1 : Heap), r' = .inl k → (k = 1 ∨ k = 2) → s.heap.size ≤ H1.size → (∀ z : Nat, z < s.heap.size → H1[z]? = s.heap[z]?) → H1[q]? = some ce → ce.vm = .none → s.vm.findClass (exN k) = some ce.cls → vx_W p l e R s m args below meth c H1 [] 1 6 Q (F0 m pc ls rest) q) : W p l e R s m args below meth c s.heap [] 0 0 Q (F0 m pc ls st0) := by
  have hT : ∀ w ∈ BIG, w.before args s = true := fun w h => hts w (List.mem_cons_of_mem _ h)
  have hr := vx_runV (p := p) (e := e) (m := m) (below := below) (meth := meth) (c := c) (H := s.heap) (locs := []) (cells := 0) (slots := 0) (g := F0 m pc ls st0) (rest := rest) (Ts := c0 :: BIG) (own := own) (index := index) (n := n) (C := C) (b := b) (As := As) ⟨hx, hb, hml, hown, hts⟩ hM ⟨callB_of n hts (gBig hcode) rfl hrc hrs (hT _ hini) (hT _ hlk) hd hR, hT _ him, hT _ hsel⟩ ⟨fun a U g mk q => ⟨q.1, xPre_bl U g mk a q.2⟩, hrv, fun U hU hW => ⟨rfl, xPre_of (A := fun _ => False) hU hW va_S.rf hp⟩⟩ rfl hn hsize hstack (lv_room hW) hdg (by omega)
  intro T hT X
  rcases hr T hT X with ⟨v, st₀, t, T', L, h0, X', hL, e1, e2, ⟨v', hv, hv2, hh⟩, st⟩ | ⟨q, st₀, t, T', L, E, ce, h0, X', hL, e1, e2, ⟨k, hk, hk2, hE, hF⟩, hce, hcv, hcl, st⟩
  · cases hv2
    have hTh : T'.heap = s.heap := by rw [e1, hh, h0]
    obtain ⟨t2, a1, b1⟩ := kk v' hv T' hTh (Stand.forget X' (fun q h => (hL q h).elim))
    exact ⟨t2, st t2 a1, b1⟩
  · subst hE
    obtain ⟨g1, g2⟩ := hF
    rw [h0] at g1 g2
    obtain ⟨t2, a1, b1⟩ := kx k q ce T'.heap hk hk2 (by rw [e1]; exact g1) (fun z hz => by rw [e1]; exact g2 z hz (fun h => h)) (by rw [e1]; exact hce) hcv hcl T' rfl (Stand.forget X' (fun q h => (hL q h).elim))
    exact ⟨t2, st.trans a1, b1⟩
theorem q_XVi {r' : Nat ⊕ Int32} (hx : p.tables.exec = Jvm.exec) (hb : c.code = cc) (hml : c.maxLocals = nL) (hown : s.vm.findClass own = some m.cls) (hts : ∀ w ∈ c0 :: BIG, w.before args s = true)
    (hM : vx_Met l y (Cond.code y bytes maxL ret :: BIG) rm (va_Pc (.ref b :: As) (xPre oF oD kA vA)) (xQi r') (xX r') 1 6 (fun _ => False)) (hrc : rm.cells = 1) (hrs : rm.slots = 6)
    (hcode : Cond.code y bytes maxL ret ∈ BIG) (hlk : Cond.methodLink own index y ∈ BIG) (him : Cond.instanceMethod y ∈ BIG) (hsel : Cond.selects C y y ∈ BIG) (hini : Cond.initialized y.cls ∈ BIG)
    (hd : y.cls ≠ "java/lang/invoke/MethodHandle" ∧ y.cls ≠ "java/lang/invoke/VarHandle" ∧ (parseMethodDescriptor y.desc).map (fun d => d.parameters.length) = some n)
    (hR : rm.frames + 1 ≤ R.frames ∧ 8 + (maxL + 11) + rm.locals ≤ R.locals) (hrv : ∃ cell : Cell, s.heap[b]? = some cell ∧ cell.vm.isStatics = false ∧ s.vm.findClass C = some cell.cls) (hp : xPre oF oD kA vA s)
    (hn : As.length = n) (hsize : ls.size = nL) (hstack : st0 = As.reverse ++ .ref b :: rest) (hW : (rest.map fun v => v.category).sum ≤ 8) (hdg : decode cc pc = .ok (.invokevirtual index, 3)) (hcap : 1 ≤ R.cells ∧ 6 ≤ R.slots)
    (kk : ∀ v, r' = .inr v → W p l e R s m args below meth c s.heap [] 1 6 Q (F0 m (pc + 3) ls (.int v :: rest)))
    (kx : ∀ (k : Nat) (q : Addr) (ce : Cell) (H1 : Heap), r' = .inl k → (k = 1 ∨ k = 2) → s.heap.size ≤ H1.size → (∀ z : Nat, z < s.heap.size → H1[z]? = s.heap[z]?) → H1[q]? = some ce → ce.vm = .none → s.vm.findClass (exN k) = some ce.cls → vx_W p l e R s m args below meth c H1 [] 1 6 Q (F0 m pc ls rest) q) : W p l e R s m args below meth c s.heap [] 0 0 Q (F0 m pc ls st0) := by
  have hT : ∀ w ∈ BIG, w.before args s = true := fun w h => hts w (List.mem_cons_of_mem _ h)
  have hr := vx_runV (p := p) (e := e) (m := m) (below := below) (meth := meth) (c := c) (H := s.heap) (locs := []) (cells := 0) (slots := 0) (g := F0 m pc ls st0) (rest := rest) (Ts := c0 :: BIG) (own := own) (index := index) (n := n) (C := C) (b := b) (As := As) ⟨hx, hb, hml, hown, hts⟩ hM ⟨callB_of n hts (gBig hcode) rfl hrc hrs (hT _ hini) (hT _ hlk) hd hR, hT _ him, hT _ hsel⟩ ⟨fun a U g mk q => ⟨q.1, xPre_bl U g mk a q.2⟩, hrv, fun U hU hW => ⟨rfl, xPre_of (A := fun _ => False) hU hW va_S.rf hp⟩⟩ rfl hn hsize hstack (lv_room hW) hdg (by omega)
  intro T hT X
  rcases hr T hT X with ⟨v, st₀, t, T', L, h0, X', hL, e1, e2, ⟨v', hv, hv2, hh⟩, st⟩ | ⟨q, st₀, t, T', L, E, ce, h0, X', hL, e1, e2, ⟨k, hk, hk2, hE, hF⟩, hce, hcv, hcl, st⟩
  · cases hv2
    have hTh : T'.heap = s.heap := by rw [e1, hh, h0]
    obtain ⟨t2, a1, b1⟩ := kk v' hv T' hTh (Stand.forget X' (fun q h => (hL q h).elim))
    exact ⟨t2, st t2 a1, b1⟩
  · subst hE
    obtain ⟨g1, g2⟩ := hF
    rw [h0] at g1 g2
    obtain ⟨t2, a1, b1⟩ := kx k q ce T'.heap hk hk2 (by rw [e1]; exact g1) (fun z hz => by rw [e1]; exact g2 z hz (fun h => h)) (by rw [e1]; exact hce) hcv hcl T' rfl (Stand.forget X' (fun q h => (hL q h).elim))
    exact ⟨t2, st.trans a1, b1⟩
end HC
def y_Lw_binary : MethodName := ⟨R_Lw, "binary", "(LPrimitiveBits;IJJI[J)I"⟩
abbrev b_Lw_binary : ByteArray := method_3_code
def y_Lw_minus : MethodName := ⟨R_Lw, "minus", "(LPrimitiveBits;JI[J)I"⟩
abbrev b_Lw_minus : ByteArray := method_4_code
def y_Lw_cast : MethodName := ⟨R_Lw, "cast", "(LPrimitiveBits;JII[J)I"⟩
abbrev b_Lw_cast : ByteArray := method_5_code
def y_Lw_compare : MethodName := ⟨R_Lw, "compare", "(LPrimitiveBits;JJI[J)I"⟩
abbrev b_Lw_compare : ByteArray := method_6_code
def y_Lw_text : MethodName := ⟨R_Lw, "text", "(LPrimitiveBits;JI[J)I"⟩
abbrev b_Lw_text : ByteArray := method_7_code
theorem mh_0 : (.code y_PB_binary b_PB_binary 7 (some .long) : Cond) ∈ BIG := List.mem_filter.mpr ⟨by decide +kernel, by rfl⟩
theorem mh_1 : (.methodLink R_Lw 7 y_PB_binary : Cond) ∈ BIG := List.mem_filter.mpr ⟨by decide +kernel, by rfl⟩
theorem mh_2 : (.instanceMethod y_PB_binary : Cond) ∈ BIG := List.mem_filter.mpr ⟨by decide +kernel, by rfl⟩
theorem mh_3 : (.selects R_PB y_PB_binary y_PB_binary : Cond) ∈ BIG := List.mem_filter.mpr ⟨by decide +kernel, by rfl⟩
theorem mh_4 : (.initialized R_PB : Cond) ∈ BIG := List.mem_filter.mpr ⟨by decide +kernel, by rfl⟩
theorem mh_5 : (.classLink R_Lw 13 xIA : Cond) ∈ BIG := List.mem_filter.mpr ⟨by decide +kernel, by rfl⟩
theorem mh_6 : (.classLink R_Lw 15 xAE : Cond) ∈ BIG := List.mem_filter.mpr ⟨by decide +kernel, by rfl⟩
theorem mh_7 : (.code y_PB_minus b_PB_minus 4 (some .long) : Cond) ∈ BIG := List.mem_filter.mpr ⟨by decide +kernel, by rfl⟩
theorem mh_8 : (.methodLink R_Lw 17 y_PB_minus : Cond) ∈ BIG := List.mem_filter.mpr ⟨by decide +kernel, by rfl⟩
theorem mh_9 : (.instanceMethod y_PB_minus : Cond) ∈ BIG := List.mem_filter.mpr ⟨by decide +kernel, by rfl⟩
theorem mh_10 : (.selects R_PB y_PB_minus y_PB_minus : Cond) ∈ BIG := List.mem_filter.mpr ⟨by decide +kernel, by rfl⟩
theorem mh_11 : (.code y_PB_cast b_PB_cast 7 (some .long) : Cond) ∈ BIG := List.mem_filter.mpr ⟨by decide +kernel, by rfl⟩
theorem mh_12 : (.methodLink R_Lw 21 y_PB_cast : Cond) ∈ BIG := List.mem_filter.mpr ⟨by decide +kernel, by rfl⟩
theorem mh_13 : (.instanceMethod y_PB_cast : Cond) ∈ BIG := List.mem_filter.mpr ⟨by decide +kernel, by rfl⟩
theorem mh_14 : (.selects R_PB y_PB_cast y_PB_cast : Cond) ∈ BIG := List.mem_filter.mpr ⟨by decide +kernel, by rfl⟩
theorem mh_15 : (.code y_PB_compare b_PB_compare 7 (some .int) : Cond) ∈ BIG := List.mem_filter.mpr ⟨by decide +kernel, by rfl⟩
theorem mh_16 : (.methodLink R_Lw 25 y_PB_compare : Cond) ∈ BIG := List.mem_filter.mpr ⟨by decide +kernel, by rfl⟩
theorem mh_17 : (.instanceMethod y_PB_compare : Cond) ∈ BIG := List.mem_filter.mpr ⟨by decide +kernel, by rfl⟩
theorem mh_18 : (.selects R_PB y_PB_compare y_PB_compare : Cond) ∈ BIG := List.mem_filter.mpr ⟨by decide +kernel, by rfl⟩
theorem mh_19 : (.code y_PB_text b_PB_text 4 (some .int) : Cond) ∈ BIG := List.mem_filter.mpr ⟨by decide +kernel, by rfl⟩
theorem mh_20 : (.methodLink R_Lw 29 y_PB_text : Cond) ∈ BIG := List.mem_filter.mpr ⟨by decide +kernel, by rfl⟩
theorem mh_21 : (.instanceMethod y_PB_text : Cond) ∈ BIG := List.mem_filter.mpr ⟨by decide +kernel, by rfl⟩
theorem mh_22 : (.selects R_PB y_PB_text y_PB_text : Cond) ∈ BIG := List.mem_filter.mpr ⟨by decide +kernel, by rfl⟩
theorem d_PB_text_14 : decode b_PB_text 14 = .ok (.dup, 1) := by decide +kernel
theorem d_PB_text_15 : decode b_PB_text 15 = .ok (.ldc 91, 2) := by decide +kernel
theorem d_PB_text_17 : decode b_PB_text 17 = .ok (.invokespecial 35, 3) := by decide +kernel
theorem d_PB_text_20 : decode b_PB_text 20 = .ok (.athrow, 1) := by decide +kernel
def F_PB_textX (n : Nat) (a1 : Int64) (a2 : Int32) : Option (Nat ⊕ Int32) := lt_ (fun (_ : Unit) => some (.inl 1)) fun j11 => if a2 < (1 : Int32) then (j11 ()) else (if a2 ≤ (6 : Int32) then none else (j11 ()))
set_option maxHeartbeats 4000000 in
set_option maxRecDepth 100000 in
theorem c_PB_textX (l : Launch) (hst : l.stackTraces = false) (oF oD : Nat) (kA vA : Nat → Nat) (n : Nat) (o0 : Nat) (a1 : Int64) (a2 : Int32) (r : Nat ⊕ Int32) (h : F_PB_textX n a1 a2 = some r) : vx_Met l y_PB_text (.code y_PB_text b_PB_text 4 (some .int) :: BIG) ({ frames := 6, cells := 1, slots := 6, locals := 90 } : Room) (va_Pc [.ref o0, .long a1, .int a2] (xPre oF oD kA vA)) (xQi r) (xX r) 1 6 (fun _ => False) := by
  refine xOpen_i hst rfl rfl (Nat.le_of_ble_eq_true rfl) (Nat.le_of_ble_eq_true rfl) (Nat.le_of_ble_eq_true rfl) rfl rfl ?_
  intro p e s m args below meth c Q ls hx hb hml hown hts hT hp hl hret hthr
  have hNB : nB s := hp.1.1
  have hl : lv_has ls 4 [(0, .ref o0), (1, .long a1), (3, .int a2)] := hl
  have h : (lt_ (fun (_ : Unit) => some (.inl 1)) fun j11 => if a2 < (1 : Int32) then (j11 ()) else (if a2 ≤ (6 : Int32) then none else (j11 ()))) = some r := h
  refine lv_iload_n hx hb d_PB_text_0 rfl (lv_at hl 2 rfl) ?_
  refine lv_iconst hx hb d_PB_text_1 ic_1 ?_
  obtain ⟨j11, e_j11, h⟩ := lt_o h
  have hJ11 : ∀ (ls : Array Slot), lv_has ls 4 [] → j11 () = some r → W p l e ({ frames := 6, cells := 1, slots := 6, locals := 90 } : Room) s m args below meth c s.heap [] 0 0 Q (F0 m 11 ls []) := by
    intro  ls hl h
    rw [e_j11] at h
    exact hthr.1 11 8 91 ls _ (Option.some.inj h).symm (by decide) rfl hl.1 (Nat.le_of_ble_eq_true rfl) d_PB_text_11 d_PB_text_14 d_PB_text_15 d_PB_text_17 d_PB_text_20
  refine lv_icmp_lt (tgt := 11) hx hb d_PB_text_2 rfl (fun hc => ?_) (fun hc => ?_)
  · have h := ite_t hc h
    exact hJ11 ls (lv_sub hl [] rfl) h
  · have h := ite_f hc h
    refine lv_iload_n hx hb d_PB_text_5 rfl (lv_at hl 2 rfl) ?_
    refine lv_bipush hx hb d_PB_text_6 bp_6 ?_
    refine lv_icmp_le (tgt := 21) hx hb d_PB_text_8 rfl (fun hc => ?_) (fun hc => ?_)
    · have h := ite_t hc h
      exact no_s h
    · have h := ite_f hc h
      exact hJ11 ls (lv_sub hl [] rfl) h
theorem xk_PB_minus {n : Nat} {a1 : Int64} {a2 : Int32} {r : Nat ⊕ Int64} {k : Nat} (h : F_PB_minus n a1 a2 = some r) (hk : r = .inl k) : k = 1 := by
  subst hk
  unfold F_PB_minus at h
  simp only [lt_] at h
  repeat' (split at h)
  all_goals first | (cases h; rfl) | (cases h; done) | (obtain ⟨x, -, h⟩ := Option.bind_eq_some_iff.mp h; cases h; done)
theorem xk_PB_cast {n : Nat} {a1 : Int64} {a2 a3 : Int32} {r : Nat ⊕ Int64} {k : Nat} (h : F_PB_cast n a1 a2 a3 = some r) (hk : r = .inl k) : k = 1 := by
  subst hk
  unfold F_PB_cast at h
  simp only [lt_] at h
  repeat' (split at h)
  all_goals first | (cases h; rfl) | (cases h; done) | (obtain ⟨x, -, h⟩ := Option.bind_eq_some_iff.mp h; cases h; done)
theorem xk_PB_compare {n : Nat} {a1 a2 : Int64} {a3 : Int32} {r : Nat ⊕ Int32} {k : Nat} (h : F_PB_compare n a1 a2 a3 = some r) (hk : r = .inl k) : k = 1 := by
  subst hk
  unfold F_PB_compare at h
  simp only [lt_] at h
  repeat' (split at h)
  all_goals first | (cases h; rfl) | (cases h; done) | (obtain ⟨x, -, h⟩ := Option.bind_eq_some_iff.mp h; cases h; done)
theorem xk_PB_textX {n : Nat} {a1 : Int64} {a2 : Int32} {r : Nat ⊕ Int32} {k : Nat} (h : F_PB_textX n a1 a2 = some r) (hk : r = .inl k) : k = 1 := by
  subst hk
  unfold F_PB_textX at h
  simp only [lt_] at h
  repeat' (split at h)
  all_goals first | (cases h; rfl) | (cases h; done) | (obtain ⟨x, -, h⟩ := Option.bind_eq_some_iff.mp h; cases h; done)
theorem d_Lw_binary_0 : decode b_Lw_binary 0 = .ok (.aload 7, 2) := by decide +kernel
theorem d_Lw_binary_2 : decode b_Lw_binary 2 = .ok (.iconst 0, 1) := by decide +kernel
theorem d_Lw_binary_3 : decode b_Lw_binary 3 = .ok (.aload_n 0, 1) := by decide +kernel
theorem d_Lw_binary_4 : decode b_Lw_binary 4 = .ok (.iload_n 1, 1) := by decide +kernel
theorem d_Lw_binary_5 : decode b_Lw_binary 5 = .ok (.lload_n 2, 1) := by decide +kernel
theorem d_Lw_binary_6 : decode b_Lw_binary 6 = .ok (.lload 4, 2) := by decide +kernel
theorem d_Lw_binary_8 : decode b_Lw_binary 8 = .ok (.iload 6, 2) := by decide +kernel
theorem d_Lw_binary_10 : decode b_Lw_binary 10 = .ok (.invokevirtual 7, 3) := by decide +kernel
theorem d_Lw_binary_13 : decode b_Lw_binary 13 = .ok (.lastore, 1) := by decide +kernel
theorem d_Lw_binary_14 : decode b_Lw_binary 14 = .ok (.goto 11, 3) := by decide +kernel
theorem d_Lw_binary_17 : decode b_Lw_binary 17 = .ok (.astore 8, 2) := by decide +kernel
theorem d_Lw_binary_19 : decode b_Lw_binary 19 = .ok (.iconst 1, 1) := by decide +kernel
theorem d_Lw_binary_20 : decode b_Lw_binary 20 = .ok (.ireturn, 1) := by decide +kernel
theorem d_Lw_binary_21 : decode b_Lw_binary 21 = .ok (.astore 8, 2) := by decide +kernel
theorem d_Lw_binary_23 : decode b_Lw_binary 23 = .ok (.iconst 2, 1) := by decide +kernel
theorem d_Lw_binary_24 : decode b_Lw_binary 24 = .ok (.ireturn, 1) := by decide +kernel
theorem d_Lw_binary_25 : decode b_Lw_binary 25 = .ok (.iconst 0, 1) := by decide +kernel
theorem d_Lw_binary_26 : decode b_Lw_binary 26 = .ok (.ireturn, 1) := by decide +kernel
set_option maxHeartbeats 4000000 in
set_option maxRecDepth 100000 in
theorem c_Lw_binary (l : Launch) (hst : l.stackTraces = false) (D : va_G) (A : Nat → Prop) (cI cL cC : ClassId) (ad : Nat → Nat) (ao : Nat) (Y : va_W) (fo : Nat → Int64) (len : Int32) (tk : Int32) (row : Nat → Int32) (dig : Int64) (pw : Int32) (used : Int32) (lost : Int32) (lim : Nat → Int64) (oF oD : Nat) (kA vA : Nat → Nat) (n : Nat) (a1 : Int32) (a2 : Int64) (a3 : Int64) (a4 : Int32) (r : Nat ⊕ Int64) (h : F_PB_binary n a1 a2 a3 a4 = some r) : vx_Met l y_Lw_binary (.codeWith y_Lw_binary b_Lw_binary 9 (some .int) [(0, 14, 17, 13), (0, 14, 21, 15)] :: BIG) ({ frames := 8, cells := 1, slots := 6, locals := 170 } : Room) (va_Pc [.ref (ad 0), .int a1, .long a2, .long a3, .int a4, .ref ao] (ePre D A (tysV cI cL cC) (gC cI cL cC ad ((ao, .inl (cL, 1, .inr (.inl fo))) :: Y) len tk row dig pw used lost lim) (fun U => eE oF oD kA vA A U U.heap))) (hQl D A r (gC cI cL cC ad ((ao, .inl (cL, 1, .inr (.inl fo))) :: Y) len tk row dig pw used lost lim) (fun v => gC cI cL cC ad ((ao, .inl (cL, 1, .inr (.inl (vp_updL fo 0 v)))) :: Y) len tk row dig pw used lost lim)) (fun _ _ _ => False) 1 6 A := by
  refine vx_ofWH (cc := b_Lw_binary) (maxL := 9) (ret := some .int) (hh := [(0, 14, 17, 13), (0, 14, 21, 15)]) rfl rfl ?_
  intro p e s m args below meth c s₁ B hml hv
  obtain ⟨rfl, ⟨hNB, hP, hK, hD⟩, hE⟩ := hv
  have hx := B.exec
  have hb := B.bytes
  have hts := atoms_spec (ws := Cond.codeWith y_Lw_binary b_Lw_binary 9 (some .int) [(0, 14, 17, 13), (0, 14, 21, 15)] :: BIG) B.pre
  have hT : ∀ w ∈ BIG, w.before _ s = true := fun w h => hts w (List.mem_cons_of_mem _ h)
  have htb := vx_table (x := y_Lw_binary) B (hts _ List.mem_cons_self)
  have hown : s.vm.findClass R_Lw = some m.cls := findClass_of_methodNamed B.named
  have hlocks := B.notSynchronized
  have hr := B.returns
  have hS : va_S A s.heap s.heap [] := va_S.rf
  have hl := lv_entry [.ref (ad 0), .int a1, .long a2, .long a3, .int a4, .ref ao] (n := 9) (Nat.le_of_ble_eq_true rfl)
  rw [lg_entry_eq]
  generalize (lg_sl [.ref (ad 0), .int a1, .long a2, .long a3, .int a4, .ref ao] ++ List.replicate (9 - (lg_sl [.ref (ad 0), .int a1, .long a2, .long a3, .int a4, .ref ao]).length) Slot.unset).toArray = ls at hl ⊢
  have hl : lv_has ls 9 [(0, .ref (ad 0)), (1, .int a1), (2, .long a2), (4, .long a3), (6, .int a4), (7, .ref ao)] := hl
  refine lv_aload hx hb d_Lw_binary_0 (lv_at hl 5 rfl) ?_
  refine lv_iconst hx hb d_Lw_binary_2 ic_0 ?_
  refine lv_aload_n hx hb d_Lw_binary_3 rfl (lv_at hl 0 rfl) ?_
  refine lv_iload_n hx hb d_Lw_binary_4 rfl (lv_at hl 1 rfl) ?_
  refine lv_lload_n hx hb d_Lw_binary_5 rfl (lv_at hl 2 rfl) ?_
  refine lv_lload hx hb d_Lw_binary_6 (lv_at hl 3 rfl) ?_
  refine lv_iload hx hb d_Lw_binary_8 (lv_at hl 4 rfl) ?_
  refine q_XVl (C := R_PB) (b := ad 0) (As := [.int a1, .long a2, .long a3, .int a4]) (rest := [.int 0, .ref ao]) (n := 4) hx hb hml hown hts (c_PB_binary l hst oF oD kA vA n (ad 0) a1 a2 a3 a4 r h) rfl rfl mh_0 mh_1 mh_2 mh_3 mh_4 (by decide +kernel) ⟨Nat.le_of_ble_eq_true rfl, Nat.le_of_ble_eq_true rfl⟩ (va_recv hK hP (ci := 0) rfl (q0 := 0) rfl) (xPre_of (A := A) rfl (State.WarmedH.refl s) hS hE) rfl hl.1 rfl (Nat.le_of_ble_eq_true rfl) d_Lw_binary_10 ⟨Nat.le_of_ble_eq_true rfl, Nat.le_of_ble_eq_true rfl⟩ (fun v hv => ?_) (fun k q ce H1 hk hk2 z1 z2 hce hcv hcl => ?_)
  · refine va_last hx hb hK hP hD hS 6 1 rfl rfl (nI_in (c := 0) (by decide) (by decide)) d_Lw_binary_13 (fun H locs hP hD hS => ?_)
    have hP : va_P D cls (gC cI cL cC ad ((ao, .inl (cL, 1, .inr (.inl (vp_updL fo 0 v)))) :: Y) len tk row dig pw used lost lim) H := hP
    have hD : va_D A (gC cI cL cC ad ((ao, .inl (cL, 1, .inr (.inl (vp_updL fo 0 v)))) :: Y) len tk row dig pw used lost lim) := hD
    refine lv_goto (tgt := 25) hx hb d_Lw_binary_14 rfl ?_
    refine lv_iconst hx hb d_Lw_binary_25 ic_0 ?_
    exact vx_ret (W.widen (Nat.le_of_ble_eq_true rfl) (Nat.le_of_ble_eq_true rfl) (W.iret hx hb hr (fun t ht _ => Or.inr ⟨v, hv, rfl, by rw [ht]; exact hP, hD, hS.F ht⟩) hS.2.2 d_Lw_binary_26))
  · have hS1 : va_S A s.heap H1 [] := ⟨z1, fun q h _ => z2 q h, fun _ h => nomatch h⟩
    have hP1 : va_P D cls (gC cI cL cC ad ((ao, .inl (cL, 1, .inr (.inl fo))) :: Y) len tk row dig pw used lost lim) H1 := hP.kept (fun k x hx => z2 x.1 (vx_lt hP hx))
    rcases hk2 with rfl | rfl
    · refine vx_catch (E := xIA) (name := xIA) hown [] (⟨0, 14, 17, 13⟩ : ExceptionTableEntry) [(⟨0, 14, 21, 15⟩ : ExceptionTableEntry)] htb (fun z hz => nomatch hz) (by decide) (by decide) (hT _ mh_5) (va_Nw.use rfl hE.1.2.1.2.2.2.1) hce hcv hcl ?_
      refine lv_astore hx hb d_Lw_binary_17 hl (by decide) rfl (fun ls hl => ?_)
      refine lv_iconst hx hb d_Lw_binary_19 ic_1 ?_
      exact vx_ret (W.iret hx hb hr (fun t ht _ => Or.inl ⟨_, hk, rfl, by rw [ht]; exact hP1, hD, hS1.F ht⟩) (fun _ h => nomatch h) d_Lw_binary_20)
    · refine vx_catch (E := xAE) (name := xAE) hown [(⟨0, 14, 17, 13⟩ : ExceptionTableEntry)] (⟨0, 14, 21, 15⟩ : ExceptionTableEntry) [] htb (fun z hz => by obtain rfl := List.mem_singleton.mp hz; exact Or.inr ⟨by decide, xIA, (hT _ mh_5), hE.1.2.1.2.2.2.2.2⟩) (by decide) (by decide) (hT _ mh_6) (va_Nw.use rfl hE.1.2.1.2.2.2.2.1) hce hcv hcl ?_
      refine lv_astore hx hb d_Lw_binary_21 hl (by decide) rfl (fun ls hl => ?_)
      refine lv_iconst hx hb d_Lw_binary_23 ic_2 ?_
      exact vx_ret (W.iret hx hb hr (fun t ht _ => Or.inl ⟨_, hk, rfl, by rw [ht]; exact hP1, hD, hS1.F ht⟩) (fun _ h => nomatch h) d_Lw_binary_24)
theorem d_Lw_minus_0 : decode b_Lw_minus 0 = .ok (.aload 4, 2) := by decide +kernel
theorem d_Lw_minus_2 : decode b_Lw_minus 2 = .ok (.iconst 0, 1) := by decide +kernel
theorem d_Lw_minus_3 : decode b_Lw_minus 3 = .ok (.aload_n 0, 1) := by decide +kernel
theorem d_Lw_minus_4 : decode b_Lw_minus 4 = .ok (.lload_n 1, 1) := by decide +kernel
theorem d_Lw_minus_5 : decode b_Lw_minus 5 = .ok (.iload_n 3, 1) := by decide +kernel
theorem d_Lw_minus_6 : decode b_Lw_minus 6 = .ok (.invokevirtual 17, 3) := by decide +kernel
theorem d_Lw_minus_9 : decode b_Lw_minus 9 = .ok (.lastore, 1) := by decide +kernel
theorem d_Lw_minus_10 : decode b_Lw_minus 10 = .ok (.goto 7, 3) := by decide +kernel
theorem d_Lw_minus_13 : decode b_Lw_minus 13 = .ok (.astore 5, 2) := by decide +kernel
theorem d_Lw_minus_15 : decode b_Lw_minus 15 = .ok (.iconst 1, 1) := by decide +kernel
theorem d_Lw_minus_16 : decode b_Lw_minus 16 = .ok (.ireturn, 1) := by decide +kernel
theorem d_Lw_minus_17 : decode b_Lw_minus 17 = .ok (.iconst 0, 1) := by decide +kernel
theorem d_Lw_minus_18 : decode b_Lw_minus 18 = .ok (.ireturn, 1) := by decide +kernel
set_option maxHeartbeats 4000000 in
set_option maxRecDepth 100000 in
theorem c_Lw_minus (l : Launch) (hst : l.stackTraces = false) (D : va_G) (A : Nat → Prop) (cI cL cC : ClassId) (ad : Nat → Nat) (ao : Nat) (Y : va_W) (fo : Nat → Int64) (len : Int32) (tk : Int32) (row : Nat → Int32) (dig : Int64) (pw : Int32) (used : Int32) (lost : Int32) (lim : Nat → Int64) (oF oD : Nat) (kA vA : Nat → Nat) (n : Nat) (a1 : Int64) (a2 : Int32) (r : Nat ⊕ Int64) (h : F_PB_minus n a1 a2 = some r) : vx_Met l y_Lw_minus (.codeWith y_Lw_minus b_Lw_minus 6 (some .int) [(0, 10, 13, 13)] :: BIG) ({ frames := 7, cells := 1, slots := 6, locals := 113 } : Room) (va_Pc [.ref (ad 0), .long a1, .int a2, .ref ao] (ePre D A (tysV cI cL cC) (gC cI cL cC ad ((ao, .inl (cL, 1, .inr (.inl fo))) :: Y) len tk row dig pw used lost lim) (fun U => eE oF oD kA vA A U U.heap))) (hQl D A r (gC cI cL cC ad ((ao, .inl (cL, 1, .inr (.inl fo))) :: Y) len tk row dig pw used lost lim) (fun v => gC cI cL cC ad ((ao, .inl (cL, 1, .inr (.inl (vp_updL fo 0 v)))) :: Y) len tk row dig pw used lost lim)) (fun _ _ _ => False) 1 6 A := by
  refine vx_ofWH (cc := b_Lw_minus) (maxL := 6) (ret := some .int) (hh := [(0, 10, 13, 13)]) rfl rfl ?_
  intro p e s m args below meth c s₁ B hml hv
  obtain ⟨rfl, ⟨hNB, hP, hK, hD⟩, hE⟩ := hv
  have hx := B.exec
  have hb := B.bytes
  have hts := atoms_spec (ws := Cond.codeWith y_Lw_minus b_Lw_minus 6 (some .int) [(0, 10, 13, 13)] :: BIG) B.pre
  have hT : ∀ w ∈ BIG, w.before _ s = true := fun w h => hts w (List.mem_cons_of_mem _ h)
  have htb := vx_table (x := y_Lw_minus) B (hts _ List.mem_cons_self)
  have hown : s.vm.findClass R_Lw = some m.cls := findClass_of_methodNamed B.named
  have hlocks := B.notSynchronized
  have hr := B.returns
  have hS : va_S A s.heap s.heap [] := va_S.rf
  have hl := lv_entry [.ref (ad 0), .long a1, .int a2, .ref ao] (n := 6) (Nat.le_of_ble_eq_true rfl)
  rw [lg_entry_eq]
  generalize (lg_sl [.ref (ad 0), .long a1, .int a2, .ref ao] ++ List.replicate (6 - (lg_sl [.ref (ad 0), .long a1, .int a2, .ref ao]).length) Slot.unset).toArray = ls at hl ⊢
  have hl : lv_has ls 6 [(0, .ref (ad 0)), (1, .long a1), (3, .int a2), (4, .ref ao)] := hl
  refine lv_aload hx hb d_Lw_minus_0 (lv_at hl 3 rfl) ?_
  refine lv_iconst hx hb d_Lw_minus_2 ic_0 ?_
  refine lv_aload_n hx hb d_Lw_minus_3 rfl (lv_at hl 0 rfl) ?_
  refine lv_lload_n hx hb d_Lw_minus_4 rfl (lv_at hl 1 rfl) ?_
  refine lv_iload_n hx hb d_Lw_minus_5 rfl (lv_at hl 2 rfl) ?_
  refine q_XVl (C := R_PB) (b := ad 0) (As := [.long a1, .int a2]) (rest := [.int 0, .ref ao]) (n := 2) hx hb hml hown hts (c_PB_minus l hst oF oD kA vA n (ad 0) a1 a2 r h) rfl rfl mh_7 mh_8 mh_9 mh_10 mh_4 (by decide +kernel) ⟨Nat.le_of_ble_eq_true rfl, Nat.le_of_ble_eq_true rfl⟩ (va_recv hK hP (ci := 0) rfl (q0 := 0) rfl) (xPre_of (A := A) rfl (State.WarmedH.refl s) hS hE) rfl hl.1 rfl (Nat.le_of_ble_eq_true rfl) d_Lw_minus_6 ⟨Nat.le_of_ble_eq_true rfl, Nat.le_of_ble_eq_true rfl⟩ (fun v hv => ?_) (fun k q ce H1 hk hk2 z1 z2 hce hcv hcl => ?_)
  · refine va_last hx hb hK hP hD hS 6 1 rfl rfl (nI_in (c := 0) (by decide) (by decide)) d_Lw_minus_9 (fun H locs hP hD hS => ?_)
    have hP : va_P D cls (gC cI cL cC ad ((ao, .inl (cL, 1, .inr (.inl (vp_updL fo 0 v)))) :: Y) len tk row dig pw used lost lim) H := hP
    have hD : va_D A (gC cI cL cC ad ((ao, .inl (cL, 1, .inr (.inl (vp_updL fo 0 v)))) :: Y) len tk row dig pw used lost lim) := hD
    refine lv_goto (tgt := 17) hx hb d_Lw_minus_10 rfl ?_
    refine lv_iconst hx hb d_Lw_minus_17 ic_0 ?_
    exact vx_ret (W.widen (Nat.le_of_ble_eq_true rfl) (Nat.le_of_ble_eq_true rfl) (W.iret hx hb hr (fun t ht _ => Or.inr ⟨v, hv, rfl, by rw [ht]; exact hP, hD, hS.F ht⟩) hS.2.2 d_Lw_minus_18))
  · have hS1 : va_S A s.heap H1 [] := ⟨z1, fun q h _ => z2 q h, fun _ h => nomatch h⟩
    have hP1 : va_P D cls (gC cI cL cC ad ((ao, .inl (cL, 1, .inr (.inl fo))) :: Y) len tk row dig pw used lost lim) H1 := hP.kept (fun k x hx => z2 x.1 (vx_lt hP hx))
    have hk1 : k = 1 := xk_PB_minus h hk
    subst hk1
    refine vx_catch (E := xIA) (name := xIA) hown [] (⟨0, 10, 13, 13⟩ : ExceptionTableEntry) [] htb (fun z hz => nomatch hz) (by decide) (by decide) (hT _ mh_5) (va_Nw.use rfl hE.1.2.1.2.2.2.1) hce hcv hcl ?_
    refine lv_astore hx hb d_Lw_minus_13 hl (by decide) rfl (fun ls hl => ?_)
    refine lv_iconst hx hb d_Lw_minus_15 ic_1 ?_
    exact vx_ret (W.iret hx hb hr (fun t ht _ => Or.inl ⟨_, hk, rfl, by rw [ht]; exact hP1, hD, hS1.F ht⟩) (fun _ h => nomatch h) d_Lw_minus_16)
theorem d_Lw_cast_0 : decode b_Lw_cast 0 = .ok (.aload 5, 2) := by decide +kernel
theorem d_Lw_cast_2 : decode b_Lw_cast 2 = .ok (.iconst 0, 1) := by decide +kernel
theorem d_Lw_cast_3 : decode b_Lw_cast 3 = .ok (.aload_n 0, 1) := by decide +kernel
theorem d_Lw_cast_4 : decode b_Lw_cast 4 = .ok (.lload_n 1, 1) := by decide +kernel
theorem d_Lw_cast_5 : decode b_Lw_cast 5 = .ok (.iload_n 3, 1) := by decide +kernel
theorem d_Lw_cast_6 : decode b_Lw_cast 6 = .ok (.iload 4, 2) := by decide +kernel
theorem d_Lw_cast_8 : decode b_Lw_cast 8 = .ok (.invokevirtual 21, 3) := by decide +kernel
theorem d_Lw_cast_11 : decode b_Lw_cast 11 = .ok (.lastore, 1) := by decide +kernel
theorem d_Lw_cast_12 : decode b_Lw_cast 12 = .ok (.goto 7, 3) := by decide +kernel
theorem d_Lw_cast_15 : decode b_Lw_cast 15 = .ok (.astore 6, 2) := by decide +kernel
theorem d_Lw_cast_17 : decode b_Lw_cast 17 = .ok (.iconst 1, 1) := by decide +kernel
theorem d_Lw_cast_18 : decode b_Lw_cast 18 = .ok (.ireturn, 1) := by decide +kernel
theorem d_Lw_cast_19 : decode b_Lw_cast 19 = .ok (.iconst 0, 1) := by decide +kernel
theorem d_Lw_cast_20 : decode b_Lw_cast 20 = .ok (.ireturn, 1) := by decide +kernel
set_option maxHeartbeats 4000000 in
set_option maxRecDepth 100000 in
theorem c_Lw_cast (l : Launch) (hst : l.stackTraces = false) (D : va_G) (A : Nat → Prop) (cI cL cC : ClassId) (ad : Nat → Nat) (ao : Nat) (Y : va_W) (fo : Nat → Int64) (len : Int32) (tk : Int32) (row : Nat → Int32) (dig : Int64) (pw : Int32) (used : Int32) (lost : Int32) (lim : Nat → Int64) (oF oD : Nat) (kA vA : Nat → Nat) (n : Nat) (a1 : Int64) (a2 : Int32) (a3 : Int32) (r : Nat ⊕ Int64) (h : F_PB_cast n a1 a2 a3 = some r) : vx_Met l y_Lw_cast (.codeWith y_Lw_cast b_Lw_cast 7 (some .int) [(0, 12, 15, 13)] :: BIG) ({ frames := 7, cells := 1, slots := 6, locals := 121 } : Room) (va_Pc [.ref (ad 0), .long a1, .int a2, .int a3, .ref ao] (ePre D A (tysV cI cL cC) (gC cI cL cC ad ((ao, .inl (cL, 1, .inr (.inl fo))) :: Y) len tk row dig pw used lost lim) (fun U => eE oF oD kA vA A U U.heap))) (hQl D A r (gC cI cL cC ad ((ao, .inl (cL, 1, .inr (.inl fo))) :: Y) len tk row dig pw used lost lim) (fun v => gC cI cL cC ad ((ao, .inl (cL, 1, .inr (.inl (vp_updL fo 0 v)))) :: Y) len tk row dig pw used lost lim)) (fun _ _ _ => False) 1 6 A := by
  refine vx_ofWH (cc := b_Lw_cast) (maxL := 7) (ret := some .int) (hh := [(0, 12, 15, 13)]) rfl rfl ?_
  intro p e s m args below meth c s₁ B hml hv
  obtain ⟨rfl, ⟨hNB, hP, hK, hD⟩, hE⟩ := hv
  have hx := B.exec
  have hb := B.bytes
  have hts := atoms_spec (ws := Cond.codeWith y_Lw_cast b_Lw_cast 7 (some .int) [(0, 12, 15, 13)] :: BIG) B.pre
  have hT : ∀ w ∈ BIG, w.before _ s = true := fun w h => hts w (List.mem_cons_of_mem _ h)
  have htb := vx_table (x := y_Lw_cast) B (hts _ List.mem_cons_self)
  have hown : s.vm.findClass R_Lw = some m.cls := findClass_of_methodNamed B.named
  have hlocks := B.notSynchronized
  have hr := B.returns
  have hS : va_S A s.heap s.heap [] := va_S.rf
  have hl := lv_entry [.ref (ad 0), .long a1, .int a2, .int a3, .ref ao] (n := 7) (Nat.le_of_ble_eq_true rfl)
  rw [lg_entry_eq]
  generalize (lg_sl [.ref (ad 0), .long a1, .int a2, .int a3, .ref ao] ++ List.replicate (7 - (lg_sl [.ref (ad 0), .long a1, .int a2, .int a3, .ref ao]).length) Slot.unset).toArray = ls at hl ⊢
  have hl : lv_has ls 7 [(0, .ref (ad 0)), (1, .long a1), (3, .int a2), (4, .int a3), (5, .ref ao)] := hl
  refine lv_aload hx hb d_Lw_cast_0 (lv_at hl 4 rfl) ?_
  refine lv_iconst hx hb d_Lw_cast_2 ic_0 ?_
  refine lv_aload_n hx hb d_Lw_cast_3 rfl (lv_at hl 0 rfl) ?_
  refine lv_lload_n hx hb d_Lw_cast_4 rfl (lv_at hl 1 rfl) ?_
  refine lv_iload_n hx hb d_Lw_cast_5 rfl (lv_at hl 2 rfl) ?_
  refine lv_iload hx hb d_Lw_cast_6 (lv_at hl 3 rfl) ?_
  refine q_XVl (C := R_PB) (b := ad 0) (As := [.long a1, .int a2, .int a3]) (rest := [.int 0, .ref ao]) (n := 3) hx hb hml hown hts (c_PB_cast l hst oF oD kA vA n (ad 0) a1 a2 a3 r h) rfl rfl mh_11 mh_12 mh_13 mh_14 mh_4 (by decide +kernel) ⟨Nat.le_of_ble_eq_true rfl, Nat.le_of_ble_eq_true rfl⟩ (va_recv hK hP (ci := 0) rfl (q0 := 0) rfl) (xPre_of (A := A) rfl (State.WarmedH.refl s) hS hE) rfl hl.1 rfl (Nat.le_of_ble_eq_true rfl) d_Lw_cast_8 ⟨Nat.le_of_ble_eq_true rfl, Nat.le_of_ble_eq_true rfl⟩ (fun v hv => ?_) (fun k q ce H1 hk hk2 z1 z2 hce hcv hcl => ?_)
  · refine va_last hx hb hK hP hD hS 6 1 rfl rfl (nI_in (c := 0) (by decide) (by decide)) d_Lw_cast_11 (fun H locs hP hD hS => ?_)
    have hP : va_P D cls (gC cI cL cC ad ((ao, .inl (cL, 1, .inr (.inl (vp_updL fo 0 v)))) :: Y) len tk row dig pw used lost lim) H := hP
    have hD : va_D A (gC cI cL cC ad ((ao, .inl (cL, 1, .inr (.inl (vp_updL fo 0 v)))) :: Y) len tk row dig pw used lost lim) := hD
    refine lv_goto (tgt := 19) hx hb d_Lw_cast_12 rfl ?_
    refine lv_iconst hx hb d_Lw_cast_19 ic_0 ?_
    exact vx_ret (W.widen (Nat.le_of_ble_eq_true rfl) (Nat.le_of_ble_eq_true rfl) (W.iret hx hb hr (fun t ht _ => Or.inr ⟨v, hv, rfl, by rw [ht]; exact hP, hD, hS.F ht⟩) hS.2.2 d_Lw_cast_20))
  · have hS1 : va_S A s.heap H1 [] := ⟨z1, fun q h _ => z2 q h, fun _ h => nomatch h⟩
    have hP1 : va_P D cls (gC cI cL cC ad ((ao, .inl (cL, 1, .inr (.inl fo))) :: Y) len tk row dig pw used lost lim) H1 := hP.kept (fun k x hx => z2 x.1 (vx_lt hP hx))
    have hk1 : k = 1 := xk_PB_cast h hk
    subst hk1
    refine vx_catch (E := xIA) (name := xIA) hown [] (⟨0, 12, 15, 13⟩ : ExceptionTableEntry) [] htb (fun z hz => nomatch hz) (by decide) (by decide) (hT _ mh_5) (va_Nw.use rfl hE.1.2.1.2.2.2.1) hce hcv hcl ?_
    refine lv_astore hx hb d_Lw_cast_15 hl (by decide) rfl (fun ls hl => ?_)
    refine lv_iconst hx hb d_Lw_cast_17 ic_1 ?_
    exact vx_ret (W.iret hx hb hr (fun t ht _ => Or.inl ⟨_, hk, rfl, by rw [ht]; exact hP1, hD, hS1.F ht⟩) (fun _ h => nomatch h) d_Lw_cast_18)
theorem d_Lw_compare_0 : decode b_Lw_compare 0 = .ok (.aload 6, 2) := by decide +kernel
theorem d_Lw_compare_2 : decode b_Lw_compare 2 = .ok (.iconst 0, 1) := by decide +kernel
theorem d_Lw_compare_3 : decode b_Lw_compare 3 = .ok (.aload_n 0, 1) := by decide +kernel
theorem d_Lw_compare_4 : decode b_Lw_compare 4 = .ok (.lload_n 1, 1) := by decide +kernel
theorem d_Lw_compare_5 : decode b_Lw_compare 5 = .ok (.lload_n 3, 1) := by decide +kernel
theorem d_Lw_compare_6 : decode b_Lw_compare 6 = .ok (.iload 5, 2) := by decide +kernel
theorem d_Lw_compare_8 : decode b_Lw_compare 8 = .ok (.invokevirtual 25, 3) := by decide +kernel
theorem d_Lw_compare_11 : decode b_Lw_compare 11 = .ok (.i2l, 1) := by decide +kernel
theorem d_Lw_compare_12 : decode b_Lw_compare 12 = .ok (.lastore, 1) := by decide +kernel
theorem d_Lw_compare_13 : decode b_Lw_compare 13 = .ok (.goto 7, 3) := by decide +kernel
theorem d_Lw_compare_16 : decode b_Lw_compare 16 = .ok (.astore 7, 2) := by decide +kernel
theorem d_Lw_compare_18 : decode b_Lw_compare 18 = .ok (.iconst 1, 1) := by decide +kernel
theorem d_Lw_compare_19 : decode b_Lw_compare 19 = .ok (.ireturn, 1) := by decide +kernel
theorem d_Lw_compare_20 : decode b_Lw_compare 20 = .ok (.iconst 0, 1) := by decide +kernel
theorem d_Lw_compare_21 : decode b_Lw_compare 21 = .ok (.ireturn, 1) := by decide +kernel
set_option maxHeartbeats 4000000 in
set_option maxRecDepth 100000 in
theorem c_Lw_compare (l : Launch) (hst : l.stackTraces = false) (D : va_G) (A : Nat → Prop) (cI cL cC : ClassId) (ad : Nat → Nat) (ao : Nat) (Y : va_W) (fo : Nat → Int64) (len : Int32) (tk : Int32) (row : Nat → Int32) (dig : Int64) (pw : Int32) (used : Int32) (lost : Int32) (lim : Nat → Int64) (oF oD : Nat) (kA vA : Nat → Nat) (n : Nat) (a1 : Int64) (a2 : Int64) (a3 : Int32) (r : Nat ⊕ Int32) (h : F_PB_compare n a1 a2 a3 = some r) : vx_Met l y_Lw_compare (.codeWith y_Lw_compare b_Lw_compare 8 (some .int) [(0, 13, 16, 13)] :: BIG) ({ frames := 7, cells := 1, slots := 6, locals := 116 } : Room) (va_Pc [.ref (ad 0), .long a1, .long a2, .int a3, .ref ao] (ePre D A (tysV cI cL cC) (gC cI cL cC ad ((ao, .inl (cL, 1, .inr (.inl fo))) :: Y) len tk row dig pw used lost lim) (fun U => eE oF oD kA vA A U U.heap))) (hQi D A r (gC cI cL cC ad ((ao, .inl (cL, 1, .inr (.inl fo))) :: Y) len tk row dig pw used lost lim) (fun v => gC cI cL cC ad ((ao, .inl (cL, 1, .inr (.inl (vp_updL fo 0 v.toInt64)))) :: Y) len tk row dig pw used lost lim)) (fun _ _ _ => False) 1 6 A := by
  refine vx_ofWH (cc := b_Lw_compare) (maxL := 8) (ret := some .int) (hh := [(0, 13, 16, 13)]) rfl rfl ?_
  intro p e s m args below meth c s₁ B hml hv
  obtain ⟨rfl, ⟨hNB, hP, hK, hD⟩, hE⟩ := hv
  have hx := B.exec
  have hb := B.bytes
  have hts := atoms_spec (ws := Cond.codeWith y_Lw_compare b_Lw_compare 8 (some .int) [(0, 13, 16, 13)] :: BIG) B.pre
  have hT : ∀ w ∈ BIG, w.before _ s = true := fun w h => hts w (List.mem_cons_of_mem _ h)
  have htb := vx_table (x := y_Lw_compare) B (hts _ List.mem_cons_self)
  have hown : s.vm.findClass R_Lw = some m.cls := findClass_of_methodNamed B.named
  have hlocks := B.notSynchronized
  have hr := B.returns
  have hS : va_S A s.heap s.heap [] := va_S.rf
  have hl := lv_entry [.ref (ad 0), .long a1, .long a2, .int a3, .ref ao] (n := 8) (Nat.le_of_ble_eq_true rfl)
  rw [lg_entry_eq]
  generalize (lg_sl [.ref (ad 0), .long a1, .long a2, .int a3, .ref ao] ++ List.replicate (8 - (lg_sl [.ref (ad 0), .long a1, .long a2, .int a3, .ref ao]).length) Slot.unset).toArray = ls at hl ⊢
  have hl : lv_has ls 8 [(0, .ref (ad 0)), (1, .long a1), (3, .long a2), (5, .int a3), (6, .ref ao)] := hl
  refine lv_aload hx hb d_Lw_compare_0 (lv_at hl 4 rfl) ?_
  refine lv_iconst hx hb d_Lw_compare_2 ic_0 ?_
  refine lv_aload_n hx hb d_Lw_compare_3 rfl (lv_at hl 0 rfl) ?_
  refine lv_lload_n hx hb d_Lw_compare_4 rfl (lv_at hl 1 rfl) ?_
  refine lv_lload_n hx hb d_Lw_compare_5 rfl (lv_at hl 2 rfl) ?_
  refine lv_iload hx hb d_Lw_compare_6 (lv_at hl 3 rfl) ?_
  refine q_XVi (C := R_PB) (b := ad 0) (As := [.long a1, .long a2, .int a3]) (rest := [.int 0, .ref ao]) (n := 3) hx hb hml hown hts (c_PB_compare l hst oF oD kA vA n (ad 0) a1 a2 a3 r h) rfl rfl mh_15 mh_16 mh_17 mh_18 mh_4 (by decide +kernel) ⟨Nat.le_of_ble_eq_true rfl, Nat.le_of_ble_eq_true rfl⟩ (va_recv hK hP (ci := 0) rfl (q0 := 0) rfl) (xPre_of (A := A) rfl (State.WarmedH.refl s) hS hE) rfl hl.1 rfl (Nat.le_of_ble_eq_true rfl) d_Lw_compare_8 ⟨Nat.le_of_ble_eq_true rfl, Nat.le_of_ble_eq_true rfl⟩ (fun v hv => ?_) (fun k q ce H1 hk hk2 z1 z2 hce hcv hcl => ?_)
  · refine lv_i2l hx hb d_Lw_compare_11 rfl ?_
    refine va_last hx hb hK hP hD hS 6 1 rfl rfl (nI_in (c := 0) (by decide) (by decide)) d_Lw_compare_12 (fun H locs hP hD hS => ?_)
    have hP : va_P D cls (gC cI cL cC ad ((ao, .inl (cL, 1, .inr (.inl (vp_updL fo 0 v.toInt64)))) :: Y) len tk row dig pw used lost lim) H := hP
    have hD : va_D A (gC cI cL cC ad ((ao, .inl (cL, 1, .inr (.inl (vp_updL fo 0 v.toInt64)))) :: Y) len tk row dig pw used lost lim) := hD
    refine lv_goto (tgt := 20) hx hb d_Lw_compare_13 rfl ?_
    refine lv_iconst hx hb d_Lw_compare_20 ic_0 ?_
    exact vx_ret (W.widen (Nat.le_of_ble_eq_true rfl) (Nat.le_of_ble_eq_true rfl) (W.iret hx hb hr (fun t ht _ => Or.inr ⟨v, hv, rfl, by rw [ht]; exact hP, hD, hS.F ht⟩) hS.2.2 d_Lw_compare_21))
  · have hS1 : va_S A s.heap H1 [] := ⟨z1, fun q h _ => z2 q h, fun _ h => nomatch h⟩
    have hP1 : va_P D cls (gC cI cL cC ad ((ao, .inl (cL, 1, .inr (.inl fo))) :: Y) len tk row dig pw used lost lim) H1 := hP.kept (fun k x hx => z2 x.1 (vx_lt hP hx))
    have hk1 : k = 1 := xk_PB_compare h hk
    subst hk1
    refine vx_catch (E := xIA) (name := xIA) hown [] (⟨0, 13, 16, 13⟩ : ExceptionTableEntry) [] htb (fun z hz => nomatch hz) (by decide) (by decide) (hT _ mh_5) (va_Nw.use rfl hE.1.2.1.2.2.2.1) hce hcv hcl ?_
    refine lv_astore hx hb d_Lw_compare_16 hl (by decide) rfl (fun ls hl => ?_)
    refine lv_iconst hx hb d_Lw_compare_18 ic_1 ?_
    exact vx_ret (W.iret hx hb hr (fun t ht _ => Or.inl ⟨_, hk, rfl, by rw [ht]; exact hP1, hD, hS1.F ht⟩) (fun _ h => nomatch h) d_Lw_compare_19)
theorem d_Lw_text_0 : decode b_Lw_text 0 = .ok (.aload 4, 2) := by decide +kernel
theorem d_Lw_text_2 : decode b_Lw_text 2 = .ok (.iconst 0, 1) := by decide +kernel
theorem d_Lw_text_3 : decode b_Lw_text 3 = .ok (.aload_n 0, 1) := by decide +kernel
theorem d_Lw_text_4 : decode b_Lw_text 4 = .ok (.lload_n 1, 1) := by decide +kernel
theorem d_Lw_text_5 : decode b_Lw_text 5 = .ok (.iload_n 3, 1) := by decide +kernel
theorem d_Lw_text_6 : decode b_Lw_text 6 = .ok (.invokevirtual 29, 3) := by decide +kernel
theorem d_Lw_text_9 : decode b_Lw_text 9 = .ok (.i2l, 1) := by decide +kernel
theorem d_Lw_text_10 : decode b_Lw_text 10 = .ok (.lastore, 1) := by decide +kernel
theorem d_Lw_text_11 : decode b_Lw_text 11 = .ok (.goto 7, 3) := by decide +kernel
theorem d_Lw_text_14 : decode b_Lw_text 14 = .ok (.astore 5, 2) := by decide +kernel
theorem d_Lw_text_16 : decode b_Lw_text 16 = .ok (.iconst 1, 1) := by decide +kernel
theorem d_Lw_text_17 : decode b_Lw_text 17 = .ok (.ireturn, 1) := by decide +kernel
theorem d_Lw_text_18 : decode b_Lw_text 18 = .ok (.iconst 0, 1) := by decide +kernel
theorem d_Lw_text_19 : decode b_Lw_text 19 = .ok (.ireturn, 1) := by decide +kernel
set_option maxHeartbeats 4000000 in
set_option maxRecDepth 100000 in
theorem c_Lw_text_ok (l : Launch) (hst : l.stackTraces = false) (D : va_G) (A : Nat → Prop) (cI cL cC : ClassId) (ad : Nat → Nat) (ao : Nat) (Y : va_W) (fo : Nat → Int64) (len : Int32) (tk : Int32) (row : Nat → Int32) (dig : Int64) (pw : Int32) (used : Int32) (lost : Int32) (lim : Nat → Int64) (oF oD : Nat) (kA vA : Nat → Nat) (n : Nat) (a1 : Int64) (a2 : Int32) (r : Int32 × Int32 × Int32 × (Nat → Int32) × Int64 × Int32 × Int32 × Int32 × (Nat → Int64)) (h : F_PB_text n len tk row dig pw used lost lim a1 a2 = some r) : vx_Met l y_Lw_text (.codeWith y_Lw_text b_Lw_text 6 (some .int) [(0, 11, 14, 13)] :: BIG) ({ frames := 9, cells := 1, slots := 6, locals := 204 } : Room) (va_Pc [.ref (ad 0), .long a1, .int a2, .ref ao] (ePre D A (tysV cI cL cC) (gC cI cL cC ad ((ao, .inl (cL, 1, .inr (.inl fo))) :: Y) len tk row dig pw used lost lim) (fun U => eE oF oD kA vA A U U.heap))) (hOk D A (gC cI cL cC ad ((ao, .inl (cL, 1, .inr (.inl (vp_updL fo 0 (r.1).toInt64)))) :: Y) r.2.1 r.2.2.1 r.2.2.2.1 r.2.2.2.2.1 r.2.2.2.2.2.1 r.2.2.2.2.2.2.1 r.2.2.2.2.2.2.2.1 r.2.2.2.2.2.2.2.2)) (fun _ _ _ => False) 1 6 A := by
  refine vx_ofWH (cc := b_Lw_text) (maxL := 6) (ret := some .int) (hh := [(0, 11, 14, 13)]) rfl rfl ?_
  intro p e s m args below meth c s₁ B hml hv
  obtain ⟨rfl, ⟨hNB, hP, hK, hD⟩, hE⟩ := hv
  have hx := B.exec
  have hb := B.bytes
  have hts := atoms_spec (ws := Cond.codeWith y_Lw_text b_Lw_text 6 (some .int) [(0, 11, 14, 13)] :: BIG) B.pre
  have hT : ∀ w ∈ BIG, w.before _ s = true := fun w h => hts w (List.mem_cons_of_mem _ h)
  have htb := vx_table (x := y_Lw_text) B (hts _ List.mem_cons_self)
  have hown : s.vm.findClass R_Lw = some m.cls := findClass_of_methodNamed B.named
  have hlocks := B.notSynchronized
  have hr := B.returns
  have hS : va_S A s.heap s.heap [] := va_S.rf
  have hl := lv_entry [.ref (ad 0), .long a1, .int a2, .ref ao] (n := 6) (Nat.le_of_ble_eq_true rfl)
  rw [lg_entry_eq]
  generalize (lg_sl [.ref (ad 0), .long a1, .int a2, .ref ao] ++ List.replicate (6 - (lg_sl [.ref (ad 0), .long a1, .int a2, .ref ao]).length) Slot.unset).toArray = ls at hl ⊢
  have hl : lv_has ls 6 [(0, .ref (ad 0)), (1, .long a1), (3, .int a2), (4, .ref ao)] := hl
  refine lv_aload hx hb d_Lw_text_0 (lv_at hl 3 rfl) ?_
  refine lv_iconst hx hb d_Lw_text_2 ic_0 ?_
  refine lv_aload_n hx hb d_Lw_text_3 rfl (lv_at hl 0 rfl) ?_
  refine lv_lload_n hx hb d_Lw_text_4 rfl (lv_at hl 1 rfl) ?_
  refine lv_iload_n hx hb d_Lw_text_5 rfl (lv_at hl 2 rfl) ?_
  refine q_EV (D := D) (A := A) (E := fun U => eE oF oD kA vA A U U.heap) (C := R_PB) (b := ad 0) (As := [.long a1, .int a2]) (rest := [.int 0, .ref ao]) (n := 2) hx hb hml hown hts (c_PB_text l D A cI cL cC ad ((ao, .inl (cL, 1, .inr (.inl fo))) :: Y) len tk row dig pw used lost lim oF oD kA vA n a1 a2 r h) rfl rfl mh_19 mh_20 mh_21 mh_22 mh_4 (by decide +kernel) ⟨Nat.le_of_ble_eq_true rfl, Nat.le_of_ble_eq_true rfl⟩ (va_recv hK hP (ci := 0) rfl (q0 := 0) rfl) (fun U g mk a h => eE_bl U g mk a h) (fun U hU hW => eEe_of hU hW hS hE) hNB hK hP hD hS rfl hl.1 rfl (Nat.le_of_ble_eq_true rfl) d_Lw_text_6 ⟨Nat.zero_le _, Nat.zero_le _⟩ (fun H locs hP hD hS => ?_)
  have hP : va_P D cls (gC cI cL cC ad ((ao, .inl (cL, 1, .inr (.inl fo))) :: Y) r.2.1 r.2.2.1 r.2.2.2.1 r.2.2.2.2.1 r.2.2.2.2.2.1 r.2.2.2.2.2.2.1 r.2.2.2.2.2.2.2.1 r.2.2.2.2.2.2.2.2) H := hP
  have hD : va_D A (gC cI cL cC ad ((ao, .inl (cL, 1, .inr (.inl fo))) :: Y) r.2.1 r.2.2.1 r.2.2.2.1 r.2.2.2.2.1 r.2.2.2.2.2.1 r.2.2.2.2.2.2.1 r.2.2.2.2.2.2.2.1 r.2.2.2.2.2.2.2.2) := hD
  refine lv_i2l hx hb d_Lw_text_9 rfl ?_
  refine va_last hx hb hK hP hD hS 6 1 rfl rfl (nI_in (c := 0) (by decide) (by decide)) d_Lw_text_10 (fun H locs hP hD hS => ?_)
  have hP : va_P D cls (gC cI cL cC ad ((ao, .inl (cL, 1, .inr (.inl (vp_updL fo 0 (r.1).toInt64)))) :: Y) r.2.1 r.2.2.1 r.2.2.2.1 r.2.2.2.2.1 r.2.2.2.2.2.1 r.2.2.2.2.2.2.1 r.2.2.2.2.2.2.2.1 r.2.2.2.2.2.2.2.2) H := hP
  have hD : va_D A (gC cI cL cC ad ((ao, .inl (cL, 1, .inr (.inl (vp_updL fo 0 (r.1).toInt64)))) :: Y) r.2.1 r.2.2.1 r.2.2.2.1 r.2.2.2.2.1 r.2.2.2.2.2.1 r.2.2.2.2.2.2.1 r.2.2.2.2.2.2.2.1 r.2.2.2.2.2.2.2.2) := hD
  refine lv_goto (tgt := 18) hx hb d_Lw_text_11 rfl ?_
  refine lv_iconst hx hb d_Lw_text_18 ic_0 ?_
  exact vx_ret (W.widen (Nat.le_of_ble_eq_true rfl) (Nat.le_of_ble_eq_true rfl) (W.iret hx hb hr (fun t ht _ => ⟨rfl, by rw [ht]; exact hP, hD, hS.F ht⟩) hS.2.2 d_Lw_text_19))
set_option maxHeartbeats 4000000 in
set_option maxRecDepth 100000 in
theorem c_Lw_text_bad (l : Launch) (hst : l.stackTraces = false) (D : va_G) (A : Nat → Prop) (cI cL cC : ClassId) (ad : Nat → Nat) (ao : Nat) (Y : va_W) (fo : Nat → Int64) (len : Int32) (tk : Int32) (row : Nat → Int32) (dig : Int64) (pw : Int32) (used : Int32) (lost : Int32) (lim : Nat → Int64) (oF oD : Nat) (kA vA : Nat → Nat) (n : Nat) (a1 : Int64) (a2 : Int32) (r : Nat ⊕ Int32) (h : F_PB_textX n a1 a2 = some r) : vx_Met l y_Lw_text (.codeWith y_Lw_text b_Lw_text 6 (some .int) [(0, 11, 14, 13)] :: BIG) ({ frames := 9, cells := 1, slots := 6, locals := 204 } : Room) (va_Pc [.ref (ad 0), .long a1, .int a2, .ref ao] (ePre D A (tysV cI cL cC) (gC cI cL cC ad ((ao, .inl (cL, 1, .inr (.inl fo))) :: Y) len tk row dig pw used lost lim) (fun U => eE oF oD kA vA A U U.heap))) (hQi D A r (gC cI cL cC ad ((ao, .inl (cL, 1, .inr (.inl fo))) :: Y) len tk row dig pw used lost lim) (fun v => gC cI cL cC ad ((ao, .inl (cL, 1, .inr (.inl (vp_updL fo 0 v.toInt64)))) :: Y) len tk row dig pw used lost lim)) (fun _ _ _ => False) 1 6 A := by
  refine vx_ofWH (cc := b_Lw_text) (maxL := 6) (ret := some .int) (hh := [(0, 11, 14, 13)]) rfl rfl ?_
  intro p e s m args below meth c s₁ B hml hv
  obtain ⟨rfl, ⟨hNB, hP, hK, hD⟩, hE⟩ := hv
  have hx := B.exec
  have hb := B.bytes
  have hts := atoms_spec (ws := Cond.codeWith y_Lw_text b_Lw_text 6 (some .int) [(0, 11, 14, 13)] :: BIG) B.pre
  have hT : ∀ w ∈ BIG, w.before _ s = true := fun w h => hts w (List.mem_cons_of_mem _ h)
  have htb := vx_table (x := y_Lw_text) B (hts _ List.mem_cons_self)
  have hown : s.vm.findClass R_Lw = some m.cls := findClass_of_methodNamed B.named
  have hlocks := B.notSynchronized
  have hr := B.returns
  have hS : va_S A s.heap s.heap [] := va_S.rf
  have hl := lv_entry [.ref (ad 0), .long a1, .int a2, .ref ao] (n := 6) (Nat.le_of_ble_eq_true rfl)
  rw [lg_entry_eq]
  generalize (lg_sl [.ref (ad 0), .long a1, .int a2, .ref ao] ++ List.replicate (6 - (lg_sl [.ref (ad 0), .long a1, .int a2, .ref ao]).length) Slot.unset).toArray = ls at hl ⊢
  have hl : lv_has ls 6 [(0, .ref (ad 0)), (1, .long a1), (3, .int a2), (4, .ref ao)] := hl
  refine lv_aload hx hb d_Lw_text_0 (lv_at hl 3 rfl) ?_
  refine lv_iconst hx hb d_Lw_text_2 ic_0 ?_
  refine lv_aload_n hx hb d_Lw_text_3 rfl (lv_at hl 0 rfl) ?_
  refine lv_lload_n hx hb d_Lw_text_4 rfl (lv_at hl 1 rfl) ?_
  refine lv_iload_n hx hb d_Lw_text_5 rfl (lv_at hl 2 rfl) ?_
  refine q_XVi (C := R_PB) (b := ad 0) (As := [.long a1, .int a2]) (rest := [.int 0, .ref ao]) (n := 2) hx hb hml hown hts (c_PB_textX l hst oF oD kA vA n (ad 0) a1 a2 r h) rfl rfl mh_19 mh_20 mh_21 mh_22 mh_4 (by decide +kernel) ⟨Nat.le_of_ble_eq_true rfl, Nat.le_of_ble_eq_true rfl⟩ (va_recv hK hP (ci := 0) rfl (q0 := 0) rfl) (xPre_of (A := A) rfl (State.WarmedH.refl s) hS hE) rfl hl.1 rfl (Nat.le_of_ble_eq_true rfl) d_Lw_text_6 ⟨Nat.le_of_ble_eq_true rfl, Nat.le_of_ble_eq_true rfl⟩ (fun v hv => ?_) (fun k q ce H1 hk hk2 z1 z2 hce hcv hcl => ?_)
  · refine lv_i2l hx hb d_Lw_text_9 rfl ?_
    refine va_last hx hb hK hP hD hS 6 1 rfl rfl (nI_in (c := 0) (by decide) (by decide)) d_Lw_text_10 (fun H locs hP hD hS => ?_)
    have hP : va_P D cls (gC cI cL cC ad ((ao, .inl (cL, 1, .inr (.inl (vp_updL fo 0 v.toInt64)))) :: Y) len tk row dig pw used lost lim) H := hP
    have hD : va_D A (gC cI cL cC ad ((ao, .inl (cL, 1, .inr (.inl (vp_updL fo 0 v.toInt64)))) :: Y) len tk row dig pw used lost lim) := hD
    refine lv_goto (tgt := 18) hx hb d_Lw_text_11 rfl ?_
    refine lv_iconst hx hb d_Lw_text_18 ic_0 ?_
    exact vx_ret (W.widen (Nat.le_of_ble_eq_true rfl) (Nat.le_of_ble_eq_true rfl) (W.iret hx hb hr (fun t ht _ => Or.inr ⟨v, hv, rfl, by rw [ht]; exact hP, hD, hS.F ht⟩) hS.2.2 d_Lw_text_19))
  · have hS1 : va_S A s.heap H1 [] := ⟨z1, fun q h _ => z2 q h, fun _ h => nomatch h⟩
    have hP1 : va_P D cls (gC cI cL cC ad ((ao, .inl (cL, 1, .inr (.inl fo))) :: Y) len tk row dig pw used lost lim) H1 := hP.kept (fun k x hx => z2 x.1 (vx_lt hP hx))
    have hk1 : k = 1 := xk_PB_textX h hk
    subst hk1
    refine vx_catch (E := xIA) (name := xIA) hown [] (⟨0, 11, 14, 13⟩ : ExceptionTableEntry) [] htb (fun z hz => nomatch hz) (by decide) (by decide) (hT _ mh_5) (va_Nw.use rfl hE.1.2.1.2.2.2.1) hce hcv hcl ?_
    refine lv_astore hx hb d_Lw_text_14 hl (by decide) rfl (fun ls hl => ?_)
    refine lv_iconst hx hb d_Lw_text_16 ic_1 ?_
    exact vx_ret (W.iret hx hb hr (fun t ht _ => Or.inl ⟨_, hk, rfl, by rw [ht]; exact hP1, hD, hS1.F ht⟩) (fun _ h => nomatch h) d_Lw_text_17)
