/-! Own rows: a function's text and the walk's steps side by side; contracts that leave the heap as it is. -/
def lt_ {α β : Type} (e : α) (f : α → β) : β := f e
def gz_ {β : Type} (c : Prop) [Decidable c] (f : Option β) : Option β := if c then none else f
theorem lt_h {α β : Type} {e x : α} {f : α → β} {r : β} (hx : x = e) (h : lt_ e f = r) : f x = r := by subst hx; exact h
theorem lt_o {α β : Type} {e : α} {f : α → β} {r : β} (h : lt_ e f = r) : ∃ x, x = e ∧ f x = r := ⟨e, rfl, h⟩
theorem ite_t {β : Type} {c : Prop} [Decidable c] {a b r : β} (hc : c) (h : (if c then a else b) = r) : a = r := (if_pos hc).symm.trans h
theorem ite_f {β : Type} {c : Prop} [Decidable c] {a b r : β} (hc : ¬ c) (h : (if c then a else b) = r) : b = r := (if_neg hc).symm.trans h
theorem gz_n {β : Type} {c : Prop} [Decidable c] {f : Option β} {r : β} (h : gz_ c f = some r) : ¬ c := by
  intro hc
  unfold gz_ at h
  rw [if_pos hc] at h
  cases h
theorem gz_h {β : Type} {c : Prop} [Decidable c] {f : Option β} {r : β} (h : gz_ c f = some r) : f = some r := by
  have hc := gz_n h
  unfold gz_ at h
  rw [if_neg hc] at h
  exact h
theorem bd_o {α β : Type} {x : Option α} {f : α → Option β} {r : β} (h : x.bind f = some r) : ∃ v, x = some v ∧ f v = some r := by
  cases x with
  | none => cases h
  | some v => exact ⟨v, rfl, h⟩
theorem no_s {β : Type} {r : β} {P : Prop} (h : (none : Option β) = some r) : P := by cases h
theorem ite01 {c : Prop} [Decidable c] {a b : Int32} (ha : a = 0 ∨ a = 1) (hb : b = 0 ∨ b = 1) : (if c then a else b) = 0 ∨ (if c then a else b) = 1 := by
  by_cases h : c
  · rw [if_pos h]; exact ha
  · rw [if_neg h]; exact hb
theorem nb_1 {v : Int32} (h : v = 0 ∨ v = 1) : narrow .boolean (.int v) = .int v := by rcases h with rfl | rfl <;> rfl
theorem nb_2 {v : Int32} (h : v = 0 ∨ v = 1) : fits .boolean (.int v) = true := by rcases h with rfl | rfl <;> rfl
abbrev rK : Type := Int32 × Int32 × Int32 × Int64 × Int64
abbrev pQ (v : Value) : Array Value → State → Outcome → State → Prop := fun _ st oc t => oc = .returned (some v) ∧ t.heap = st.heap
def rAt (o : Nat) (K : rK) (U : State) : Prop := va_O R_Real o (fun _ => False) U U.heap ∧ va_OF R_Real "fractionBits" "I" (.int K.1) o (fun _ => False) U U.heap ∧ va_OF R_Real "topExponent" "I" (.int K.2.1) o (fun _ => False) U U.heap ∧ va_OF R_Real "lowestPower" "I" (.int K.2.2.1) o (fun _ => False) U U.heap ∧ va_OF R_Real "signBit" "J" (.long K.2.2.2.1) o (fun _ => False) U U.heap ∧ va_OF R_Real "infinity" "J" (.long K.2.2.2.2) o (fun _ => False) U U.heap
/-- the two links to a nest mate's method -/
def nB (U : State) : Prop := va_Nw nw_Real U ∧ va_Nw nw_SD U
theorem nB_mv {s U : State} (hW : s.WarmedH U.vm) (h : nB s) : nB U := ⟨va_Nw.warmM hW h.1, va_Nw.warmM hW h.2⟩
theorem nB_bl (U : State) (g : JFrame) (mk : MethodId) (a : Array Value) (h : nB U) : nB (U.calling g mk a) := ⟨va_Nw.same (u := U) (U := U.calling g mk a) rfl rfl h.1, va_Nw.same (u := U) (U := U.calling g mk a) rfl rfl h.2⟩
theorem hNB_Real {U : State} (h : nB U) : va_Nw nw_Real U := h.1
theorem hNB_SD {U : State} (h : nB U) : va_Nw nw_SD U := h.2
theorem rAt_mv {s U : State} {o : Nat} {K : rK} (hU : U.heap = s.heap) (hW : s.vm.Alike U.vm) (h : rAt o K s) : rAt o K U := by
  obtain ⟨h0, h1, h2, h3, h4, h5⟩ := h
  unfold rAt
  rw [hU]
  exact ⟨h0.moved hW, h1.moved hW, h2.moved hW, h3.moved hW, h4.moved hW, h5.moved hW⟩
theorem rAt_bl {o : Nat} {K : rK} (U : State) (g : JFrame) (mk : MethodId) (a : Array Value) (h : rAt o K U) : rAt o K (U.calling g mk a) := rAt_mv (s := U) (U := U.calling g mk a) rfl (Vm.Alike.refl U.vm) h
theorem rAt_rc {s : State} {o : Nat} {K : rK} (h : rAt o K s) : ∃ cell : Cell, s.heap[o]? = some cell ∧ cell.vm.isStatics = false ∧ s.vm.findClass R_Real = some cell.cls := by
  obtain ⟨cell, h1, h2, h3, -⟩ := h.1
  exact ⟨cell, h1, h2, h3⟩
abbrev pre0 (U : State) : Prop := nB U
abbrev pre1 (o : Nat) (K : rK) (U : State) : Prop := nB U ∧ rAt o K U
abbrev pre2 (o : Nat) (K : rK) (o' : Nat) (K' : rK) (U : State) : Prop := nB U ∧ rAt o K U ∧ rAt o' K' U
theorem p0_mv {s U : State} {H : Heap} (_ : U.heap = H) (hW : s.WarmedH U.vm) (h : nB s) : pre0 U := nB_mv hW h
theorem p1_mv {s U : State} {o : Nat} {K : rK} (hU : U.heap = s.heap) (hW : s.WarmedH U.vm) (h : nB s) (h1 : rAt o K s) : pre1 o K U := ⟨nB_mv hW h, rAt_mv hU hW.alike h1⟩
theorem p2_mv {s U : State} {o : Nat} {K : rK} {o' : Nat} {K' : rK} (hU : U.heap = s.heap) (hW : s.WarmedH U.vm) (h : nB s) (h1 : rAt o K s) (h2 : rAt o' K' s) : pre2 o K o' K' U := ⟨nB_mv hW h, rAt_mv hU hW.alike h1, rAt_mv hU hW.alike h2⟩
theorem p0_bl (U : State) (g : JFrame) (mk : MethodId) (a : Array Value) (h : pre0 U) : pre0 (U.calling g mk a) := nB_bl U g mk a h
theorem p1_bl {o : Nat} {K : rK} (U : State) (g : JFrame) (mk : MethodId) (a : Array Value) (h : pre1 o K U) : pre1 o K (U.calling g mk a) := ⟨nB_bl U g mk a h.1, rAt_bl U g mk a h.2⟩
theorem p2_bl {o : Nat} {K : rK} {o' : Nat} {K' : rK} (U : State) (g : JFrame) (mk : MethodId) (a : Array Value) (h : pre2 o K o' K' U) : pre2 o K o' K' (U.calling g mk a) := ⟨nB_bl U g mk a h.1, rAt_bl U g mk a h.2.1, rAt_bl U g mk a h.2.2⟩
theorem gBig {c0 : Cond} {y : MethodName} {bytes : ByteArray} {maxL : Nat} {ret : Option FieldType} (h : Cond.code y bytes maxL ret ∈ BIG) : GoodIn (c0 :: BIG) (Cond.code y bytes maxL ret :: BIG) := by
  intro w hw
  rcases List.mem_cons.mp hw with rfl | hw
  · exact ⟨List.mem_cons_of_mem _ h, Or.inl rfl⟩
  · exact ⟨List.mem_cons_of_mem _ hw, bigGood w hw⟩
section QR
variable {p : Program} {l : Launch} {e : Env} {R : Room} {s : State} {m : MethodId} {args : Array Value} {below : List Frame} {meth : Method} {c : Code} {H : Heap} {locs : List Loc} {cells slots : Nat} {Q : State → Prop}
variable {cc : ByteArray} {nL : Nat} {own : String} {c0 : Cond} {y : MethodName} {bytes : ByteArray} {maxL n index : Nat} {ret : Option FieldType} {rm : Room} {Pre : State → Prop} {v : Value} {As rest st0 : List Value} {pc : Nat} {ls : Array Slot}
theorem q_run {a : Array Value} (hr : va_Run p l e R s m args below meth c H locs cells slots 0 0 (F0 m pc ls st0) rest (pQ v a) (fun _ => False)) (kk : W p l e R s m args below meth c H locs cells slots Q (F0 m (pc + 3) ls (v :: rest))) : W p l e R s m args below meth c H locs cells slots Q (F0 m pc ls st0) := by
  intro T hT X
  obtain ⟨v', st₀, t, T', L, h0, X', hL, e1, e2, ⟨hv, hh⟩, st⟩ := hr T hT X
  cases hv
  obtain ⟨t2, a1, b1⟩ := kk T' (by rw [e1, hh, h0]) (Stand.forget X' (fun q h => (hL q h).elim))
  exact ⟨t2, st t2 a1, b1⟩
theorem q_S (hx : p.tables.exec = Jvm.exec) (hb : c.code = cc) (hml : c.maxLocals = nL) (hown : s.vm.findClass own = some m.cls) (hts : ∀ w ∈ c0 :: BIG, w.before args s = true)
    (hM : Met l y (Cond.code y bytes maxL ret :: BIG) rm (va_Pc As Pre) (pQ v) 0 0 (fun _ => False)) (hrc : rm.cells = 0) (hrs : rm.slots = 0)
    (hcode : Cond.code y bytes maxL ret ∈ BIG) (hlk : Cond.methodLink own index y ∈ BIG) (hst : Cond.static y ∈ BIG) (hini : Cond.initialized y.cls ∈ BIG)
    (hd : y.cls ≠ "java/lang/invoke/MethodHandle" ∧ y.cls ≠ "java/lang/invoke/VarHandle" ∧ (parseMethodDescriptor y.desc).map (fun d => d.parameters.length) = some n)
    (hR : rm.frames + 1 ≤ R.frames ∧ 8 + (maxL + 11) + rm.locals ≤ R.locals) (hbl : ∀ (U : State) (g : JFrame) (mk : MethodId) (a : Array Value), Pre U → Pre (U.calling g mk a)) (hpre : ∀ U : State, U.heap = H → s.WarmedH U.vm → Pre U)
    (hn : As.length = n) (hsize : ls.size = nL) (hstack : st0 = As.reverse ++ rest) (hW : (rest.map fun v => v.category).sum ≤ 8) (hdg : decode cc pc = .ok (.invokestatic index, 3)) (hcap : cells ≤ R.cells ∧ slots ≤ R.slots)
    (kk : W p l e R s m args below meth c H locs cells slots Q (F0 m (pc + 3) ls (v :: rest))) : W p l e R s m args below meth c H locs cells slots Q (F0 m pc ls st0) := by
  have hT : ∀ w ∈ BIG, w.before args s = true := fun w h => hts w (List.mem_cons_of_mem _ h)
  refine q_run (a := As.toArray) (va_runS (Ts := c0 :: BIG) (own := own) (index := index) (n := n) ⟨hx, hb, hml, hown, hts⟩ hM ⟨callB_of n hts (gBig hcode) rfl hrc hrs (hT _ hini) (hT _ hlk) hd hR, hT _ hst⟩ ⟨fun a U g mk q => ⟨q.1, hbl U g mk a q.2⟩, fun U hU hW => ⟨rfl, hpre U hU hW⟩⟩ rfl hn hsize hstack (lv_room hW) hdg hcap) kk
theorem q_SN {host : String} (hx : p.tables.exec = Jvm.exec) (hb : c.code = cc) (hml : c.maxLocals = nL) (hown : s.vm.findClass own = some m.cls) (hts : ∀ w ∈ c0 :: BIG, w.before args s = true)
    (hM : Met l y (Cond.code y bytes maxL ret :: BIG) rm (va_Pc As Pre) (pQ v) 0 0 (fun _ => False)) (hrc : rm.cells = 0) (hrs : rm.slots = 0)
    (hcode : Cond.code y bytes maxL ret ∈ BIG) (hlk : va_Nw (.methodLinkNest own index y host) s) (hst : Cond.static y ∈ BIG) (hini : Cond.initialized y.cls ∈ BIG)
    (hd : y.cls ≠ "java/lang/invoke/MethodHandle" ∧ y.cls ≠ "java/lang/invoke/VarHandle" ∧ (parseMethodDescriptor y.desc).map (fun d => d.parameters.length) = some n)
    (hR : rm.frames + 1 ≤ R.frames ∧ 8 + (maxL + 11) + rm.locals ≤ R.locals) (hbl : ∀ (U : State) (g : JFrame) (mk : MethodId) (a : Array Value), Pre U → Pre (U.calling g mk a)) (hpre : ∀ U : State, U.heap = H → s.WarmedH U.vm → Pre U)
    (hn : As.length = n) (hsize : ls.size = nL) (hstack : st0 = As.reverse ++ rest) (hW : (rest.map fun v => v.category).sum ≤ 8) (hdg : decode cc pc = .ok (.invokestatic index, 3)) (hcap : cells ≤ R.cells ∧ slots ≤ R.slots)
    (kk : W p l e R s m args below meth c H locs cells slots Q (F0 m (pc + 3) ls (v :: rest))) : W p l e R s m args below meth c H locs cells slots Q (F0 m pc ls st0) := by
  have hT : ∀ w ∈ BIG, w.before args s = true := fun w h => hts w (List.mem_cons_of_mem _ h)
  refine q_run (a := As.toArray) (va_runSN (Ts := c0 :: BIG) (own := own) (host := host) (index := index) (n := n) ⟨hx, hb, hml, hown, hts⟩ hM ⟨va_cnB n hts (gBig hcode) rfl hrc hrs hlk (hT _ hini) hd hR, hT _ hst, trivial⟩ ⟨fun a U g mk q => ⟨q.1, hbl U g mk a q.2⟩, fun U hU hW => ⟨rfl, hpre U hU hW⟩⟩ rfl hn hsize hstack (lv_room hW) hdg hcap) kk
theorem q_V {C : String} {b : Nat} (hx : p.tables.exec = Jvm.exec) (hb : c.code = cc) (hml : c.maxLocals = nL) (hown : s.vm.findClass own = some m.cls) (hts : ∀ w ∈ c0 :: BIG, w.before args s = true)
    (hM : Met l y (Cond.code y bytes maxL ret :: BIG) rm (va_Pc (.ref b :: As) Pre) (pQ v) 0 0 (fun _ => False)) (hrc : rm.cells = 0) (hrs : rm.slots = 0)
    (hcode : Cond.code y bytes maxL ret ∈ BIG) (hlk : Cond.methodLink own index y ∈ BIG) (him : Cond.instanceMethod y ∈ BIG) (hsel : Cond.selects C y y ∈ BIG) (hini : Cond.initialized y.cls ∈ BIG)
    (hd : y.cls ≠ "java/lang/invoke/MethodHandle" ∧ y.cls ≠ "java/lang/invoke/VarHandle" ∧ (parseMethodDescriptor y.desc).map (fun d => d.parameters.length) = some n)
    (hR : rm.frames + 1 ≤ R.frames ∧ 8 + (maxL + 11) + rm.locals ≤ R.locals) (hrv : ∃ cell : Cell, H[b]? = some cell ∧ cell.vm.isStatics = false ∧ s.vm.findClass C = some cell.cls) (hbl : ∀ (U : State) (g : JFrame) (mk : MethodId) (a : Array Value), Pre U → Pre (U.calling g mk a)) (hpre : ∀ U : State, U.heap = H → s.WarmedH U.vm → Pre U)
    (hn : As.length = n) (hsize : ls.size = nL) (hstack : st0 = As.reverse ++ .ref b :: rest) (hW : (rest.map fun v => v.category).sum ≤ 8) (hdg : decode cc pc = .ok (.invokevirtual index, 3)) (hcap : cells ≤ R.cells ∧ slots ≤ R.slots)
    (kk : W p l e R s m args below meth c H locs cells slots Q (F0 m (pc + 3) ls (v :: rest))) : W p l e R s m args below meth c H locs cells slots Q (F0 m pc ls st0) := by
  have hT : ∀ w ∈ BIG, w.before args s = true := fun w h => hts w (List.mem_cons_of_mem _ h)
  refine q_run (a := (Value.ref b :: As).toArray) (va_runV (Ts := c0 :: BIG) (own := own) (index := index) (n := n) (C := C) (b := b) (As := As) ⟨hx, hb, hml, hown, hts⟩ hM ⟨callB_of n hts (gBig hcode) rfl hrc hrs (hT _ hini) (hT _ hlk) hd hR, hT _ him, hT _ hsel⟩ ⟨fun a U g mk q => ⟨q.1, hbl U g mk a q.2⟩, hrv, fun U hU hW => ⟨rfl, hpre U hU hW⟩⟩ rfl hn hsize hstack (lv_room hW) hdg hcap) kk
end QR
section OP
variable {l : Launch} {y : MethodName} {cc : ByteArray} {maxL : Nat} {rm : Room} {vs : List Value} {Pre : State → Prop}
theorem pOpen_l {r : Int64} (hy : plainName y.cls = true) (hlen : (lg_sl vs).length ≤ maxL)
    (body : ∀ (p : Program) (e : Env) (s : State) (m : MethodId) (args : Array Value) (below : List Frame) (meth : Method) (c : Code) (Q : State → Prop) (ls : Array Slot), p.tables.exec = Jvm.exec → c.code = cc → c.maxLocals = maxL → s.vm.findClass y.cls = some m.cls → (∀ w ∈ Cond.code y cc maxL (some .long) :: BIG, w.before args s = true) → (∀ w ∈ BIG, w.before args s = true) → Pre s → lv_has ls maxL (lv_args 0 vs) →
      (∀ (pc : Nat) (ls : Array Slot) (v : Int64), v = r → decode cc pc = .ok (.lreturn, 1) → W p l e rm s m args below meth c s.heap [] 0 0 Q (F0 m pc ls [.long v])) → W p l e rm s m args below meth c s.heap [] 0 0 Q (F0 m 0 ls [])) :
    Met l y (Cond.code y cc maxL (some .long) :: BIG) rm (va_Pc vs Pre) (pQ (.long r)) 0 0 (fun _ => False) := by
  refine Met.ofW (cc := cc) (maxL := maxL) (ret := some .long) hy rfl ?_
  intro p e s m args below meth c s₁ B hml hv
  obtain ⟨rfl, hp⟩ := hv
  have hl := lv_entry vs (n := maxL) hlen
  rw [lg_entry_eq]
  have hts := atoms_spec (ws := Cond.code y cc maxL (some .long) :: BIG) B.pre
  have hlocks := B.notSynchronized
  exact body p e s m _ below meth c _ _ B.exec B.bytes hml (findClass_of_methodNamed B.named) hts (fun w h => hts w (List.mem_cons_of_mem _ h)) hp hl (fun pc ls v hv hd => W.lret B.exec B.bytes B.returns (fun t ht _ => ⟨by rw [hv], ht⟩) (fun q hq => nomatch hq) hd)
theorem pOpen_i {r : Int32} (hy : plainName y.cls = true) (hlen : (lg_sl vs).length ≤ maxL)
    (body : ∀ (p : Program) (e : Env) (s : State) (m : MethodId) (args : Array Value) (below : List Frame) (meth : Method) (c : Code) (Q : State → Prop) (ls : Array Slot), p.tables.exec = Jvm.exec → c.code = cc → c.maxLocals = maxL → s.vm.findClass y.cls = some m.cls → (∀ w ∈ Cond.code y cc maxL (some .int) :: BIG, w.before args s = true) → (∀ w ∈ BIG, w.before args s = true) → Pre s → lv_has ls maxL (lv_args 0 vs) →
      (∀ (pc : Nat) (ls : Array Slot) (v : Int32), v = r → decode cc pc = .ok (.ireturn, 1) → W p l e rm s m args below meth c s.heap [] 0 0 Q (F0 m pc ls [.int v])) → W p l e rm s m args below meth c s.heap [] 0 0 Q (F0 m 0 ls [])) :
    Met l y (Cond.code y cc maxL (some .int) :: BIG) rm (va_Pc vs Pre) (pQ (.int r)) 0 0 (fun _ => False) := by
  refine Met.ofW (cc := cc) (maxL := maxL) (ret := some .int) hy rfl ?_
  intro p e s m args below meth c s₁ B hml hv
  obtain ⟨rfl, hp⟩ := hv
  have hl := lv_entry vs (n := maxL) hlen
  rw [lg_entry_eq]
  have hts := atoms_spec (ws := Cond.code y cc maxL (some .int) :: BIG) B.pre
  have hlocks := B.notSynchronized
  exact body p e s m _ below meth c _ _ B.exec B.bytes hml (findClass_of_methodNamed B.named) hts (fun w h => hts w (List.mem_cons_of_mem _ h)) hp hl (fun pc ls v hv hd => W.iret B.exec B.bytes B.returns (fun t ht _ => ⟨by rw [hv], ht⟩) (fun q hq => nomatch hq) hd)
theorem pOpen_z {r : Int32} (hy : plainName y.cls = true) (hlen : (lg_sl vs).length ≤ maxL)
    (body : ∀ (p : Program) (e : Env) (s : State) (m : MethodId) (args : Array Value) (below : List Frame) (meth : Method) (c : Code) (Q : State → Prop) (ls : Array Slot), p.tables.exec = Jvm.exec → c.code = cc → c.maxLocals = maxL → s.vm.findClass y.cls = some m.cls → (∀ w ∈ Cond.code y cc maxL (some .boolean) :: BIG, w.before args s = true) → (∀ w ∈ BIG, w.before args s = true) → Pre s → lv_has ls maxL (lv_args 0 vs) →
      (∀ (pc : Nat) (ls : Array Slot) (v : Int32), v = r → decode cc pc = .ok (.ireturn, 1) → narrow .boolean (.int v) = .int v → W p l e rm s m args below meth c s.heap [] 0 0 Q (F0 m pc ls [.int v])) → W p l e rm s m args below meth c s.heap [] 0 0 Q (F0 m 0 ls [])) :
    Met l y (Cond.code y cc maxL (some .boolean) :: BIG) rm (va_Pc vs Pre) (pQ (.int r)) 0 0 (fun _ => False) := by
  refine Met.ofW (cc := cc) (maxL := maxL) (ret := some .boolean) hy rfl ?_
  intro p e s m args below meth c s₁ B hml hv
  obtain ⟨rfl, hp⟩ := hv
  have hl := lv_entry vs (n := maxL) hlen
  rw [lg_entry_eq]
  have hts := atoms_spec (ws := Cond.code y cc maxL (some .boolean) :: BIG) B.pre
  have hlocks := B.notSynchronized
  exact body p e s m _ below meth c _ _ B.exec B.bytes hml (findClass_of_methodNamed B.named) hts (fun w h => hts w (List.mem_cons_of_mem _ h)) hp hl (fun pc ls v hv hd hz => W.zret B.exec B.bytes B.returns hz (fun t ht _ => ⟨by rw [hv], ht⟩) (fun q hq => nomatch hq) hd)
end OP
theorem ic_m1 : Int32.ofInt (-1) = -1 := by decide
theorem ic_0 : Int32.ofInt 0 = 0 := by decide
theorem ic_1 : Int32.ofInt 1 = 1 := by decide
theorem ic_2 : Int32.ofInt 2 = 2 := by decide
theorem ic_3 : Int32.ofInt 3 = 3 := by decide
theorem ic_4 : Int32.ofInt 4 = 4 := by decide
theorem ic_5 : Int32.ofInt 5 = 5 := by decide
theorem lc_0 : Int64.ofNat ((0 : Fin 2) : Nat) = 0 := by decide
theorem lc_1 : Int64.ofNat ((1 : Fin 2) : Nat) = 1 := by decide
/-! Contracts over a world: the cells w0 before, w1 behind; nothing outside A changes, no cell is made. -/
def gPre (D : va_G) (A : Nat → Prop) (tys : List (ClassId × FieldType)) (w0 : va_W) (U : State) : Prop := nB U ∧ va_P D cls w0 U.heap ∧ va_K D cls tys U ∧ va_D A w0
def gQ (D : va_G) (A : Nat → Prop) (v : Option Value) (w1 : va_W) : Array Value → State → Outcome → State → Prop := fun _ st oc t => oc = .returned v ∧ va_P D cls w1 t.heap ∧ va_D A w1 ∧ va_F A st t
theorem gPre_bl {D : va_G} {A : Nat → Prop} {tys : List (ClassId × FieldType)} {w0 : va_W} (U : State) (g : JFrame) (mk : MethodId) (a : Array Value) (h : gPre D A tys w0 U) : gPre D A tys w0 (U.calling g mk a) := ⟨nB_bl U g mk a h.1, h.2.1, va_K.moved (u := U) (U := U.calling g mk a) (Vm.Alike.refl U.vm) h.2.2.1, h.2.2.2⟩
section GO
variable {l : Launch} {y : MethodName} {cc : ByteArray} {maxL : Nat} {rm : Room} {vs : List Value} {D : va_G} {A : Nat → Prop} {tys : List (ClassId × FieldType)} {w0 w1 : va_W}
theorem gOpen_l {r : Int64} (hy : plainName y.cls = true) (hlen : (lg_sl vs).length ≤ maxL) 
    (body : ∀ (p : Program) (e : Env) (s : State) (m : MethodId) (args : Array Value) (below : List Frame) (meth : Method) (c : Code) (Q : State → Prop) (ls : Array Slot), p.tables.exec = Jvm.exec → c.code = cc → c.maxLocals = maxL → s.vm.findClass y.cls = some m.cls → (∀ w ∈ Cond.code y cc maxL (some .long) :: BIG, w.before args s = true) → (∀ w ∈ BIG, w.before args s = true) → nB s → va_P D cls w0 s.heap → va_K D cls tys s → va_D A w0 → lv_has ls maxL (lv_args 0 vs) →
      (∀ (pc : Nat) (ls : Array Slot) (H : Heap) (locs : List Loc) (v : Int64), v = r → va_P D cls w1 H → va_D A w1 → va_S A s.heap H locs → decode cc pc = .ok (.lreturn, 1) → W p l e rm s m args below meth c H locs 0 0 Q (F0 m pc ls [.long v])) → W p l e rm s m args below meth c s.heap [] 0 0 Q (F0 m 0 ls [])) :
    Met l y (Cond.code y cc maxL (some .long) :: BIG) rm (va_Pc vs (gPre D A tys w0)) (gQ D A (some (.long r)) w1) 0 0 A := by
  refine Met.ofW (cc := cc) (maxL := maxL) (ret := (some .long)) hy rfl ?_
  intro p e s m args below meth c s₁ B hml hv
  obtain ⟨rfl, hN, hP, hK, hD⟩ := hv
  have hl := lv_entry vs (n := maxL) hlen
  rw [lg_entry_eq]
  have hts := atoms_spec (ws := Cond.code y cc maxL (some .long) :: BIG) B.pre
  have hlocks := B.notSynchronized
  exact body p e s m _ below meth c _ _ B.exec B.bytes hml (findClass_of_methodNamed B.named) hts (fun w h => hts w (List.mem_cons_of_mem _ h)) hN hP hK hD hl (fun pc ls H locs v hv hP hD hS hd => W.lret B.exec B.bytes B.returns (fun t ht _ => ⟨by rw [hv], by rw [ht]; exact hP, hD, hS.F ht⟩) hS.2.2 hd)
theorem gOpen_i {r : Int32} (hy : plainName y.cls = true) (hlen : (lg_sl vs).length ≤ maxL) 
    (body : ∀ (p : Program) (e : Env) (s : State) (m : MethodId) (args : Array Value) (below : List Frame) (meth : Method) (c : Code) (Q : State → Prop) (ls : Array Slot), p.tables.exec = Jvm.exec → c.code = cc → c.maxLocals = maxL → s.vm.findClass y.cls = some m.cls → (∀ w ∈ Cond.code y cc maxL (some .int) :: BIG, w.before args s = true) → (∀ w ∈ BIG, w.before args s = true) → nB s → va_P D cls w0 s.heap → va_K D cls tys s → va_D A w0 → lv_has ls maxL (lv_args 0 vs) →
      (∀ (pc : Nat) (ls : Array Slot) (H : Heap) (locs : List Loc) (v : Int32), v = r → va_P D cls w1 H → va_D A w1 → va_S A s.heap H locs → decode cc pc = .ok (.ireturn, 1) → W p l e rm s m args below meth c H locs 0 0 Q (F0 m pc ls [.int v])) → W p l e rm s m args below meth c s.heap [] 0 0 Q (F0 m 0 ls [])) :
    Met l y (Cond.code y cc maxL (some .int) :: BIG) rm (va_Pc vs (gPre D A tys w0)) (gQ D A (some (.int r)) w1) 0 0 A := by
  refine Met.ofW (cc := cc) (maxL := maxL) (ret := (some .int)) hy rfl ?_
  intro p e s m args below meth c s₁ B hml hv
  obtain ⟨rfl, hN, hP, hK, hD⟩ := hv
  have hl := lv_entry vs (n := maxL) hlen
  rw [lg_entry_eq]
  have hts := atoms_spec (ws := Cond.code y cc maxL (some .int) :: BIG) B.pre
  have hlocks := B.notSynchronized
  exact body p e s m _ below meth c _ _ B.exec B.bytes hml (findClass_of_methodNamed B.named) hts (fun w h => hts w (List.mem_cons_of_mem _ h)) hN hP hK hD hl (fun pc ls H locs v hv hP hD hS hd => W.iret B.exec B.bytes B.returns (fun t ht _ => ⟨by rw [hv], by rw [ht]; exact hP, hD, hS.F ht⟩) hS.2.2 hd)
theorem gOpen_z {r : Int32} (hy : plainName y.cls = true) (hlen : (lg_sl vs).length ≤ maxL)
    (body : ∀ (p : Program) (e : Env) (s : State) (m : MethodId) (args : Array Value) (below : List Frame) (meth : Method) (c : Code) (Q : State → Prop) (ls : Array Slot), p.tables.exec = Jvm.exec → c.code = cc → c.maxLocals = maxL → s.vm.findClass y.cls = some m.cls → (∀ w ∈ Cond.code y cc maxL (some .boolean) :: BIG, w.before args s = true) → (∀ w ∈ BIG, w.before args s = true) → nB s → va_P D cls w0 s.heap → va_K D cls tys s → va_D A w0 → lv_has ls maxL (lv_args 0 vs) →
      (∀ (pc : Nat) (ls : Array Slot) (H : Heap) (locs : List Loc) (v : Int32), v = r → va_P D cls w1 H → va_D A w1 → va_S A s.heap H locs → decode cc pc = .ok (.ireturn, 1) → narrow .boolean (.int v) = .int v → W p l e rm s m args below meth c H locs 0 0 Q (F0 m pc ls [.int v])) → W p l e rm s m args below meth c s.heap [] 0 0 Q (F0 m 0 ls [])) :
    Met l y (Cond.code y cc maxL (some .boolean) :: BIG) rm (va_Pc vs (gPre D A tys w0)) (gQ D A (some (.int r)) w1) 0 0 A := by
  refine Met.ofW (cc := cc) (maxL := maxL) (ret := (some .boolean)) hy rfl ?_
  intro p e s m args below meth c s₁ B hml hv
  obtain ⟨rfl, hN, hP, hK, hD⟩ := hv
  have hl := lv_entry vs (n := maxL) hlen
  rw [lg_entry_eq]
  have hts := atoms_spec (ws := Cond.code y cc maxL (some .boolean) :: BIG) B.pre
  have hlocks := B.notSynchronized
  exact body p e s m _ below meth c _ _ B.exec B.bytes hml (findClass_of_methodNamed B.named) hts (fun w h => hts w (List.mem_cons_of_mem _ h)) hN hP hK hD hl (fun pc ls H locs v hv hP hD hS hd hz => W.zret B.exec B.bytes B.returns hz (fun t ht _ => ⟨by rw [hv], by rw [ht]; exact hP, hD, hS.F ht⟩) hS.2.2 hd)
theorem gOpen_v (hy : plainName y.cls = true) (hlen : (lg_sl vs).length ≤ maxL) 
    (body : ∀ (p : Program) (e : Env) (s : State) (m : MethodId) (args : Array Value) (below : List Frame) (meth : Method) (c : Code) (Q : State → Prop) (ls : Array Slot), p.tables.exec = Jvm.exec → c.code = cc → c.maxLocals = maxL → s.vm.findClass y.cls = some m.cls → (∀ w ∈ Cond.code y cc maxL none :: BIG, w.before args s = true) → (∀ w ∈ BIG, w.before args s = true) → nB s → va_P D cls w0 s.heap → va_K D cls tys s → va_D A w0 → lv_has ls maxL (lv_args 0 vs) →
      (∀ (pc : Nat) (ls : Array Slot) (H : Heap) (locs : List Loc), va_P D cls w1 H → va_D A w1 → va_S A s.heap H locs → decode cc pc = .ok (.return_, 1) → W p l e rm s m args below meth c H locs 0 0 Q (F0 m pc ls [])) → W p l e rm s m args below meth c s.heap [] 0 0 Q (F0 m 0 ls [])) :
    Met l y (Cond.code y cc maxL none :: BIG) rm (va_Pc vs (gPre D A tys w0)) (gQ D A none w1) 0 0 A := by
  refine Met.ofW (cc := cc) (maxL := maxL) (ret := none) hy rfl ?_
  intro p e s m args below meth c s₁ B hml hv
  obtain ⟨rfl, hN, hP, hK, hD⟩ := hv
  have hl := lv_entry vs (n := maxL) hlen
  rw [lg_entry_eq]
  have hts := atoms_spec (ws := Cond.code y cc maxL none :: BIG) B.pre
  have hlocks := B.notSynchronized
  exact body p e s m _ below meth c _ _ B.exec B.bytes hml (findClass_of_methodNamed B.named) hts (fun w h => hts w (List.mem_cons_of_mem _ h)) hN hP hK hD hl (fun pc ls H locs hP hD hS hd => W.vret B.exec B.bytes B.returns (fun t ht _ => ⟨rfl, by rw [ht]; exact hP, hD, hS.F ht⟩) hS.2.2 hd)
end GO
section GC
variable {p : Program} {l : Launch} {e : Env} {R : Room} {s : State} {m : MethodId} {args : Array Value} {below : List Frame} {meth : Method} {c : Code} {H H0 : Heap} {locs : List Loc} {cells slots : Nat} {Q : State → Prop}
variable {cc : ByteArray} {nL : Nat} {own : String} {c0 : Cond} {y : MethodName} {bytes : ByteArray} {maxL n index : Nat} {ret : Option FieldType} {rm : Room} {v : Option Value} {As rest st0 : List Value} {pc : Nat} {ls : Array Slot}
variable {D : va_G} {A : Nat → Prop} {tys : List (ClassId × FieldType)} {w0 w1 : va_W}
theorem q_grun {a : Array Value} (hr : va_Run p l e R s m args below meth c H locs cells slots 0 0 (F0 m pc ls st0) rest (gQ D A v w1 a) A) (hS : va_S A H0 H locs)
    (kk : ∀ (H1 : Heap) (locs1 : List Loc), va_P D cls w1 H1 → va_D A w1 → va_S A H0 H1 locs1 → W p l e R s m args below meth c H1 locs1 cells slots Q (F0 m (pc + 3) ls (v.toList ++ rest))) : W p l e R s m args below meth c H locs cells slots Q (F0 m pc ls st0) := by
  intro T hT X
  obtain ⟨v', st₀, t, T', L, h0, X', hL, e1, e2, ⟨hv, hP, hD, hz, hk⟩, st⟩ := hr T hT X
  cases hv
  rw [h0] at hz hk
  obtain ⟨t2, a1, b1⟩ := kk T'.heap (locs ++ L) (by rw [e1]; exact hP) hD
    ⟨Nat.le_trans hS.1 (by rw [e1]; exact hz), fun q h1 h2 => by rw [e1, hk q (Nat.lt_of_lt_of_le h1 hS.1) h2]; exact hS.2.1 q h1 h2, fun q hq => by
      rcases List.mem_append.mp hq with h | h
      · exact hS.2.2 q h
      · exact hL q h⟩ T' rfl X'
  exact ⟨t2, st t2 a1, b1⟩
theorem q_GS (hx : p.tables.exec = Jvm.exec) (hb : c.code = cc) (hml : c.maxLocals = nL) (hown : s.vm.findClass own = some m.cls) (hts : ∀ w ∈ c0 :: BIG, w.before args s = true)
    (hM : Met l y (Cond.code y bytes maxL ret :: BIG) rm (va_Pc As (gPre D A tys w0)) (gQ D A v w1) 0 0 A) (hrc : rm.cells = 0) (hrs : rm.slots = 0)
    (hcode : Cond.code y bytes maxL ret ∈ BIG) (hlk : Cond.methodLink own index y ∈ BIG) (hst : Cond.static y ∈ BIG) (hini : Cond.initialized y.cls ∈ BIG)
    (hd : y.cls ≠ "java/lang/invoke/MethodHandle" ∧ y.cls ≠ "java/lang/invoke/VarHandle" ∧ (parseMethodDescriptor y.desc).map (fun d => d.parameters.length) = some n)
    (hR : rm.frames + 1 ≤ R.frames ∧ 8 + (maxL + 11) + rm.locals ≤ R.locals) (hN : nB s) (hK : va_K D cls tys s) (hP : va_P D cls w0 H) (hD : va_D A w0) (hS : va_S A H0 H locs)
    (hn : As.length = n) (hsize : ls.size = nL) (hstack : st0 = As.reverse ++ rest) (hW : (rest.map fun v => v.category).sum ≤ 8) (hdg : decode cc pc = .ok (.invokestatic index, 3)) (hcap : cells ≤ R.cells ∧ slots ≤ R.slots)
    (kk : ∀ (H1 : Heap) (locs1 : List Loc), va_P D cls w1 H1 → va_D A w1 → va_S A H0 H1 locs1 → W p l e R s m args below meth c H1 locs1 cells slots Q (F0 m (pc + 3) ls (v.toList ++ rest))) : W p l e R s m args below meth c H locs cells slots Q (F0 m pc ls st0) := by
  have hT : ∀ w ∈ BIG, w.before args s = true := fun w h => hts w (List.mem_cons_of_mem _ h)
  refine q_grun (a := As.toArray) (va_runS (Ts := c0 :: BIG) (own := own) (index := index) (n := n) ⟨hx, hb, hml, hown, hts⟩ hM ⟨callB_of n hts (gBig hcode) rfl hrc hrs (hT _ hini) (hT _ hlk) hd hR, hT _ hst⟩ ⟨fun a U g mk q => ⟨q.1, gPre_bl U g mk a q.2⟩, fun U hU hW => ⟨rfl, nB_mv hW hN, by rw [hU]; exact hP, va_K.moved hW.alike hK, hD⟩⟩ rfl hn hsize hstack (lv_room hW) hdg hcap) hS kk
theorem q_GV {C : String} {b : Nat} (hx : p.tables.exec = Jvm.exec) (hb : c.code = cc) (hml : c.maxLocals = nL) (hown : s.vm.findClass own = some m.cls) (hts : ∀ w ∈ c0 :: BIG, w.before args s = true)
    (hM : Met l y (Cond.code y bytes maxL ret :: BIG) rm (va_Pc (.ref b :: As) (gPre D A tys w0)) (gQ D A v w1) 0 0 A) (hrc : rm.cells = 0) (hrs : rm.slots = 0)
    (hcode : Cond.code y bytes maxL ret ∈ BIG) (hlk : Cond.methodLink own index y ∈ BIG) (him : Cond.instanceMethod y ∈ BIG) (hsel : Cond.selects C y y ∈ BIG) (hini : Cond.initialized y.cls ∈ BIG)
    (hd : y.cls ≠ "java/lang/invoke/MethodHandle" ∧ y.cls ≠ "java/lang/invoke/VarHandle" ∧ (parseMethodDescriptor y.desc).map (fun d => d.parameters.length) = some n)
    (hR : rm.frames + 1 ≤ R.frames ∧ 8 + (maxL + 11) + rm.locals ≤ R.locals) (hrv : ∃ cell : Cell, H[b]? = some cell ∧ cell.vm.isStatics = false ∧ s.vm.findClass C = some cell.cls) (hN : nB s) (hK : va_K D cls tys s) (hP : va_P D cls w0 H) (hD : va_D A w0) (hS : va_S A H0 H locs)
    (hn : As.length = n) (hsize : ls.size = nL) (hstack : st0 = As.reverse ++ .ref b :: rest) (hW : (rest.map fun v => v.category).sum ≤ 8) (hdg : decode cc pc = .ok (.invokevirtual index, 3)) (hcap : cells ≤ R.cells ∧ slots ≤ R.slots)
    (kk : ∀ (H1 : Heap) (locs1 : List Loc), va_P D cls w1 H1 → va_D A w1 → va_S A H0 H1 locs1 → W p l e R s m args below meth c H1 locs1 cells slots Q (F0 m (pc + 3) ls (v.toList ++ rest))) : W p l e R s m args below meth c H locs cells slots Q (F0 m pc ls st0) := by
  have hT : ∀ w ∈ BIG, w.before args s = true := fun w h => hts w (List.mem_cons_of_mem _ h)
  refine q_grun (a := (Value.ref b :: As).toArray) (va_runV (Ts := c0 :: BIG) (own := own) (index := index) (n := n) (C := C) (b := b) (As := As) ⟨hx, hb, hml, hown, hts⟩ hM ⟨callB_of n hts (gBig hcode) rfl hrc hrs (hT _ hini) (hT _ hlk) hd hR, hT _ him, hT _ hsel⟩ ⟨fun a U g mk q => ⟨q.1, gPre_bl U g mk a q.2⟩, hrv, fun U hU hW => ⟨rfl, nB_mv hW hN, by rw [hU]; exact hP, va_K.moved hW.alike hK, hD⟩⟩ rfl hn hsize hstack (lv_room hW) hdg hcap) hS kk
theorem q_lmax (hexec : p.tables.exec = Jvm.exec) (hb : c.code = cc) (hml : c.maxLocals = ls.size) (hown : s.vm.findClass own = some m.cls) (hlink : (Cond.methodLink own index Lib.MathLoose.max_long.x).before args s = true) (hstat : (Cond.static Lib.MathLoose.max_long.x).before args s = true) (hini : (Cond.initialized "java/lang/Math").before args s = true) (hcode : (Cond.code Lib.MathLoose.max_long.x Lib.MathLoose.max_long.code 4 (some .long)).before args s = true)
    (hframes : 1 ≤ R.frames) (hlocals : (rest.map fun v => v.category).sum + 15 ≤ R.locals) (hc : cells ≤ R.cells) (hs : slots ≤ R.slots) {x y : Int64} (hdg : decode cc pc = .ok (.invokestatic index, 3))
    (kk : W p l e R s m args below meth c H locs cells slots Q (F0 m (pc + 3) ls (.long (if y < x then x else y) :: rest))) : W p l e R s m args below meth c H locs cells slots Q (F0 m pc ls (.long y :: .long x :: rest)) := by
  intro T hT X
  obtain ⟨vm', X', st⟩ := X.mathMaxLH hexec hown hlink hstat hini hcode (g := F0 m pc ls (.long y :: .long x :: rest)) rfl (by rw [hml]) (a := x) (b := y) (rest := rest) rfl (by rw [hb]; exact hdg) hframes (by show 2 * 0 + _ + 15 ≤ _; omega) hc hs
  obtain ⟨t, a1, b1⟩ := kk (T.setVm vm') hT X'
  exact ⟨t, st t a1, b1⟩
theorem q_lmin (hexec : p.tables.exec = Jvm.exec) (hb : c.code = cc) (hml : c.maxLocals = ls.size) (hown : s.vm.findClass own = some m.cls) (hlink : (Cond.methodLink own index Lib.MathLoose.min_long.x).before args s = true) (hstat : (Cond.static Lib.MathLoose.min_long.x).before args s = true) (hini : (Cond.initialized "java/lang/Math").before args s = true) (hcode : (Cond.code Lib.MathLoose.min_long.x Lib.MathLoose.min_long.code 4 (some .long)).before args s = true)
    (hframes : 1 ≤ R.frames) (hlocals : (rest.map fun v => v.category).sum + 15 ≤ R.locals) (hc : cells ≤ R.cells) (hs : slots ≤ R.slots) {x y : Int64} (hdg : decode cc pc = .ok (.invokestatic index, 3))
    (kk : W p l e R s m args below meth c H locs cells slots Q (F0 m (pc + 3) ls (.long (if y < x then y else x) :: rest))) : W p l e R s m args below meth c H locs cells slots Q (F0 m pc ls (.long y :: .long x :: rest)) := by
  intro T hT X
  obtain ⟨vm', X', st⟩ := X.mathMinLH hexec hown hlink hstat hini hcode (g := F0 m pc ls (.long y :: .long x :: rest)) rfl (by rw [hml]) (a := x) (b := y) (rest := rest) rfl (by rw [hb]; exact hdg) hframes (by show 2 * 0 + _ + 15 ≤ _; omega) hc hs
  obtain ⟨t, a1, b1⟩ := kk (T.setVm vm') hT X'
  exact ⟨t, st t a1, b1⟩
end GC
theorem nb_n {v : Int32} (h : ¬ ¬ (v = 0 ∨ v = 1)) : narrow .boolean (.int v) = .int v := by
  exact nb_1 (Classical.not_not.mp h)
theorem nb_f {v : Int32} (h : ¬ ¬ (v = 0 ∨ v = 1)) : fits .boolean (.int v) = true := nb_2 (Classical.not_not.mp h)
/-! One array, or two, at any place of a world -/
abbrev wA (ws : va_W) (q x : Nat) (cA : ClassId) (N : Nat) (f : Nat → Int32) : va_W := ws.set q (x, .inl (cA, N, .inl f))
theorem wA_get {ws : va_W} {q x : Nat} {cA : ClassId} {N : Nat} {f : Nat → Int32} (hq : q < ws.length) : (wA ws q x cA N f)[q]? = some (x, .inl (cA, N, .inl f)) := List.getElem?_set_self hq
theorem wA_set {ws : va_W} {q x : Nat} {cA : ClassId} {N : Nat} {f g : Nat → Int32} : (wA ws q x cA N f).set q (x, .inl (cA, N, .inl g)) = wA ws q x cA N g := List.set_set ..
theorem wA_ne {ws : va_W} {q q' x : Nat} {cA : ClassId} {N : Nat} {f : Nat → Int32} {z : Nat × va_E} (hq : q ≠ q') (h : ws[q']? = some z) : (wA ws q x cA N f)[q']? = some z := by
  rw [List.getElem?_set_ne hq]; exact h
theorem bp_m64 : (Int8.ofInt (-64)).toInt32 = -64 := by decide
theorem bp_m60 : (Int8.ofInt (-60)).toInt32 = -60 := by decide
theorem bp_m32 : (Int8.ofInt (-32)).toInt32 = -32 := by decide
theorem bp_m3 : (Int8.ofInt (-3)).toInt32 = -3 := by decide
theorem bp_6 : (Int8.ofInt 6).toInt32 = 6 := by decide
theorem bp_8 : (Int8.ofInt 8).toInt32 = 8 := by decide
theorem bp_9 : (Int8.ofInt 9).toInt32 = 9 := by decide
theorem bp_10 : (Int8.ofInt 10).toInt32 = 10 := by decide
theorem bp_13 : (Int8.ofInt 13).toInt32 = 13 := by decide
theorem bp_16 : (Int8.ofInt 16).toInt32 = 16 := by decide
theorem bp_17 : (Int8.ofInt 17).toInt32 = 17 := by decide
theorem bp_18 : (Int8.ofInt 18).toInt32 = 18 := by decide
theorem bp_19 : (Int8.ofInt 19).toInt32 = 19 := by decide
theorem bp_20 : (Int8.ofInt 20).toInt32 = 20 := by decide
theorem bp_23 : (Int8.ofInt 23).toInt32 = 23 := by decide
theorem bp_24 : (Int8.ofInt 24).toInt32 = 24 := by decide
theorem bp_27 : (Int8.ofInt 27).toInt32 = 27 := by decide
theorem bp_31 : (Int8.ofInt 31).toInt32 = 31 := by decide
theorem bp_32 : (Int8.ofInt 32).toInt32 = 32 := by decide
theorem bp_36 : (Int8.ofInt 36).toInt32 = 36 := by decide
theorem bp_41 : (Int8.ofInt 41).toInt32 = 41 := by decide
theorem bp_45 : (Int8.ofInt 45).toInt32 = 45 := by decide
theorem bp_46 : (Int8.ofInt 46).toInt32 = 46 := by decide
theorem bp_48 : (Int8.ofInt 48).toInt32 = 48 := by decide
theorem bp_52 : (Int8.ofInt 52).toInt32 = 52 := by decide
theorem bp_53 : (Int8.ofInt 53).toInt32 = 53 := by decide
theorem bp_54 : (Int8.ofInt 54).toInt32 = 54 := by decide
theorem bp_60 : (Int8.ofInt 60).toInt32 = 60 := by decide
theorem bp_61 : (Int8.ofInt 61).toInt32 = 61 := by decide
theorem bp_62 : (Int8.ofInt 62).toInt32 = 62 := by decide
theorem bp_63 : (Int8.ofInt 63).toInt32 = 63 := by decide
theorem bp_64 : (Int8.ofInt 64).toInt32 = 64 := by decide
theorem bp_69 : (Int8.ofInt 69).toInt32 = 69 := by decide
theorem sp_m1074 : (Int16.ofInt (-1074)).toInt32 = -1074 := by decide
theorem sp_m330 : (Int16.ofInt (-330)).toInt32 = -330 := by decide
theorem sp_m149 : (Int16.ofInt (-149)).toInt32 = -149 := by decide
theorem sp_150 : (Int16.ofInt 150).toInt32 = 150 := by decide
theorem sp_255 : (Int16.ofInt 255).toInt32 = 255 := by decide
theorem sp_310 : (Int16.ofInt 310).toInt32 = 310 := by decide
theorem sp_1075 : (Int16.ofInt 1075).toInt32 = 1075 := by decide
theorem sp_2047 : (Int16.ofInt 2047).toInt32 = 2047 := by decide
