/-! Methods that answer or throw, over a heap that they leave as it is. -/
def exN (k : Nat) : String := if k = 1 then xIA else xAE
abbrev xQl (r : Nat ⊕ Int64) : Array Value → State → Outcome → State → Prop := fun _ st oc t => ∃ v, r = .inr v ∧ oc = .returned (some (.long v)) ∧ t.heap = st.heap
abbrev xQi (r : Nat ⊕ Int32) : Array Value → State → Outcome → State → Prop := fun _ st oc t => ∃ v, r = .inr v ∧ oc = .returned (some (.int v)) ∧ t.heap = st.heap
abbrev xX {α : Type} (r : Nat ⊕ α) : String → State → State → Prop := fun E st t => ∃ k, r = .inl k ∧ (k = 1 ∨ k = 2) ∧ E = exN k ∧ va_F (fun _ => False) st t
def xb_ {α β : Type} (x : Option (Nat ⊕ α)) (f : α → Option (Nat ⊕ β)) : Option (Nat ⊕ β) := x.bind fun z => match z with | .inl k => some (.inl k) | .inr v => f v
theorem xb_o {α β : Type} {x : Option (Nat ⊕ α)} {f : α → Option (Nat ⊕ β)} {r : Nat ⊕ β} (h : xb_ x f = some r) : ∃ z, x = some z ∧ ((∃ k, z = .inl k ∧ r = .inl k) ∨ ∃ v, z = .inr v ∧ f v = some r) := by
  cases x with
  | none => cases h
  | some z =>
    refine ⟨z, rfl, ?_⟩
    cases z with
    | inl k => exact Or.inl ⟨k, rfl, (Option.some.inj h).symm⟩
    | inr v => exact Or.inr ⟨v, rfl, h⟩
abbrev xPre (oF oD : Nat) (kA vA : Nat → Nat) (U : State) : Prop := eE oF oD kA vA (fun _ => False) U U.heap
theorem xPre_bl {oF oD : Nat} {kA vA : Nat → Nat} (U : State) (g : JFrame) (mk : MethodId) (a : Array Value) (h : xPre oF oD kA vA U) : xPre oF oD kA vA (U.calling g mk a) := eE_bl U g mk a h
theorem xPre_of {oF oD : Nat} {kA vA : Nat → Nat} {A : Nat → Prop} {s U : State} {H : Heap} {locs : List Loc} (hU : U.heap = H) (hW : s.WarmedH U.vm) (hS : va_S A s.heap H locs) (h : eE oF oD kA vA A s s.heap) : xPre oF oD kA vA U := by
  unfold xPre
  rw [hU]
  exact eE_nr (fun _ h => h.elim) (eE_at hW hS.2.1 h)
theorem xRe {oF oD : Nat} {kA vA : Nat → Nat} {s : State} (h : xPre oF oD kA vA s) (t : Int32) : rAt (oR oF oD t) (KR t) s := rA_rAt (eE_r h t)
section XO
variable {l : Launch} {y : MethodName} {cc : ByteArray} {maxL : Nat} {rm : Room} {vs : List Value} {oF oD : Nat} {kA vA : Nat → Nat}
/-- what a body may use: its ends -/
def xThr (p : Program) (l : Launch) (e : Env) (rm : Room) (s : State) (m : MethodId) (args : Array Value) (below : List Frame) (meth : Method) (c : Code) (Q : State → Prop) (cc : ByteArray) (maxL : Nat) (P : Nat → Prop) : Prop :=
  (∀ (pc i is : Nat) (ls : Array Slot) (rest : List Value), P 1 → i < 9 → sIdx.getD i 0 = is → ls.size = maxL → (rest.map fun v => v.category).sum ≤ 8 → decode cc pc = .ok (.new 31, 3) → decode cc (pc + 3) = .ok (.dup, 1) → decode cc (pc + 4) = .ok (.ldc is, 2) → decode cc (pc + 6) = .ok (.invokespecial 35, 3) → decode cc (pc + 9) = .ok (.athrow, 1) → W p l e rm s m args below meth c s.heap [] 0 0 Q (F0 m pc ls rest)) ∧
  (∀ (pc i is : Nat) (ls : Array Slot) (rest : List Value), P 2 → i < 9 → sIdx.getD i 0 = is → ls.size = maxL → (rest.map fun v => v.category).sum ≤ 8 → decode cc pc = .ok (.new 119, 3) → decode cc (pc + 3) = .ok (.dup, 1) → decode cc (pc + 4) = .ok (.ldc is, 2) → decode cc (pc + 6) = .ok (.invokespecial 123, 3) → decode cc (pc + 9) = .ok (.athrow, 1) → W p l e rm s m args below meth c s.heap [] 0 0 Q (F0 m pc ls rest)) ∧
  (∀ (pc k : Nat) (ls : Array Slot) (rest : List Value) (ce : Cell) (q : Addr) (H1 : Heap), P k → (k = 1 ∨ k = 2) → s.heap.size ≤ H1.size → (∀ z : Nat, z < s.heap.size → H1[z]? = s.heap[z]?) → H1[q]? = some ce → ce.vm = .none → s.vm.findClass (exN k) = some ce.cls → vx_W p l e rm s m args below meth c H1 [] 1 6 Q (F0 m pc ls rest) q)
theorem xThr_of {α : Type} {r : Nat ⊕ α} {Qc : Array Value → State → Outcome → State → Prop} {p : Program} {e : Env} {s : State} {m : MethodId} {args : Array Value} {below : List Frame} {meth : Method} {c : Code} (hl : l.stackTraces = false) (hx : p.tables.exec = Jvm.exec) (hb : c.code = cc) (hml : c.maxLocals = maxL) (hown : s.vm.findClass R_PB = some m.cls) (hT : ∀ w ∈ BIG, w.before args s = true) (hp : xPre oF oD kA vA s) (ht : ∀ x ∈ c.exceptionTable.toList, False) (hlk : meth.locks = false)
    (h1 : 5 < rm.frames) (h2 : 90 ≤ rm.locals) (h3 : rm.cells = 1) (h4 : rm.slots = 6) : xThr p l e rm s m args below meth c (vx_MQ below Qc (xX r) args s 1 6 (fun _ => False)) cc maxL (fun k => r = .inl k) := by
  obtain ⟨⟨-, hw, hk⟩, -, ⟨hU, hN⟩, -⟩ := hp
  have hR : ∀ i, i < 9 → vk_R R_PB (sIdx.getD i 0) (sTx.getD i "") (kA i) s := fun i hi => by
    have := hk i (by omega)
    rw [show sOwn i = R_PB from if_pos hi] at this
    exact this
  refine ⟨fun pc i is ls rest hr hi hs hz hc d0 d3 d4 d6 d9 => ?_, fun pc i is ls rest hr hi hs hz hc d0 d3 d4 d6 d9 => ?_, fun pc k ls rest ce q H1 hr hk2 a1 a2 a3 a4 a5 => ?_⟩
  · subst hs
    exact vx_throwS (A := fun _ => False) (names := xNm) (ik := 31) (ic := 35) hx hb hl hown x_fit.1 x_fit.2.2 (hT _ xI_big.1) (hT _ xI_big.2) (hR i hi) (xatI hT hw) xatI_ot hU hN va_S.rf (hz.trans hml.symm) d0 d3 d4 d6 d9 (fun x hx => (ht x hx).elim) h1 (by show _ + (13 * (2 + 1) + 43) ≤ _; omega) (by omega) (by omega) hlk
      (fun t _ g1 g2 => ⟨1, hr, Or.inl rfl, rfl, g1, fun q hq _ => g2 q hq⟩) (fun z hz => nomatch hz) (Nat.le_refl _) (Nat.le_refl _)
  · subst hs
    exact vx_throwS (A := fun _ => False) (names := xNm) (ik := 119) (ic := 123) hx hb hl hown x_fit.2.1 x_fit.2.2 (hT _ xA_big.1) (hT _ xA_big.2) (hR i hi) (xatA hT hw) xatA_ot hU hN va_S.rf (hz.trans hml.symm) d0 d3 d4 d6 d9 (fun x hx => (ht x hx).elim) h1 (by show _ + (13 * (2 + 1) + 43) ≤ _; omega) (by omega) (by omega) hlk
      (fun t _ g1 g2 => ⟨2, hr, Or.inr rfl, rfl, g1, fun q hq _ => g2 q hq⟩) (fun z hz => nomatch hz) (Nat.le_refl _) (Nat.le_refl _)
  · exact vx_out (fun x hx => (ht x hx).elim) hlk a3 a4 a5 (fun t e1 _ => ⟨k, hr, hk2, rfl, by rw [e1]; exact a1, fun z hz _ => by rw [e1]; exact a2 z hz⟩) (fun z hz => nomatch hz) (Nat.le_refl _) (Nat.le_refl _)
theorem xOpen_l {r : Nat ⊕ Int64} (hl : l.stackTraces = false) (hy : plainName y.cls = true) (hyc : y.cls = R_PB) (hlen : (lg_sl vs).length ≤ maxL) (h1 : 5 < rm.frames) (h2 : 90 ≤ rm.locals) (h3 : rm.cells = 1) (h4 : rm.slots = 6)
    (body : ∀ (p : Program) (e : Env) (s : State) (m : MethodId) (args : Array Value) (below : List Frame) (meth : Method) (c : Code) (Q : State → Prop) (ls : Array Slot), p.tables.exec = Jvm.exec → c.code = cc → c.maxLocals = maxL → s.vm.findClass R_PB = some m.cls → (∀ w ∈ Cond.code y cc maxL (some .long) :: BIG, w.before args s = true) → (∀ w ∈ BIG, w.before args s = true) → xPre oF oD kA vA s → lv_has ls maxL (lv_args 0 vs) →
      (∀ (pc : Nat) (ls : Array Slot) (k n : Nat) (v : Int64), k ≤ 1 → n ≤ 6 → r = .inr v → decode cc pc = .ok (.lreturn, 1) → W p l e rm s m args below meth c s.heap [] k n Q (F0 m pc ls [.long v])) → xThr p l e rm s m args below meth c Q cc maxL (fun k => r = .inl k) → W p l e rm s m args below meth c s.heap [] 0 0 Q (F0 m 0 ls [])) :
    vx_Met l y (Cond.code y cc maxL (some .long) :: BIG) rm (va_Pc vs (xPre oF oD kA vA)) (xQl r) (xX r) 1 6 (fun _ => False) := by
  refine vx_ofW (cc := cc) (maxL := maxL) (ret := some .long) hy rfl ?_
  intro p e s m args below meth c s₁ B hml ht hv
  obtain ⟨rfl, hp⟩ := hv
  have hL := lv_entry vs (n := maxL) hlen
  rw [lg_entry_eq]
  have hts := atoms_spec (ws := Cond.code y cc maxL (some .long) :: BIG) B.pre
  have hlocks := B.notSynchronized
  have hT : ∀ w ∈ BIG, w.before _ s = true := fun w h => hts w (List.mem_cons_of_mem _ h)
  have hown : s.vm.findClass R_PB = some m.cls := by rw [← hyc]; exact findClass_of_methodNamed B.named
  exact body p e s m _ below meth c _ _ B.exec B.bytes hml hown hts hT hp hL
    (fun pc ls k n v hk hn hv hd => vx_ret (W.widen hk hn (W.lret B.exec B.bytes B.returns (fun t ht _ => ⟨v, hv, rfl, ht⟩) (fun q hq => nomatch hq) hd)))
    (xThr_of hl B.exec B.bytes hml hown hT hp ht hlocks h1 h2 h3 h4)
theorem xOpen_i {r : Nat ⊕ Int32} (hl : l.stackTraces = false) (hy : plainName y.cls = true) (hyc : y.cls = R_PB) (hlen : (lg_sl vs).length ≤ maxL) (h1 : 5 < rm.frames) (h2 : 90 ≤ rm.locals) (h3 : rm.cells = 1) (h4 : rm.slots = 6)
    (body : ∀ (p : Program) (e : Env) (s : State) (m : MethodId) (args : Array Value) (below : List Frame) (meth : Method) (c : Code) (Q : State → Prop) (ls : Array Slot), p.tables.exec = Jvm.exec → c.code = cc → c.maxLocals = maxL → s.vm.findClass R_PB = some m.cls → (∀ w ∈ Cond.code y cc maxL (some .int) :: BIG, w.before args s = true) → (∀ w ∈ BIG, w.before args s = true) → xPre oF oD kA vA s → lv_has ls maxL (lv_args 0 vs) →
      (∀ (pc : Nat) (ls : Array Slot) (k n : Nat) (v : Int32), k ≤ 1 → n ≤ 6 → r = .inr v → decode cc pc = .ok (.ireturn, 1) → W p l e rm s m args below meth c s.heap [] k n Q (F0 m pc ls [.int v])) → xThr p l e rm s m args below meth c Q cc maxL (fun k => r = .inl k) → W p l e rm s m args below meth c s.heap [] 0 0 Q (F0 m 0 ls [])) :
    vx_Met l y (Cond.code y cc maxL (some .int) :: BIG) rm (va_Pc vs (xPre oF oD kA vA)) (xQi r) (xX r) 1 6 (fun _ => False) := by
  refine vx_ofW (cc := cc) (maxL := maxL) (ret := some .int) hy rfl ?_
  intro p e s m args below meth c s₁ B hml ht hv
  obtain ⟨rfl, hp⟩ := hv
  have hL := lv_entry vs (n := maxL) hlen
  rw [lg_entry_eq]
  have hts := atoms_spec (ws := Cond.code y cc maxL (some .int) :: BIG) B.pre
  have hlocks := B.notSynchronized
  have hT : ∀ w ∈ BIG, w.before _ s = true := fun w h => hts w (List.mem_cons_of_mem _ h)
  have hown : s.vm.findClass R_PB = some m.cls := by rw [← hyc]; exact findClass_of_methodNamed B.named
  exact body p e s m _ below meth c _ _ B.exec B.bytes hml hown hts hT hp hL
    (fun pc ls k n v hk hn hv hd => vx_ret (W.widen hk hn (W.iret B.exec B.bytes B.returns (fun t ht _ => ⟨v, hv, rfl, ht⟩) (fun q hq => nomatch hq) hd)))
    (xThr_of hl B.exec B.bytes hml hown hT hp ht hlocks h1 h2 h3 h4)
end XO
section XC
variable {p : Program} {l : Launch} {e : Env} {R : Room} {s : State} {m : MethodId} {args : Array Value} {below : List Frame} {meth : Method} {c : Code} {Q : State → Prop}
variable {cc : ByteArray} {nL : Nat} {own : String} {c0 : Cond} {y : MethodName} {bytes : ByteArray} {maxL n index : Nat} {ret : Option FieldType} {rm : Room} {As rest st0 : List Value} {pc : Nat} {ls : Array Slot} {oF oD : Nat} {kA vA : Nat → Nat} {r' : Nat ⊕ Int64}
theorem q_XS (hx : p.tables.exec = Jvm.exec) (hb : c.code = cc) (hml : c.maxLocals = nL) (hown : s.vm.findClass own = some m.cls) (hts : ∀ w ∈ c0 :: BIG, w.before args s = true)
    (hM : vx_Met l y (Cond.code y bytes maxL ret :: BIG) rm (va_Pc As (xPre oF oD kA vA)) (xQl r') (xX r') 1 6 (fun _ => False)) (hrc : rm.cells = 1) (hrs : rm.slots = 6)
    (hcode : Cond.code y bytes maxL ret ∈ BIG) (hlk : Cond.methodLink own index y ∈ BIG) (hst : Cond.static y ∈ BIG) (hini : Cond.initialized y.cls ∈ BIG)
    (hd : y.cls ≠ "java/lang/invoke/MethodHandle" ∧ y.cls ≠ "java/lang/invoke/VarHandle" ∧ (parseMethodDescriptor y.desc).map (fun d => d.parameters.length) = some n)
    (hR : rm.frames + 1 ≤ R.frames ∧ 8 + (maxL + 11) + rm.locals ≤ R.locals) (hp : xPre oF oD kA vA s)
    (hn : As.length = n) (hsize : ls.size = nL) (hstack : st0 = As.reverse ++ rest) (hW : (rest.map fun v => v.category).sum ≤ 8) (hdg : decode cc pc = .ok (.invokestatic index, 3)) (hcap : 1 ≤ R.cells ∧ 6 ≤ R.slots)
    {P : Nat → Prop} (hthr : xThr p l e R s m args below meth c Q cc nL P) (kx : ∀ k, r' = .inl k → P k)
    (kk : ∀ v, r' = .inr v → W p l e R s m args below meth c s.heap [] 1 6 Q (F0 m (pc + 3) ls (.long v :: rest))) : W p l e R s m args below meth c s.heap [] 0 0 Q (F0 m pc ls st0) := by
  have hT : ∀ w ∈ BIG, w.before args s = true := fun w h => hts w (List.mem_cons_of_mem _ h)
  have hr := vx_runS (p := p) (e := e) (m := m) (below := below) (meth := meth) (c := c) (H := s.heap) (locs := []) (cells := 0) (slots := 0) (g := F0 m pc ls st0) (rest := rest) (Ts := c0 :: BIG) (own := own) (index := index) (n := n) ⟨hx, hb, hml, hown, hts⟩ hM ⟨callB_of n hts (gBig hcode) rfl hrc hrs (hT _ hini) (hT _ hlk) hd hR, hT _ hst⟩ ⟨fun a U g mk q => ⟨q.1, xPre_bl U g mk a q.2⟩, fun U hU hW => ⟨rfl, xPre_of (A := fun _ => False) hU hW va_S.rf hp⟩⟩ rfl hn hsize hstack (lv_room hW) hdg (by omega)
  intro T hT X
  rcases hr T hT X with ⟨v, st₀, t, T', L, h0, X', hL, e1, e2, ⟨v', hv, hv2, hh⟩, st⟩ | ⟨q, st₀, t, T', L, E, ce, h0, X', hL, e1, e2, ⟨k, hk, hk2, hE, hF⟩, hce, hcv, hcl, st⟩
  · cases hv2
    have hTh : T'.heap = s.heap := by rw [e1, hh, h0]
    obtain ⟨t2, a1, b1⟩ := kk v' hv T' hTh (Stand.forget X' (fun q h => (hL q h).elim))
    exact ⟨t2, st t2 a1, b1⟩
  · subst hE
    obtain ⟨g1, g2⟩ := hF
    rw [h0] at g1 g2
    obtain ⟨t2, a1, b1⟩ := hthr.2.2 pc k ls rest ce q T'.heap (kx k hk) hk2 (by rw [e1]; exact g1) (fun z hz => by rw [e1]; exact g2 z hz (fun h => h)) (by rw [e1]; exact hce) hcv hcl T' rfl (Stand.forget X' (fun q h => (hL q h).elim))
    exact ⟨t2, st.trans a1, b1⟩
end XC
/-- the format of a type, by the class's own method -/
theorem d_PB_realOf_0 : decode b_PB_realOf 0 = .ok (.iload_n 0, 1) := by decide +kernel
theorem d_PB_realOf_1 : decode b_PB_realOf 1 = .ok (.iconst 5, 1) := by decide +kernel
theorem d_PB_realOf_2 : decode b_PB_realOf 2 = .ok (.if_icmp .ne 9, 3) := by decide +kernel
theorem d_PB_realOf_5 : decode b_PB_realOf 5 = .ok (.getstatic 112, 3) := by decide +kernel
theorem d_PB_realOf_8 : decode b_PB_realOf 8 = .ok (.goto 6, 3) := by decide +kernel
theorem d_PB_realOf_11 : decode b_PB_realOf 11 = .ok (.getstatic 116, 3) := by decide +kernel
theorem d_PB_realOf_14 : decode b_PB_realOf 14 = .ok (.areturn, 1) := by decide +kernel
theorem mr_1 : (Cond.fieldLink R_PB 112 R_Real "FLOAT" "LPrimitiveBits$Real;") ∈ BIG := List.mem_filter.mpr ⟨by decide +kernel, by rfl⟩
theorem mr_2 : (Cond.fieldLink R_PB 116 R_Real "DOUBLE" "LPrimitiveBits$Real;") ∈ BIG := List.mem_filter.mpr ⟨by decide +kernel, by rfl⟩
theorem mr_3 : (Cond.code y_PB_realOf b_PB_realOf 1 (some (.object "PrimitiveBits$Real"))) ∈ BIG := List.mem_filter.mpr ⟨by decide +kernel, by rfl⟩
theorem mr_4 : (Cond.static y_PB_realOf) ∈ BIG := List.mem_filter.mpr ⟨by decide +kernel, by rfl⟩
theorem mr_5 : (Cond.methodLink R_PB 49 y_PB_realOf) ∈ BIG := List.mem_filter.mpr ⟨by decide +kernel, by rfl⟩
theorem mr_6 : (Cond.initialized R_PB) ∈ BIG := List.mem_filter.mpr ⟨by decide +kernel, by rfl⟩
set_option maxHeartbeats 4000000 in
set_option maxRecDepth 100000 in
theorem c_PB_realOf (l : Launch) (oF oD : Nat) (kA vA : Nat → Nat) (a0 : Int32) : Met l y_PB_realOf (.code y_PB_realOf b_PB_realOf 1 (some (.object "PrimitiveBits$Real")) :: BIG) ({ frames := 0, cells := 0, slots := 0, locals := 0 } : Room) (va_Pc [.int a0] (xPre oF oD kA vA)) (pQ (.ref (oR oF oD a0))) 0 0 (fun _ => False) := by
  refine Met.ofW (cc := b_PB_realOf) (maxL := 1) (ret := some (.object "PrimitiveBits$Real")) rfl rfl ?_
  intro p e s m args below meth c s₁ B hml hv
  obtain ⟨rfl, hp⟩ := hv
  have hl := lv_entry [.int a0] (n := 1) (Nat.le_of_ble_eq_true rfl)
  rw [lg_entry_eq]
  have hts := atoms_spec (ws := Cond.code y_PB_realOf b_PB_realOf 1 (some (.object "PrimitiveBits$Real")) :: BIG) B.pre
  have hlocks := B.notSynchronized
  have hT : ∀ w ∈ BIG, w.before _ s = true := fun w h => hts w (List.mem_cons_of_mem _ h)
  have hown : s.vm.findClass R_PB = some m.cls := findClass_of_methodNamed B.named
  have hx := B.exec
  have hb := B.bytes
  obtain ⟨-, ⟨z1, z2, -, -⟩, -, -⟩ := hp
  generalize (lg_sl [Value.int a0] ++ List.replicate (1 - (lg_sl [Value.int a0]).length) Slot.unset).toArray = ls at hl ⊢
  have hl : lv_has ls 1 [(0, .int a0)] := hl
  refine lv_iload_n hx hb d_PB_realOf_0 rfl (lv_at hl 0 rfl) ?_
  refine lv_iconst hx hb d_PB_realOf_1 ic_5 ?_
  refine lv_icmp_ne (tgt := 11) hx hb d_PB_realOf_2 rfl (fun hc => ?_) (fun hc => ?_)
  · refine va_gets hx hb z2 va_S.rf hown (hT _ mr_2) (fun _ h9 => h9) d_PB_realOf_11 ?_
    refine W.aret hx hb B.returns (Or.inl ⟨_, rfl⟩) (Or.inr ⟨_, rfl⟩) (fun t ht _ => ⟨by rw [oR, if_neg hc], ht⟩) (fun q hq => nomatch hq) d_PB_realOf_14
  · refine va_gets hx hb z1 va_S.rf hown (hT _ mr_1) (fun _ h9 => h9) d_PB_realOf_5 ?_
    refine lv_goto (tgt := 14) hx hb d_PB_realOf_8 rfl ?_
    refine W.aret hx hb B.returns (Or.inl ⟨_, rfl⟩) (Or.inr ⟨_, rfl⟩) (fun t ht _ => ⟨by rw [oR, if_pos hc], ht⟩) (fun q hq => nomatch hq) d_PB_realOf_14
