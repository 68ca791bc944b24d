/-! Constructors: rows. -/
abbrev nPre (D : va_G) (A : Nat → Prop) (cI cL cC : ClassId) (w0 : va_W) (U : State) : Prop := gPre D A (tysV cI cL cC) w0 U ∧ ∀ q, U.heap.size ≤ q → A q
def nQ (D : va_G) (A : Nat → Prop) (w1 : (Nat → Nat) → va_W) : Array Value → State → Outcome → State → Prop := fun _ st oc t => oc = .returned none ∧ (∃ x : Nat → Nat, va_P D cls (w1 x) t.heap ∧ va_D A (w1 x)) ∧ va_F A st t
section NC
variable {p : Program} {l : Launch} {e : Env} {R : Room} {s : State} {m : MethodId} {args : Array Value} {below : List Frame} {meth : Method} {c : Code} {H H0 : Heap} {locs : List Loc} {cells slots : Nat} {Q : State → Prop}
variable {cc : ByteArray} {nL : Nat} {own : String} {c0 : Cond} {y : MethodName} {bytes : ByteArray} {maxL n index mc ms : Nat} {rm : Room} {As rest st0 : List Value} {pc : Nat} {ls : Array Slot}
variable {D : va_G} {A : Nat → Prop} {cI cL cC : ClassId} {w0 : va_W} {w1 : (Nat → Nat) → va_W} {ws : va_W}
theorem q_newI {N : Nat} {v : Int32} (hx : p.tables.exec = Jvm.exec) (hb : c.code = cc) (harr : (Cond.arrayClass .int).before args s = true) (hK : va_K D cls (tysV cI cL cC) s) (hP : va_P D cls ws H) (hD : va_D A ws) (hS : va_S A H0 H locs) (hA : ∀ q, H0.size ≤ q → A q) (hn : ¬ v < 0) (hN : v.toNatClampNeg = N) (hby : N * componentBytes .int ≤ 536870912) (hcells : cells + 1 ≤ R.cells) (hslots : slots + N ≤ R.slots) (hdg : decode cc pc = .ok (.newarray .int, 2))
    (kk : ∀ (q : Nat) (H1 : Heap), va_P D cls (ws ++ [(q, .inl (cI, N, .inl (fun _ => 0)))]) H1 → va_D A (ws ++ [(q, .inl (cI, N, .inl (fun _ => 0)))]) → va_S A H0 H1 locs → W p l e R s m args below meth c H1 locs (cells + 1) (slots + N) Q (F0 m (pc + 2) ls (.ref q :: rest))) : W p l e R s m args below meth c H locs cells slots Q (F0 m pc ls (.int v :: rest)) := by
  refine va_newa (atype := .int) (ty := .int) hx hb harr rfl hK hP hD hS hA (a0 := (N, .inl (fun _ => 0))) (fun _ => rfl) hn hN hby hcells hslots hdg (fun q cA H1 hK1 hP1 hD1 hS1 => ?_)
  have e : cA = cI := Option.some.inj (((hK1.2 3 (cA, .int) rfl).2 : s.vm.findClass _ = _).symm.trans ((hK.2 0 (cI, .int) rfl).2 : s.vm.findClass _ = _))
  subst e
  exact kk q H1 hP1 hD1 hS1
theorem q_newL {N : Nat} {v : Int32} (hx : p.tables.exec = Jvm.exec) (hb : c.code = cc) (harr : (Cond.arrayClass .long).before args s = true) (hK : va_K D cls (tysV cI cL cC) s) (hP : va_P D cls ws H) (hD : va_D A ws) (hS : va_S A H0 H locs) (hA : ∀ q, H0.size ≤ q → A q) (hn : ¬ v < 0) (hN : v.toNatClampNeg = N) (hby : N * componentBytes .long ≤ 536870912) (hcells : cells + 1 ≤ R.cells) (hslots : slots + N ≤ R.slots) (hdg : decode cc pc = .ok (.newarray .long, 2))
    (kk : ∀ (q : Nat) (H1 : Heap), va_P D cls (ws ++ [(q, .inl (cL, N, .inr (.inl (fun _ => 0))))]) H1 → va_D A (ws ++ [(q, .inl (cL, N, .inr (.inl (fun _ => 0))))]) → va_S A H0 H1 locs → W p l e R s m args below meth c H1 locs (cells + 1) (slots + N) Q (F0 m (pc + 2) ls (.ref q :: rest))) : W p l e R s m args below meth c H locs cells slots Q (F0 m pc ls (.int v :: rest)) := by
  refine va_newa (atype := .long) (ty := .long) hx hb harr rfl hK hP hD hS hA (a0 := (N, .inr (.inl (fun _ => 0)))) (fun _ => rfl) hn hN hby hcells hslots hdg (fun q cA H1 hK1 hP1 hD1 hS1 => ?_)
  have e : cA = cL := Option.some.inj (((hK1.2 3 (cA, .long) rfl).2 : s.vm.findClass _ = _).symm.trans ((hK.2 1 (cL, .long) rfl).2 : s.vm.findClass _ = _))
  subst e
  exact kk q H1 hP1 hD1 hS1
theorem q_newC {N : Nat} {v : Int32} (hx : p.tables.exec = Jvm.exec) (hb : c.code = cc) (harr : (Cond.arrayClass .char).before args s = true) (hK : va_K D cls (tysV cI cL cC) s) (hP : va_P D cls ws H) (hD : va_D A ws) (hS : va_S A H0 H locs) (hA : ∀ q, H0.size ≤ q → A q) (hn : ¬ v < 0) (hN : v.toNatClampNeg = N) (hby : N * componentBytes .char ≤ 536870912) (hcells : cells + 1 ≤ R.cells) (hslots : slots + N ≤ R.slots) (hdg : decode cc pc = .ok (.newarray .char, 2))
    (kk : ∀ (q : Nat) (H1 : Heap), va_P D cls (ws ++ [(q, .inl (cC, N, .inl (fun _ => 0)))]) H1 → va_D A (ws ++ [(q, .inl (cC, N, .inl (fun _ => 0)))]) → va_S A H0 H1 locs → W p l e R s m args below meth c H1 locs (cells + 1) (slots + N) Q (F0 m (pc + 2) ls (.ref q :: rest))) : W p l e R s m args below meth c H locs cells slots Q (F0 m pc ls (.int v :: rest)) := by
  refine va_newa (atype := .char) (ty := .char) hx hb harr rfl hK hP hD hS hA (a0 := (N, .inl (fun _ => 0))) (fun _ => rfl) hn hN hby hcells hslots hdg (fun q cA H1 hK1 hP1 hD1 hS1 => ?_)
  have e : cA = cC := Option.some.inj (((hK1.2 3 (cA, .char) rfl).2 : s.vm.findClass _ = _).symm.trans ((hK.2 2 (cC, .char) rfl).2 : s.vm.findClass _ = _))
  subst e
  exact kk q H1 hP1 hD1 hS1
theorem q_NI {b : Nat} (hx : p.tables.exec = Jvm.exec) (hb : c.code = cc) (hml : c.maxLocals = nL) (hown : s.vm.findClass own = some m.cls) (hts : ∀ w ∈ c0 :: BIG, w.before args s = true)
    (hM : Met l y (Cond.code y bytes maxL none :: BIG) rm (va_Pc (.ref b :: As) (nPre D A cI cL cC w0)) (nQ D A w1) mc ms A) (hrc : rm.cells = mc) (hrs : rm.slots = ms)
    (hcode : Cond.code y bytes maxL none ∈ BIG) (hlk : Cond.methodLink own index y ∈ BIG) (him : Cond.instanceMethod y ∈ BIG) (hini : Cond.initialized y.cls ∈ BIG) (hnm : y.name = "<init>")
    (hd : y.cls ≠ "java/lang/invoke/MethodHandle" ∧ y.cls ≠ "java/lang/invoke/VarHandle" ∧ (parseMethodDescriptor y.desc).map (fun d => d.parameters.length) = some n)
    (hR : rm.frames + 1 ≤ R.frames ∧ 8 + (maxL + 11) + rm.locals ≤ R.locals)
    (hN : nB s) (hK : va_K D cls (tysV cI cL cC) s) (hP : va_P D cls w0 H) (hD : va_D A w0) (hS : va_S A H0 H locs) (hA : ∀ q, H0.size ≤ q → A q)
    (hn : As.length = n) (hsize : ls.size = nL) (hstack : st0 = As.reverse ++ .ref b :: rest) (hW : (rest.map fun v => v.category).sum ≤ 8) (hdg : decode cc pc = .ok (.invokespecial index, 3)) (hcap : cells + mc ≤ R.cells ∧ slots + ms ≤ R.slots)
    (kk : ∀ (x : Nat → Nat) (H1 : Heap) (locs1 : List Loc), va_P D cls (w1 x) H1 → va_D A (w1 x) → va_S A H0 H1 locs1 → W p l e R s m args below meth c H1 locs1 (cells + mc) (slots + ms) Q (F0 m (pc + 3) ls rest)) : W p l e R s m args below meth c H locs cells slots Q (F0 m pc ls st0) := by
  have hT : ∀ w ∈ BIG, w.before args s = true := fun w h => hts w (List.mem_cons_of_mem _ h)
  have hr := va_runI (p := p) (e := e) (m := m) (below := below) (meth := meth) (c := c) (H := H) (locs := locs) (cells := cells) (slots := slots) (g := F0 m pc ls st0) (rest := rest) (Ts := c0 :: BIG) (own := own) (index := index) (n := n) (b := b) (As := As) ⟨hx, hb, hml, hown, hts⟩ hM ⟨callB_of n hts (gBig hcode) rfl hrc hrs (hT _ hini) (hT _ hlk) hd hR, hnm, hT _ him⟩ ⟨fun a U g mk q => ⟨q.1, gPre_bl U g mk a q.2.1, q.2.2⟩, fun U hU hW => ⟨rfl, ⟨nB_mv hW hN, by rw [hU]; exact hP, va_K.moved hW.alike hK, hD⟩, fun q hq => hA q (Nat.le_trans hS.1 (by rw [hU] at hq; exact hq))⟩⟩ rfl hn hsize hstack (lv_room hW) hdg hcap
  intro T hT X
  obtain ⟨v', st₀, t, T', L, h0, X', hL, e1, e2, ⟨hv, ⟨x, hP, hD⟩, hz, hk⟩, st⟩ := hr T hT X
  cases hv
  rw [h0] at hz hk
  obtain ⟨t2, a1, b1⟩ := kk x T'.heap (locs ++ L) (by rw [e1]; exact hP) hD
    ⟨Nat.le_trans hS.1 (by rw [e1]; exact hz), fun q h1 h2 => by rw [e1, hk q (Nat.lt_of_lt_of_le h1 hS.1) h2]; exact hS.2.1 q h1 h2, fun q hq => by
      rcases List.mem_append.mp hq with h | h
      · exact hS.2.2 q h
      · exact hL q h⟩ T' rfl X'
  exact ⟨t2, st t2 a1, b1⟩
end NC
theorem df_Lt : ∀ j, j < 3 → defaultValue (ty_Lt j) = vp_V [.null, .int 0, .int 0] j := by decide +kernel
theorem df_BW : ∀ j, j < 3 → defaultValue (ty_BW j) = vp_V [.null, .int 0, .int 0] j := by decide +kernel
theorem df_SD : ∀ j, j < 3 → defaultValue (ty_SD j) = vp_V [.null, .long 0, .int 0] j := by decide +kernel
theorem df_PB : ∀ j, j < 2 → defaultValue (ty_PB j) = vp_V [.null, .null] j := by decide +kernel
theorem df_Rs : ∀ j, j < 26 → defaultValue (ty_Rs j) = vp_V [.null, .null, .int 0, .int 0, .int 0, .int 0, .int 0, .int 0, .int 0, .null, .null, .null, .null, .null, .null, .int 0, .int 0, .int 0, .int 0, .int 0, .int 0, .int 0, .int 0, .int 0, .int 0, .int 0] j := by decide +kernel
theorem df_Md : ∀ j, j < 15 → defaultValue (ty_Md j) = vp_V [.null, .null, .int 0, .int 0, .int 0, .long 0, .long 0, .int 0, .int 0, .int 0, .int 0, .int 0, .int 0, .int 0, .int 0] j := by decide +kernel
theorem mn_0 : (.methodLink R_Lt 1 objectInit : Cond) ∈ BIG := List.mem_filter.mpr ⟨by decide +kernel, by rfl⟩
theorem mn_1 : (.instanceMethod objectInit : Cond) ∈ BIG := List.mem_filter.mpr ⟨by decide +kernel, by rfl⟩
theorem mn_2 : (.code objectInit ⟨#[0xb1]⟩ 1 none : Cond) ∈ BIG := List.mem_filter.mpr ⟨by decide +kernel, by rfl⟩
theorem mn_3 : (.arrayClass .char : Cond) ∈ BIG := List.mem_filter.mpr ⟨by decide +kernel, by rfl⟩
theorem mn_4 : (.fieldLink R_Lt 9 R_Lt "row" "[C" : Cond) ∈ BIG := List.mem_filter.mpr ⟨by decide +kernel, by rfl⟩
theorem mn_5 : (.methodLink R_BW 3 objectInit : Cond) ∈ BIG := List.mem_filter.mpr ⟨by decide +kernel, by rfl⟩
theorem mn_6 : (.arrayClass .long : Cond) ∈ BIG := List.mem_filter.mpr ⟨by decide +kernel, by rfl⟩
theorem mn_7 : (.fieldLink R_BW 11 R_BW "limbs" "[J" : Cond) ∈ BIG := List.mem_filter.mpr ⟨by decide +kernel, by rfl⟩
theorem mn_8 : (.methodLink R_SD 1 objectInit : Cond) ∈ BIG := List.mem_filter.mpr ⟨by decide +kernel, by rfl⟩
theorem mn_9 : (.classLink R_SD 7 R_BW : Cond) ∈ BIG := List.mem_filter.mpr ⟨by decide +kernel, by rfl⟩
theorem mn_10 : (.instantiable R_BW 3 : Cond) ∈ BIG := List.mem_filter.mpr ⟨by decide +kernel, by rfl⟩
theorem mn_11 : (.initialized R_BW : Cond) ∈ BIG := List.mem_filter.mpr ⟨by decide +kernel, by rfl⟩
theorem mn_12 : (.code y_BW_new b_BW_new 1 none : Cond) ∈ BIG := List.mem_filter.mpr ⟨by decide +kernel, by rfl⟩
theorem mn_13 : (.methodLink R_SD 9 y_BW_new : Cond) ∈ BIG := List.mem_filter.mpr ⟨by decide +kernel, by rfl⟩
theorem mn_14 : (.instanceMethod y_BW_new : Cond) ∈ BIG := List.mem_filter.mpr ⟨by decide +kernel, by rfl⟩
theorem mn_15 : (.fieldLink R_SD 10 R_SD "big" "LPrimitiveBits$BigWhole;" : Cond) ∈ BIG := List.mem_filter.mpr ⟨by decide +kernel, by rfl⟩
theorem mn_16 : (.methodLink R_PB 1 objectInit : Cond) ∈ BIG := List.mem_filter.mpr ⟨by decide +kernel, by rfl⟩
theorem mn_17 : (.classLink R_PB 7 R_Lt : Cond) ∈ BIG := List.mem_filter.mpr ⟨by decide +kernel, by rfl⟩
theorem mn_18 : (.instantiable R_Lt 3 : Cond) ∈ BIG := List.mem_filter.mpr ⟨by decide +kernel, by rfl⟩
theorem mn_19 : (.initialized R_Lt : Cond) ∈ BIG := List.mem_filter.mpr ⟨by decide +kernel, by rfl⟩
theorem mn_20 : (.code y_Lt_new b_Lt_new 1 none : Cond) ∈ BIG := List.mem_filter.mpr ⟨by decide +kernel, by rfl⟩
theorem mn_21 : (.methodLink R_PB 9 y_Lt_new : Cond) ∈ BIG := List.mem_filter.mpr ⟨by decide +kernel, by rfl⟩
theorem mn_22 : (.instanceMethod y_Lt_new : Cond) ∈ BIG := List.mem_filter.mpr ⟨by decide +kernel, by rfl⟩
theorem mn_23 : (.fieldLink R_PB 10 R_PB "letters" "LPrimitiveBits$Letters;" : Cond) ∈ BIG := List.mem_filter.mpr ⟨by decide +kernel, by rfl⟩
theorem mn_24 : (.classLink R_PB 16 R_SD : Cond) ∈ BIG := List.mem_filter.mpr ⟨by decide +kernel, by rfl⟩
theorem mn_25 : (.instantiable R_SD 3 : Cond) ∈ BIG := List.mem_filter.mpr ⟨by decide +kernel, by rfl⟩
theorem mn_26 : (.initialized R_SD : Cond) ∈ BIG := List.mem_filter.mpr ⟨by decide +kernel, by rfl⟩
theorem mn_27 : (.code y_SD_new b_SD_new 1 none : Cond) ∈ BIG := List.mem_filter.mpr ⟨by decide +kernel, by rfl⟩
theorem mn_28 : (.methodLink R_PB 18 y_SD_new : Cond) ∈ BIG := List.mem_filter.mpr ⟨by decide +kernel, by rfl⟩
theorem mn_29 : (.instanceMethod y_SD_new : Cond) ∈ BIG := List.mem_filter.mpr ⟨by decide +kernel, by rfl⟩
theorem mn_30 : (.fieldLink R_PB 19 R_PB "shortest" "LPrimitiveBits$ShortestDecimal;" : Cond) ∈ BIG := List.mem_filter.mpr ⟨by decide +kernel, by rfl⟩
theorem mn_31 : (.methodLink R_Rs 1 objectInit : Cond) ∈ BIG := List.mem_filter.mpr ⟨by decide +kernel, by rfl⟩
theorem mn_32 : (.arrayClass .int : Cond) ∈ BIG := List.mem_filter.mpr ⟨by decide +kernel, by rfl⟩
theorem mn_33 : (.fieldLink R_Rs 7 R_Rs "text" "[I" : Cond) ∈ BIG := List.mem_filter.mpr ⟨by decide +kernel, by rfl⟩
theorem mn_34 : (.fieldLink R_Rs 13 R_Rs "written" "[I" : Cond) ∈ BIG := List.mem_filter.mpr ⟨by decide +kernel, by rfl⟩
theorem mn_35 : (.fieldLink R_Rs 16 R_Rs "a" "[I" : Cond) ∈ BIG := List.mem_filter.mpr ⟨by decide +kernel, by rfl⟩
theorem mn_36 : (.fieldLink R_Rs 19 R_Rs "b" "[I" : Cond) ∈ BIG := List.mem_filter.mpr ⟨by decide +kernel, by rfl⟩
theorem mn_37 : (.fieldLink R_Rs 22 R_Rs "five" "[I" : Cond) ∈ BIG := List.mem_filter.mpr ⟨by decide +kernel, by rfl⟩
theorem mn_38 : (.fieldLink R_Rs 25 R_Rs "left" "[I" : Cond) ∈ BIG := List.mem_filter.mpr ⟨by decide +kernel, by rfl⟩
theorem mn_39 : (.fieldLink R_Rs 28 R_Rs "right" "[I" : Cond) ∈ BIG := List.mem_filter.mpr ⟨by decide +kernel, by rfl⟩
theorem mn_40 : (.fieldLink R_Rs 31 R_Rs "part" "[I" : Cond) ∈ BIG := List.mem_filter.mpr ⟨by decide +kernel, by rfl⟩
theorem mn_41 : (.methodLink R_Md 1 objectInit : Cond) ∈ BIG := List.mem_filter.mpr ⟨by decide +kernel, by rfl⟩
theorem mn_42 : (.classLink R_Md 7 R_Rs : Cond) ∈ BIG := List.mem_filter.mpr ⟨by decide +kernel, by rfl⟩
theorem mn_43 : (.instantiable R_Rs 26 : Cond) ∈ BIG := List.mem_filter.mpr ⟨by decide +kernel, by rfl⟩
theorem mn_44 : (.initialized R_Rs : Cond) ∈ BIG := List.mem_filter.mpr ⟨by decide +kernel, by rfl⟩
theorem mn_45 : (.code y_Rs_new b_Rs_new 1 none : Cond) ∈ BIG := List.mem_filter.mpr ⟨by decide +kernel, by rfl⟩
theorem mn_46 : (.methodLink R_Md 9 y_Rs_new : Cond) ∈ BIG := List.mem_filter.mpr ⟨by decide +kernel, by rfl⟩
theorem mn_47 : (.instanceMethod y_Rs_new : Cond) ∈ BIG := List.mem_filter.mpr ⟨by decide +kernel, by rfl⟩
theorem mn_48 : (.fieldLink R_Md 10 R_Md "reals" "LPrimitiveBitsModel$Reals;" : Cond) ∈ BIG := List.mem_filter.mpr ⟨by decide +kernel, by rfl⟩
theorem mn_49 : (.fieldLink R_Md 16 R_Md "letters" "[I" : Cond) ∈ BIG := List.mem_filter.mpr ⟨by decide +kernel, by rfl⟩
-- Lt
theorem d_Lt_new_0 : decode b_Lt_new 0 = .ok (.aload_n 0, 1) := by decide +kernel
theorem d_Lt_new_1 : decode b_Lt_new 1 = .ok (.invokespecial 1, 3) := by decide +kernel
theorem d_Lt_new_4 : decode b_Lt_new 4 = .ok (.aload_n 0, 1) := by decide +kernel
theorem d_Lt_new_5 : decode b_Lt_new 5 = .ok (.bipush 32, 2) := by decide +kernel
theorem d_Lt_new_7 : decode b_Lt_new 7 = .ok (.newarray .char, 2) := by decide +kernel
theorem d_Lt_new_9 : decode b_Lt_new 9 = .ok (.putfield 9, 3) := by decide +kernel
theorem d_Lt_new_12 : decode b_Lt_new 12 = .ok (.return_, 1) := by decide +kernel
set_option maxHeartbeats 4000000 in
set_option maxRecDepth 100000 in
theorem c_Lt_new (l : Launch) (D : va_G) (A : Nat → Prop) (cI cL cC : ClassId) (c0 : Nat × va_E) (h0 : Nat) : Met l y_Lt_new (.code y_Lt_new b_Lt_new 1 none :: BIG) ({ frames := 1, cells := 1, slots := 32, locals := 12 } : Room) (va_Pc [.ref h0] (nPre D A cI cL cC [c0, (h0, .inr (1, [.null, .int 0, .int 0]))])) (nQ D A (fun x => [c0, (h0, .inr (1, [.ref (x 0), .int 0, .int 0])), ((x 0), .inl (cC, 32, .inl (fun _ => 0)))])) 1 32 A := by
  refine Met.ofW (cc := b_Lt_new) (maxL := 1) (ret := none) rfl rfl ?_
  intro p e s m args below meth c s₁ B hml hv
  obtain ⟨rfl, ⟨hNB, hP, hK, hD⟩, hA⟩ := hv
  have hx := B.exec
  have hb := B.bytes
  have hr := B.returns
  have hts := atoms_spec (ws := Cond.code y_Lt_new b_Lt_new 1 none :: BIG) B.pre
  have hT : ∀ w ∈ BIG, w.before _ s = true := fun w h => hts w (List.mem_cons_of_mem _ h)
  have hown : s.vm.findClass R_Lt = some m.cls := findClass_of_methodNamed B.named
  have hlocks := B.notSynchronized
  have hin : meth.name = "<init>" := (name_of_methodNamed B.named B.method).1
  have hS : va_S A s.heap s.heap [] := va_S.rf
  have hl := lv_entry ([.ref h0]) (n := 1) (Nat.le_of_ble_eq_true rfl)
  rw [lg_entry_eq]
  generalize (lg_sl ([.ref h0]) ++ List.replicate (1 - (lg_sl ([.ref h0])).length) Slot.unset).toArray = ls at hl ⊢
  have hl : lv_has ls 1 [(0, .ref h0)] := hl
  refine lv_aload_n hx hb d_Lt_new_0 rfl (lv_at hl 0 rfl) ?_
  refine W.objInit hx hb hown (hT _ mn_0) (hT _ mn_1) (hT _ mn_2) rfl (by rw [hml]; exact hl.1) rfl d_Lt_new_1 (Nat.le_of_ble_eq_true rfl) (Nat.le_of_ble_eq_true rfl) ?_
  refine W.eq (g2 := F0 m 4 ls []) rfl ?_
  refine lv_aload_n hx hb d_Lt_new_4 rfl (lv_at hl 0 rfl) ?_
  refine lv_bipush hx hb d_Lt_new_5 (show (Int8.ofInt 32).toInt32 = (32 : Int32) by decide) ?_
  refine q_newC (N := 32) hx hb (hT _ mn_3) hK hP hD hS hA (by decide) (by decide) (by decide) (Nat.le_of_ble_eq_true rfl) (Nat.le_of_ble_eq_true rfl) d_Lt_new_7 (fun q0 H hP hD hS => ?_)
  have hP : va_P D cls [c0, (h0, .inr (1, [.null, .int 0, .int 0])), (q0, .inl (cC, 32, .inl (fun _ => 0)))] H := hP
  have hD : va_D A [c0, (h0, .inr (1, [.null, .int 0, .int 0])), (q0, .inl (cC, 32, .inl (fun _ => 0)))] := hD
  refine va_putF (D := D) (ci := 1) (v := .ref q0) (ty := .array .char) (C := R_Lt) (T := T_Lt) (N := 3) hx hb hT in_Lt ty_Lt tyok_Lt nm_Lt hown hK hP hD hS 1 rfl rfl 0 (by decide) (hT _ mn_4) (fun _ h9 => h9) rfl hin rfl (by decide +kernel) rfl rfl (Nat.le_of_ble_eq_true rfl) d_Lt_new_9 (fun H locs hP hD hS => ?_)
  have hP : va_P D cls [c0, (h0, .inr (1, [.ref q0, .int 0, .int 0])), (q0, .inl (cC, 32, .inl (fun _ => 0)))] H := hP
  have hD : va_D A [c0, (h0, .inr (1, [.ref q0, .int 0, .int 0])), (q0, .inl (cC, 32, .inl (fun _ => 0)))] := hD
  exact W.vret hx hb hr (fun t ht _ => ⟨rfl, ⟨(fun j => match j with | _ => q0), by rw [ht]; exact hP, hD⟩, hS.F ht⟩) hS.2.2 d_Lt_new_12
-- BW
theorem d_BW_new_0 : decode b_BW_new 0 = .ok (.aload_n 0, 1) := by decide +kernel
theorem d_BW_new_1 : decode b_BW_new 1 = .ok (.invokespecial 3, 3) := by decide +kernel
theorem d_BW_new_4 : decode b_BW_new 4 = .ok (.aload_n 0, 1) := by decide +kernel
theorem d_BW_new_5 : decode b_BW_new 5 = .ok (.bipush 36, 2) := by decide +kernel
theorem d_BW_new_7 : decode b_BW_new 7 = .ok (.newarray .long, 2) := by decide +kernel
theorem d_BW_new_9 : decode b_BW_new 9 = .ok (.putfield 11, 3) := by decide +kernel
theorem d_BW_new_12 : decode b_BW_new 12 = .ok (.return_, 1) := by decide +kernel
set_option maxHeartbeats 4000000 in
set_option maxRecDepth 100000 in
theorem c_BW_new (l : Launch) (D : va_G) (A : Nat → Prop) (cI cL cC : ClassId) (c0 : Nat × va_E) (c1 : Nat × va_E) (c2 : Nat × va_E) (c3 : Nat × va_E) (h0 : Nat) : Met l y_BW_new (.code y_BW_new b_BW_new 1 none :: BIG) ({ frames := 1, cells := 1, slots := 36, locals := 12 } : Room) (va_Pc [.ref h0] (nPre D A cI cL cC [c0, c1, c2, c3, (h0, .inr (3, [.null, .int 0, .int 0]))])) (nQ D A (fun x => [c0, c1, c2, c3, (h0, .inr (3, [.ref (x 0), .int 0, .int 0])), ((x 0), .inl (cL, 36, .inr (.inl (fun _ => 0))))])) 1 36 A := by
  refine Met.ofW (cc := b_BW_new) (maxL := 1) (ret := none) rfl rfl ?_
  intro p e s m args below meth c s₁ B hml hv
  obtain ⟨rfl, ⟨hNB, hP, hK, hD⟩, hA⟩ := hv
  have hx := B.exec
  have hb := B.bytes
  have hr := B.returns
  have hts := atoms_spec (ws := Cond.code y_BW_new b_BW_new 1 none :: BIG) B.pre
  have hT : ∀ w ∈ BIG, w.before _ s = true := fun w h => hts w (List.mem_cons_of_mem _ h)
  have hown : s.vm.findClass R_BW = some m.cls := findClass_of_methodNamed B.named
  have hlocks := B.notSynchronized
  have hin : meth.name = "<init>" := (name_of_methodNamed B.named B.method).1
  have hS : va_S A s.heap s.heap [] := va_S.rf
  have hl := lv_entry ([.ref h0]) (n := 1) (Nat.le_of_ble_eq_true rfl)
  rw [lg_entry_eq]
  generalize (lg_sl ([.ref h0]) ++ List.replicate (1 - (lg_sl ([.ref h0])).length) Slot.unset).toArray = ls at hl ⊢
  have hl : lv_has ls 1 [(0, .ref h0)] := hl
  refine lv_aload_n hx hb d_BW_new_0 rfl (lv_at hl 0 rfl) ?_
  refine W.objInit hx hb hown (hT _ mn_5) (hT _ mn_1) (hT _ mn_2) rfl (by rw [hml]; exact hl.1) rfl d_BW_new_1 (Nat.le_of_ble_eq_true rfl) (Nat.le_of_ble_eq_true rfl) ?_
  refine W.eq (g2 := F0 m 4 ls []) rfl ?_
  refine lv_aload_n hx hb d_BW_new_4 rfl (lv_at hl 0 rfl) ?_
  refine lv_bipush hx hb d_BW_new_5 (show (Int8.ofInt 36).toInt32 = (36 : Int32) by decide) ?_
  refine q_newL (N := 36) hx hb (hT _ mn_6) hK hP hD hS hA (by decide) (by decide) (by decide) (Nat.le_of_ble_eq_true rfl) (Nat.le_of_ble_eq_true rfl) d_BW_new_7 (fun q0 H hP hD hS => ?_)
  have hP : va_P D cls [c0, c1, c2, c3, (h0, .inr (3, [.null, .int 0, .int 0])), (q0, .inl (cL, 36, .inr (.inl (fun _ => 0))))] H := hP
  have hD : va_D A [c0, c1, c2, c3, (h0, .inr (3, [.null, .int 0, .int 0])), (q0, .inl (cL, 36, .inr (.inl (fun _ => 0))))] := hD
  refine va_putF (D := D) (ci := 3) (v := .ref q0) (ty := .array .long) (C := R_BW) (T := T_BW) (N := 3) hx hb hT in_BW ty_BW tyok_BW nm_BW hown hK hP hD hS 4 rfl rfl 0 (by decide) (hT _ mn_7) (fun _ h9 => h9) rfl hin rfl (by decide +kernel) rfl rfl (Nat.le_of_ble_eq_true rfl) d_BW_new_9 (fun H locs hP hD hS => ?_)
  have hP : va_P D cls [c0, c1, c2, c3, (h0, .inr (3, [.ref q0, .int 0, .int 0])), (q0, .inl (cL, 36, .inr (.inl (fun _ => 0))))] H := hP
  have hD : va_D A [c0, c1, c2, c3, (h0, .inr (3, [.ref q0, .int 0, .int 0])), (q0, .inl (cL, 36, .inr (.inl (fun _ => 0))))] := hD
  exact W.vret hx hb hr (fun t ht _ => ⟨rfl, ⟨(fun j => match j with | _ => q0), by rw [ht]; exact hP, hD⟩, hS.F ht⟩) hS.2.2 d_BW_new_12
-- SD
theorem d_SD_new_0 : decode b_SD_new 0 = .ok (.aload_n 0, 1) := by decide +kernel
theorem d_SD_new_1 : decode b_SD_new 1 = .ok (.invokespecial 1, 3) := by decide +kernel
theorem d_SD_new_4 : decode b_SD_new 4 = .ok (.aload_n 0, 1) := by decide +kernel
theorem d_SD_new_5 : decode b_SD_new 5 = .ok (.new 7, 3) := by decide +kernel
theorem d_SD_new_8 : decode b_SD_new 8 = .ok (.dup, 1) := by decide +kernel
theorem d_SD_new_9 : decode b_SD_new 9 = .ok (.invokespecial 9, 3) := by decide +kernel
theorem d_SD_new_12 : decode b_SD_new 12 = .ok (.putfield 10, 3) := by decide +kernel
theorem d_SD_new_15 : decode b_SD_new 15 = .ok (.return_, 1) := by decide +kernel
set_option maxHeartbeats 4000000 in
set_option maxRecDepth 100000 in
theorem c_SD_new (l : Launch) (D : va_G) (A : Nat → Prop) (cI cL cC : ClassId) (c0 : Nat × va_E) (c1 : Nat × va_E) (c2 : Nat × va_E) (h0 : Nat) : Met l y_SD_new (.code y_SD_new b_SD_new 1 none :: BIG) ({ frames := 2, cells := 2, slots := 39, locals := 32 } : Room) (va_Pc [.ref h0] (nPre D A cI cL cC [c0, c1, c2, (h0, .inr (2, [.null, .long 0, .int 0]))])) (nQ D A (fun x => [c0, c1, c2, (h0, .inr (2, [.ref (x 0), .long 0, .int 0])), ((x 0), .inr (3, [.ref ((x 1)), .int 0, .int 0])), (((x 1)), .inl (cL, 36, .inr (.inl (fun _ => 0))))])) 2 39 A := by
  refine Met.ofW (cc := b_SD_new) (maxL := 1) (ret := none) rfl rfl ?_
  intro p e s m args below meth c s₁ B hml hv
  obtain ⟨rfl, ⟨hNB, hP, hK, hD⟩, hA⟩ := hv
  have hx := B.exec
  have hb := B.bytes
  have hr := B.returns
  have hts := atoms_spec (ws := Cond.code y_SD_new b_SD_new 1 none :: BIG) B.pre
  have hT : ∀ w ∈ BIG, w.before _ s = true := fun w h => hts w (List.mem_cons_of_mem _ h)
  have hown : s.vm.findClass R_SD = some m.cls := findClass_of_methodNamed B.named
  have hlocks := B.notSynchronized
  have hin : meth.name = "<init>" := (name_of_methodNamed B.named B.method).1
  have hS : va_S A s.heap s.heap [] := va_S.rf
  have hl := lv_entry ([.ref h0]) (n := 1) (Nat.le_of_ble_eq_true rfl)
  rw [lg_entry_eq]
  generalize (lg_sl ([.ref h0]) ++ List.replicate (1 - (lg_sl ([.ref h0])).length) Slot.unset).toArray = ls at hl ⊢
  have hl : lv_has ls 1 [(0, .ref h0)] := hl
  refine lv_aload_n hx hb d_SD_new_0 rfl (lv_at hl 0 rfl) ?_
  refine W.objInit hx hb hown (hT _ mn_8) (hT _ mn_1) (hT _ mn_2) rfl (by rw [hml]; exact hl.1) rfl d_SD_new_1 (Nat.le_of_ble_eq_true rfl) (Nat.le_of_ble_eq_true rfl) ?_
  refine W.eq (g2 := F0 m 4 ls []) rfl ?_
  refine lv_aload_n hx hb d_SD_new_4 rfl (lv_at hl 0 rfl) ?_
  refine va_new (ci := 3) (fs := [.null, .int 0, .int 0]) (C := R_BW) (T := T_BW) (N := 3) hx hb hT in_BW ty_BW tyok_BW hown (hT _ mn_9) (hT _ mn_10) (hT _ mn_11) hK hP hD hS hA rfl df_BW (Nat.le_of_ble_eq_true rfl) (Nat.le_of_ble_eq_true rfl) d_SD_new_5 (fun q0 H hP hD hS => ?_)
  have hP : va_P D cls [c0, c1, c2, (h0, .inr (2, [.null, .long 0, .int 0])), (q0, .inr (3, [.null, .int 0, .int 0]))] H := hP
  have hD : va_D A [c0, c1, c2, (h0, .inr (2, [.null, .long 0, .int 0])), (q0, .inr (3, [.null, .int 0, .int 0]))] := hD
  refine lv_dup hx hb d_SD_new_8 rfl ?_
  refine q_NI (D := D) (A := A) (As := []) (rest := [.ref q0, .ref h0]) (n := 0) (b := q0) hx hb hml hown hts (c_BW_new l D A cI cL cC _ _ _ _ q0) rfl rfl mn_12 mn_13 mn_14 mn_11 rfl (by decide +kernel) ⟨Nat.le_of_ble_eq_true rfl, Nat.le_of_ble_eq_true rfl⟩ hNB hK hP hD hS hA rfl hl.1 rfl (Nat.le_of_ble_eq_true rfl) d_SD_new_9 ⟨Nat.le_of_ble_eq_true rfl, Nat.le_of_ble_eq_true rfl⟩ (fun xq0 H locs hP hD hS => ?_)
  have hP : va_P D cls [c0, c1, c2, (h0, .inr (2, [.null, .long 0, .int 0])), (q0, .inr (3, [.ref (xq0 0), .int 0, .int 0])), ((xq0 0), .inl (cL, 36, .inr (.inl (fun _ => 0))))] H := hP
  have hD : va_D A [c0, c1, c2, (h0, .inr (2, [.null, .long 0, .int 0])), (q0, .inr (3, [.ref (xq0 0), .int 0, .int 0])), ((xq0 0), .inl (cL, 36, .inr (.inl (fun _ => 0))))] := hD
  refine va_putF (D := D) (ci := 2) (v := .ref q0) (ty := .object "PrimitiveBits$BigWhole") (C := R_SD) (T := T_SD) (N := 3) hx hb hT in_SD ty_SD tyok_SD nm_SD hown hK hP hD hS 3 rfl rfl 0 (by decide) (hT _ mn_15) (fun _ h9 => h9) rfl hin rfl (by decide +kernel) rfl rfl (Nat.le_of_ble_eq_true rfl) d_SD_new_12 (fun H locs hP hD hS => ?_)
  have hP : va_P D cls [c0, c1, c2, (h0, .inr (2, [.ref q0, .long 0, .int 0])), (q0, .inr (3, [.ref (xq0 0), .int 0, .int 0])), ((xq0 0), .inl (cL, 36, .inr (.inl (fun _ => 0))))] H := hP
  have hD : va_D A [c0, c1, c2, (h0, .inr (2, [.ref q0, .long 0, .int 0])), (q0, .inr (3, [.ref (xq0 0), .int 0, .int 0])), ((xq0 0), .inl (cL, 36, .inr (.inl (fun _ => 0))))] := hD
  exact W.vret hx hb hr (fun t ht _ => ⟨rfl, ⟨(fun j => match j with | 0 => q0 | _ => xq0 0), by rw [ht]; exact hP, hD⟩, hS.F ht⟩) hS.2.2 d_SD_new_15
-- PB
theorem d_PB_new_0 : decode b_PB_new 0 = .ok (.aload_n 0, 1) := by decide +kernel
theorem d_PB_new_1 : decode b_PB_new 1 = .ok (.invokespecial 1, 3) := by decide +kernel
theorem d_PB_new_4 : decode b_PB_new 4 = .ok (.aload_n 0, 1) := by decide +kernel
theorem d_PB_new_5 : decode b_PB_new 5 = .ok (.new 7, 3) := by decide +kernel
theorem d_PB_new_8 : decode b_PB_new 8 = .ok (.dup, 1) := by decide +kernel
theorem d_PB_new_9 : decode b_PB_new 9 = .ok (.invokespecial 9, 3) := by decide +kernel
theorem d_PB_new_12 : decode b_PB_new 12 = .ok (.putfield 10, 3) := by decide +kernel
theorem d_PB_new_15 : decode b_PB_new 15 = .ok (.aload_n 0, 1) := by decide +kernel
theorem d_PB_new_16 : decode b_PB_new 16 = .ok (.new 16, 3) := by decide +kernel
theorem d_PB_new_19 : decode b_PB_new 19 = .ok (.dup, 1) := by decide +kernel
theorem d_PB_new_20 : decode b_PB_new 20 = .ok (.invokespecial 18, 3) := by decide +kernel
theorem d_PB_new_23 : decode b_PB_new 23 = .ok (.putfield 19, 3) := by decide +kernel
theorem d_PB_new_26 : decode b_PB_new 26 = .ok (.return_, 1) := by decide +kernel
set_option maxHeartbeats 4000000 in
set_option maxRecDepth 100000 in
theorem c_PB_new (l : Launch) (D : va_G) (A : Nat → Prop) (cI cL cC : ClassId) (h0 : Nat) : Met l y_PB_new (.code y_PB_new b_PB_new 1 none :: BIG) ({ frames := 3, cells := 5, slots := 77, locals := 52 } : Room) (va_Pc [.ref h0] (nPre D A cI cL cC [(h0, .inr (0, [.null, .null]))])) (nQ D A (fun x => [(h0, .inr (0, [.ref (x 0), .ref (x 1)])), ((x 0), .inr (1, [.ref ((x 2)), .int 0, .int 0])), (((x 2)), .inl (cC, 32, .inl (fun _ => 0))), ((x 1), .inr (2, [.ref ((x 3)), .long 0, .int 0])), (((x 3)), .inr (3, [.ref (((x 4))), .int 0, .int 0])), ((((x 4))), .inl (cL, 36, .inr (.inl (fun _ => 0))))])) 5 77 A := by
  refine Met.ofW (cc := b_PB_new) (maxL := 1) (ret := none) rfl rfl ?_
  intro p e s m args below meth c s₁ B hml hv
  obtain ⟨rfl, ⟨hNB, hP, hK, hD⟩, hA⟩ := hv
  have hx := B.exec
  have hb := B.bytes
  have hr := B.returns
  have hts := atoms_spec (ws := Cond.code y_PB_new b_PB_new 1 none :: BIG) B.pre
  have hT : ∀ w ∈ BIG, w.before _ s = true := fun w h => hts w (List.mem_cons_of_mem _ h)
  have hown : s.vm.findClass R_PB = some m.cls := findClass_of_methodNamed B.named
  have hlocks := B.notSynchronized
  have hin : meth.name = "<init>" := (name_of_methodNamed B.named B.method).1
  have hS : va_S A s.heap s.heap [] := va_S.rf
  have hl := lv_entry ([.ref h0]) (n := 1) (Nat.le_of_ble_eq_true rfl)
  rw [lg_entry_eq]
  generalize (lg_sl ([.ref h0]) ++ List.replicate (1 - (lg_sl ([.ref h0])).length) Slot.unset).toArray = ls at hl ⊢
  have hl : lv_has ls 1 [(0, .ref h0)] := hl
  refine lv_aload_n hx hb d_PB_new_0 rfl (lv_at hl 0 rfl) ?_
  refine W.objInit hx hb hown (hT _ mn_16) (hT _ mn_1) (hT _ mn_2) rfl (by rw [hml]; exact hl.1) rfl d_PB_new_1 (Nat.le_of_ble_eq_true rfl) (Nat.le_of_ble_eq_true rfl) ?_
  refine W.eq (g2 := F0 m 4 ls []) rfl ?_
  refine lv_aload_n hx hb d_PB_new_4 rfl (lv_at hl 0 rfl) ?_
  refine va_new (ci := 1) (fs := [.null, .int 0, .int 0]) (C := R_Lt) (T := T_Lt) (N := 3) hx hb hT in_Lt ty_Lt tyok_Lt hown (hT _ mn_17) (hT _ mn_18) (hT _ mn_19) hK hP hD hS hA rfl df_Lt (Nat.le_of_ble_eq_true rfl) (Nat.le_of_ble_eq_true rfl) d_PB_new_5 (fun q0 H hP hD hS => ?_)
  have hP : va_P D cls [(h0, .inr (0, [.null, .null])), (q0, .inr (1, [.null, .int 0, .int 0]))] H := hP
  have hD : va_D A [(h0, .inr (0, [.null, .null])), (q0, .inr (1, [.null, .int 0, .int 0]))] := hD
  refine lv_dup hx hb d_PB_new_8 rfl ?_
  refine q_NI (D := D) (A := A) (As := []) (rest := [.ref q0, .ref h0]) (n := 0) (b := q0) hx hb hml hown hts (c_Lt_new l D A cI cL cC _ q0) rfl rfl mn_20 mn_21 mn_22 mn_19 rfl (by decide +kernel) ⟨Nat.le_of_ble_eq_true rfl, Nat.le_of_ble_eq_true rfl⟩ hNB hK hP hD hS hA rfl hl.1 rfl (Nat.le_of_ble_eq_true rfl) d_PB_new_9 ⟨Nat.le_of_ble_eq_true rfl, Nat.le_of_ble_eq_true rfl⟩ (fun xq0 H locs hP hD hS => ?_)
  have hP : va_P D cls [(h0, .inr (0, [.null, .null])), (q0, .inr (1, [.ref (xq0 0), .int 0, .int 0])), ((xq0 0), .inl (cC, 32, .inl (fun _ => 0)))] H := hP
  have hD : va_D A [(h0, .inr (0, [.null, .null])), (q0, .inr (1, [.ref (xq0 0), .int 0, .int 0])), ((xq0 0), .inl (cC, 32, .inl (fun _ => 0)))] := hD
  refine va_putF (D := D) (ci := 0) (v := .ref q0) (ty := .object "PrimitiveBits$Letters") (C := R_PB) (T := T_PB) (N := 2) hx hb hT in_PB ty_PB tyok_PB nm_PB hown hK hP hD hS 0 rfl rfl 0 (by decide) (hT _ mn_23) (fun _ h9 => h9) rfl hin rfl (by decide +kernel) rfl rfl (Nat.le_of_ble_eq_true rfl) d_PB_new_12 (fun H locs hP hD hS => ?_)
  have hP : va_P D cls [(h0, .inr (0, [.ref q0, .null])), (q0, .inr (1, [.ref (xq0 0), .int 0, .int 0])), ((xq0 0), .inl (cC, 32, .inl (fun _ => 0)))] H := hP
  have hD : va_D A [(h0, .inr (0, [.ref q0, .null])), (q0, .inr (1, [.ref (xq0 0), .int 0, .int 0])), ((xq0 0), .inl (cC, 32, .inl (fun _ => 0)))] := hD
  refine lv_aload_n hx hb d_PB_new_15 rfl (lv_at hl 0 rfl) ?_
  refine va_new (ci := 2) (fs := [.null, .long 0, .int 0]) (C := R_SD) (T := T_SD) (N := 3) hx hb hT in_SD ty_SD tyok_SD hown (hT _ mn_24) (hT _ mn_25) (hT _ mn_26) hK hP hD hS hA rfl df_SD (Nat.le_of_ble_eq_true rfl) (Nat.le_of_ble_eq_true rfl) d_PB_new_16 (fun q1 H hP hD hS => ?_)
  have hP : va_P D cls [(h0, .inr (0, [.ref q0, .null])), (q0, .inr (1, [.ref (xq0 0), .int 0, .int 0])), ((xq0 0), .inl (cC, 32, .inl (fun _ => 0))), (q1, .inr (2, [.null, .long 0, .int 0]))] H := hP
  have hD : va_D A [(h0, .inr (0, [.ref q0, .null])), (q0, .inr (1, [.ref (xq0 0), .int 0, .int 0])), ((xq0 0), .inl (cC, 32, .inl (fun _ => 0))), (q1, .inr (2, [.null, .long 0, .int 0]))] := hD
  refine lv_dup hx hb d_PB_new_19 rfl ?_
  refine q_NI (D := D) (A := A) (As := []) (rest := [.ref q1, .ref h0]) (n := 0) (b := q1) hx hb hml hown hts (c_SD_new l D A cI cL cC _ _ _ q1) rfl rfl mn_27 mn_28 mn_29 mn_26 rfl (by decide +kernel) ⟨Nat.le_of_ble_eq_true rfl, Nat.le_of_ble_eq_true rfl⟩ hNB hK hP hD hS hA rfl hl.1 rfl (Nat.le_of_ble_eq_true rfl) d_PB_new_20 ⟨Nat.le_of_ble_eq_true rfl, Nat.le_of_ble_eq_true rfl⟩ (fun xq1 H locs hP hD hS => ?_)
  have hP : va_P D cls [(h0, .inr (0, [.ref q0, .null])), (q0, .inr (1, [.ref (xq0 0), .int 0, .int 0])), ((xq0 0), .inl (cC, 32, .inl (fun _ => 0))), (q1, .inr (2, [.ref (xq1 0), .long 0, .int 0])), ((xq1 0), .inr (3, [.ref ((xq1 1)), .int 0, .int 0])), (((xq1 1)), .inl (cL, 36, .inr (.inl (fun _ => 0))))] H := hP
  have hD : va_D A [(h0, .inr (0, [.ref q0, .null])), (q0, .inr (1, [.ref (xq0 0), .int 0, .int 0])), ((xq0 0), .inl (cC, 32, .inl (fun _ => 0))), (q1, .inr (2, [.ref (xq1 0), .long 0, .int 0])), ((xq1 0), .inr (3, [.ref ((xq1 1)), .int 0, .int 0])), (((xq1 1)), .inl (cL, 36, .inr (.inl (fun _ => 0))))] := hD
  refine va_putF (D := D) (ci := 0) (v := .ref q1) (ty := .object "PrimitiveBits$ShortestDecimal") (C := R_PB) (T := T_PB) (N := 2) hx hb hT in_PB ty_PB tyok_PB nm_PB hown hK hP hD hS 0 rfl rfl 1 (by decide) (hT _ mn_30) (fun _ h9 => h9) rfl hin rfl (by decide +kernel) rfl rfl (Nat.le_of_ble_eq_true rfl) d_PB_new_23 (fun H locs hP hD hS => ?_)
  have hP : va_P D cls [(h0, .inr (0, [.ref q0, .ref q1])), (q0, .inr (1, [.ref (xq0 0), .int 0, .int 0])), ((xq0 0), .inl (cC, 32, .inl (fun _ => 0))), (q1, .inr (2, [.ref (xq1 0), .long 0, .int 0])), ((xq1 0), .inr (3, [.ref ((xq1 1)), .int 0, .int 0])), (((xq1 1)), .inl (cL, 36, .inr (.inl (fun _ => 0))))] H := hP
  have hD : va_D A [(h0, .inr (0, [.ref q0, .ref q1])), (q0, .inr (1, [.ref (xq0 0), .int 0, .int 0])), ((xq0 0), .inl (cC, 32, .inl (fun _ => 0))), (q1, .inr (2, [.ref (xq1 0), .long 0, .int 0])), ((xq1 0), .inr (3, [.ref ((xq1 1)), .int 0, .int 0])), (((xq1 1)), .inl (cL, 36, .inr (.inl (fun _ => 0))))] := hD
  exact W.vret hx hb hr (fun t ht _ => ⟨rfl, ⟨(fun j => match j with | 0 => q0 | 1 => q1 | 2 => xq0 0 | 3 => xq1 0 | _ => xq1 1), by rw [ht]; exact hP, hD⟩, hS.F ht⟩) hS.2.2 d_PB_new_26
-- Rs
theorem d_Rs_new_0 : decode b_Rs_new 0 = .ok (.aload_n 0, 1) := by decide +kernel
theorem d_Rs_new_1 : decode b_Rs_new 1 = .ok (.invokespecial 1, 3) := by decide +kernel
theorem d_Rs_new_4 : decode b_Rs_new 4 = .ok (.aload_n 0, 1) := by decide +kernel
theorem d_Rs_new_5 : decode b_Rs_new 5 = .ok (.sipush 1200, 3) := by decide +kernel
theorem d_Rs_new_8 : decode b_Rs_new 8 = .ok (.newarray .int, 2) := by decide +kernel
theorem d_Rs_new_10 : decode b_Rs_new 10 = .ok (.putfield 7, 3) := by decide +kernel
theorem d_Rs_new_13 : decode b_Rs_new 13 = .ok (.aload_n 0, 1) := by decide +kernel
theorem d_Rs_new_14 : decode b_Rs_new 14 = .ok (.bipush 40, 2) := by decide +kernel
theorem d_Rs_new_16 : decode b_Rs_new 16 = .ok (.newarray .int, 2) := by decide +kernel
theorem d_Rs_new_18 : decode b_Rs_new 18 = .ok (.putfield 13, 3) := by decide +kernel
theorem d_Rs_new_21 : decode b_Rs_new 21 = .ok (.aload_n 0, 1) := by decide +kernel
theorem d_Rs_new_22 : decode b_Rs_new 22 = .ok (.sipush 520, 3) := by decide +kernel
theorem d_Rs_new_25 : decode b_Rs_new 25 = .ok (.newarray .int, 2) := by decide +kernel
theorem d_Rs_new_27 : decode b_Rs_new 27 = .ok (.putfield 16, 3) := by decide +kernel
theorem d_Rs_new_30 : decode b_Rs_new 30 = .ok (.aload_n 0, 1) := by decide +kernel
theorem d_Rs_new_31 : decode b_Rs_new 31 = .ok (.sipush 520, 3) := by decide +kernel
theorem d_Rs_new_34 : decode b_Rs_new 34 = .ok (.newarray .int, 2) := by decide +kernel
theorem d_Rs_new_36 : decode b_Rs_new 36 = .ok (.putfield 19, 3) := by decide +kernel
theorem d_Rs_new_39 : decode b_Rs_new 39 = .ok (.aload_n 0, 1) := by decide +kernel
theorem d_Rs_new_40 : decode b_Rs_new 40 = .ok (.sipush 520, 3) := by decide +kernel
theorem d_Rs_new_43 : decode b_Rs_new 43 = .ok (.newarray .int, 2) := by decide +kernel
theorem d_Rs_new_45 : decode b_Rs_new 45 = .ok (.putfield 22, 3) := by decide +kernel
theorem d_Rs_new_48 : decode b_Rs_new 48 = .ok (.aload_n 0, 1) := by decide +kernel
theorem d_Rs_new_49 : decode b_Rs_new 49 = .ok (.sipush 520, 3) := by decide +kernel
theorem d_Rs_new_52 : decode b_Rs_new 52 = .ok (.newarray .int, 2) := by decide +kernel
theorem d_Rs_new_54 : decode b_Rs_new 54 = .ok (.putfield 25, 3) := by decide +kernel
theorem d_Rs_new_57 : decode b_Rs_new 57 = .ok (.aload_n 0, 1) := by decide +kernel
theorem d_Rs_new_58 : decode b_Rs_new 58 = .ok (.sipush 520, 3) := by decide +kernel
theorem d_Rs_new_61 : decode b_Rs_new 61 = .ok (.newarray .int, 2) := by decide +kernel
theorem d_Rs_new_63 : decode b_Rs_new 63 = .ok (.putfield 28, 3) := by decide +kernel
theorem d_Rs_new_66 : decode b_Rs_new 66 = .ok (.aload_n 0, 1) := by decide +kernel
theorem d_Rs_new_67 : decode b_Rs_new 67 = .ok (.sipush 520, 3) := by decide +kernel
theorem d_Rs_new_70 : decode b_Rs_new 70 = .ok (.newarray .int, 2) := by decide +kernel
theorem d_Rs_new_72 : decode b_Rs_new 72 = .ok (.putfield 31, 3) := by decide +kernel
theorem d_Rs_new_75 : decode b_Rs_new 75 = .ok (.return_, 1) := by decide +kernel
set_option maxHeartbeats 4000000 in
set_option maxRecDepth 100000 in
theorem c_Rs_new (l : Launch) (D : va_G) (A : Nat → Prop) (cI cL cC : ClassId) (c0 : Nat × va_E) (c1 : Nat × va_E) (c2 : Nat × va_E) (c3 : Nat × va_E) (c4 : Nat × va_E) (c5 : Nat × va_E) (c6 : Nat × va_E) (h0 : Nat) : Met l y_Rs_new (.code y_Rs_new b_Rs_new 1 none :: BIG) ({ frames := 1, cells := 8, slots := 4360, locals := 12 } : Room) (va_Pc [.ref h0] (nPre D A cI cL cC [c0, c1, c2, c3, c4, c5, c6, (h0, .inr (5, [.null, .null, .int 0, .int 0, .int 0, .int 0, .int 0, .int 0, .int 0, .null, .null, .null, .null, .null, .null, .int 0, .int 0, .int 0, .int 0, .int 0, .int 0, .int 0, .int 0, .int 0, .int 0, .int 0]))])) (nQ D A (fun x => [c0, c1, c2, c3, c4, c5, c6, (h0, .inr (5, [.ref (x 0), .ref (x 1), .int 0, .int 0, .int 0, .int 0, .int 0, .int 0, .int 0, .ref (x 2), .ref (x 3), .ref (x 4), .ref (x 5), .ref (x 6), .ref (x 7), .int 0, .int 0, .int 0, .int 0, .int 0, .int 0, .int 0, .int 0, .int 0, .int 0, .int 0])), ((x 0), .inl (cI, 1200, .inl (fun _ => 0))), ((x 1), .inl (cI, 40, .inl (fun _ => 0))), ((x 2), .inl (cI, 520, .inl (fun _ => 0))), ((x 3), .inl (cI, 520, .inl (fun _ => 0))), ((x 4), .inl (cI, 520, .inl (fun _ => 0))), ((x 5), .inl (cI, 520, .inl (fun _ => 0))), ((x 6), .inl (cI, 520, .inl (fun _ => 0))), ((x 7), .inl (cI, 520, .inl (fun _ => 0)))])) 8 4360 A := by
  refine Met.ofW (cc := b_Rs_new) (maxL := 1) (ret := none) rfl rfl ?_
  intro p e s m args below meth c s₁ B hml hv
  obtain ⟨rfl, ⟨hNB, hP, hK, hD⟩, hA⟩ := hv
  have hx := B.exec
  have hb := B.bytes
  have hr := B.returns
  have hts := atoms_spec (ws := Cond.code y_Rs_new b_Rs_new 1 none :: BIG) B.pre
  have hT : ∀ w ∈ BIG, w.before _ s = true := fun w h => hts w (List.mem_cons_of_mem _ h)
  have hown : s.vm.findClass R_Rs = some m.cls := findClass_of_methodNamed B.named
  have hlocks := B.notSynchronized
  have hin : meth.name = "<init>" := (name_of_methodNamed B.named B.method).1
  have hS : va_S A s.heap s.heap [] := va_S.rf
  have hl := lv_entry ([.ref h0]) (n := 1) (Nat.le_of_ble_eq_true rfl)
  rw [lg_entry_eq]
  generalize (lg_sl ([.ref h0]) ++ List.replicate (1 - (lg_sl ([.ref h0])).length) Slot.unset).toArray = ls at hl ⊢
  have hl : lv_has ls 1 [(0, .ref h0)] := hl
  refine lv_aload_n hx hb d_Rs_new_0 rfl (lv_at hl 0 rfl) ?_
  refine W.objInit hx hb hown (hT _ mn_31) (hT _ mn_1) (hT _ mn_2) rfl (by rw [hml]; exact hl.1) rfl d_Rs_new_1 (Nat.le_of_ble_eq_true rfl) (Nat.le_of_ble_eq_true rfl) ?_
  refine W.eq (g2 := F0 m 4 ls []) rfl ?_
  refine lv_aload_n hx hb d_Rs_new_4 rfl (lv_at hl 0 rfl) ?_
  refine lv_sipush hx hb d_Rs_new_5 (show (Int16.ofInt 1200).toInt32 = (1200 : Int32) by decide) ?_
  refine q_newI (N := 1200) hx hb (hT _ mn_32) hK hP hD hS hA (by decide) (by decide) (by decide) (Nat.le_of_ble_eq_true rfl) (Nat.le_of_ble_eq_true rfl) d_Rs_new_8 (fun q0 H hP hD hS => ?_)
  have hP : va_P D cls [c0, c1, c2, c3, c4, c5, c6, (h0, .inr (5, [.null, .null, .int 0, .int 0, .int 0, .int 0, .int 0, .int 0, .int 0, .null, .null, .null, .null, .null, .null, .int 0, .int 0, .int 0, .int 0, .int 0, .int 0, .int 0, .int 0, .int 0, .int 0, .int 0])), (q0, .inl (cI, 1200, .inl (fun _ => 0)))] H := hP
  have hD : va_D A [c0, c1, c2, c3, c4, c5, c6, (h0, .inr (5, [.null, .null, .int 0, .int 0, .int 0, .int 0, .int 0, .int 0, .int 0, .null, .null, .null, .null, .null, .null, .int 0, .int 0, .int 0, .int 0, .int 0, .int 0, .int 0, .int 0, .int 0, .int 0, .int 0])), (q0, .inl (cI, 1200, .inl (fun _ => 0)))] := hD
  refine va_putF (D := D) (ci := 5) (v := .ref q0) (ty := .array .int) (C := R_Rs) (T := T_Rs) (N := 26) hx hb hT in_Rs ty_Rs tyok_Rs nm_Rs hown hK hP hD hS 7 rfl rfl 0 (by decide) (hT _ mn_33) (fun _ h9 => h9) rfl hin rfl (by decide +kernel) rfl rfl (Nat.le_of_ble_eq_true rfl) d_Rs_new_10 (fun H locs hP hD hS => ?_)
  have hP : va_P D cls [c0, c1, c2, c3, c4, c5, c6, (h0, .inr (5, [.ref q0, .null, .int 0, .int 0, .int 0, .int 0, .int 0, .int 0, .int 0, .null, .null, .null, .null, .null, .null, .int 0, .int 0, .int 0, .int 0, .int 0, .int 0, .int 0, .int 0, .int 0, .int 0, .int 0])), (q0, .inl (cI, 1200, .inl (fun _ => 0)))] H := hP
  have hD : va_D A [c0, c1, c2, c3, c4, c5, c6, (h0, .inr (5, [.ref q0, .null, .int 0, .int 0, .int 0, .int 0, .int 0, .int 0, .int 0, .null, .null, .null, .null, .null, .null, .int 0, .int 0, .int 0, .int 0, .int 0, .int 0, .int 0, .int 0, .int 0, .int 0, .int 0])), (q0, .inl (cI, 1200, .inl (fun _ => 0)))] := hD
  refine lv_aload_n hx hb d_Rs_new_13 rfl (lv_at hl 0 rfl) ?_
  refine lv_bipush hx hb d_Rs_new_14 (show (Int8.ofInt 40).toInt32 = (40 : Int32) by decide) ?_
  refine q_newI (N := 40) hx hb (hT _ mn_32) hK hP hD hS hA (by decide) (by decide) (by decide) (Nat.le_of_ble_eq_true rfl) (Nat.le_of_ble_eq_true rfl) d_Rs_new_16 (fun q1 H hP hD hS => ?_)
  have hP : va_P D cls [c0, c1, c2, c3, c4, c5, c6, (h0, .inr (5, [.ref q0, .null, .int 0, .int 0, .int 0, .int 0, .int 0, .int 0, .int 0, .null, .null, .null, .null, .null, .null, .int 0, .int 0, .int 0, .int 0, .int 0, .int 0, .int 0, .int 0, .int 0, .int 0, .int 0])), (q0, .inl (cI, 1200, .inl (fun _ => 0))), (q1, .inl (cI, 40, .inl (fun _ => 0)))] H := hP
  have hD : va_D A [c0, c1, c2, c3, c4, c5, c6, (h0, .inr (5, [.ref q0, .null, .int 0, .int 0, .int 0, .int 0, .int 0, .int 0, .int 0, .null, .null, .null, .null, .null, .null, .int 0, .int 0, .int 0, .int 0, .int 0, .int 0, .int 0, .int 0, .int 0, .int 0, .int 0])), (q0, .inl (cI, 1200, .inl (fun _ => 0))), (q1, .inl (cI, 40, .inl (fun _ => 0)))] := hD
  refine va_putF (D := D) (ci := 5) (v := .ref q1) (ty := .array .int) (C := R_Rs) (T := T_Rs) (N := 26) hx hb hT in_Rs ty_Rs tyok_Rs nm_Rs hown hK hP hD hS 7 rfl rfl 1 (by decide) (hT _ mn_34) (fun _ h9 => h9) rfl hin rfl (by decide +kernel) rfl rfl (Nat.le_of_ble_eq_true rfl) d_Rs_new_18 (fun H locs hP hD hS => ?_)
  have hP : va_P D cls [c0, c1, c2, c3, c4, c5, c6, (h0, .inr (5, [.ref q0, .ref q1, .int 0, .int 0, .int 0, .int 0, .int 0, .int 0, .int 0, .null, .null, .null, .null, .null, .null, .int 0, .int 0, .int 0, .int 0, .int 0, .int 0, .int 0, .int 0, .int 0, .int 0, .int 0])), (q0, .inl (cI, 1200, .inl (fun _ => 0))), (q1, .inl (cI, 40, .inl (fun _ => 0)))] H := hP
  have hD : va_D A [c0, c1, c2, c3, c4, c5, c6, (h0, .inr (5, [.ref q0, .ref q1, .int 0, .int 0, .int 0, .int 0, .int 0, .int 0, .int 0, .null, .null, .null, .null, .null, .null, .int 0, .int 0, .int 0, .int 0, .int 0, .int 0, .int 0, .int 0, .int 0, .int 0, .int 0])), (q0, .inl (cI, 1200, .inl (fun _ => 0))), (q1, .inl (cI, 40, .inl (fun _ => 0)))] := hD
  refine lv_aload_n hx hb d_Rs_new_21 rfl (lv_at hl 0 rfl) ?_
  refine lv_sipush hx hb d_Rs_new_22 (show (Int16.ofInt 520).toInt32 = (520 : Int32) by decide) ?_
  refine q_newI (N := 520) hx hb (hT _ mn_32) hK hP hD hS hA (by decide) (by decide) (by decide) (Nat.le_of_ble_eq_true rfl) (Nat.le_of_ble_eq_true rfl) d_Rs_new_25 (fun q2 H hP hD hS => ?_)
  have hP : va_P D cls [c0, c1, c2, c3, c4, c5, c6, (h0, .inr (5, [.ref q0, .ref q1, .int 0, .int 0, .int 0, .int 0, .int 0, .int 0, .int 0, .null, .null, .null, .null, .null, .null, .int 0, .int 0, .int 0, .int 0, .int 0, .int 0, .int 0, .int 0, .int 0, .int 0, .int 0])), (q0, .inl (cI, 1200, .inl (fun _ => 0))), (q1, .inl (cI, 40, .inl (fun _ => 0))), (q2, .inl (cI, 520, .inl (fun _ => 0)))] H := hP
  have hD : va_D A [c0, c1, c2, c3, c4, c5, c6, (h0, .inr (5, [.ref q0, .ref q1, .int 0, .int 0, .int 0, .int 0, .int 0, .int 0, .int 0, .null, .null, .null, .null, .null, .null, .int 0, .int 0, .int 0, .int 0, .int 0, .int 0, .int 0, .int 0, .int 0, .int 0, .int 0])), (q0, .inl (cI, 1200, .inl (fun _ => 0))), (q1, .inl (cI, 40, .inl (fun _ => 0))), (q2, .inl (cI, 520, .inl (fun _ => 0)))] := hD
  refine va_putF (D := D) (ci := 5) (v := .ref q2) (ty := .array .int) (C := R_Rs) (T := T_Rs) (N := 26) hx hb hT in_Rs ty_Rs tyok_Rs nm_Rs hown hK hP hD hS 7 rfl rfl 9 (by decide) (hT _ mn_35) (fun _ h9 => h9) rfl hin rfl (by decide +kernel) rfl rfl (Nat.le_of_ble_eq_true rfl) d_Rs_new_27 (fun H locs hP hD hS => ?_)
  have hP : va_P D cls [c0, c1, c2, c3, c4, c5, c6, (h0, .inr (5, [.ref q0, .ref q1, .int 0, .int 0, .int 0, .int 0, .int 0, .int 0, .int 0, .ref q2, .null, .null, .null, .null, .null, .int 0, .int 0, .int 0, .int 0, .int 0, .int 0, .int 0, .int 0, .int 0, .int 0, .int 0])), (q0, .inl (cI, 1200, .inl (fun _ => 0))), (q1, .inl (cI, 40, .inl (fun _ => 0))), (q2, .inl (cI, 520, .inl (fun _ => 0)))] H := hP
  have hD : va_D A [c0, c1, c2, c3, c4, c5, c6, (h0, .inr (5, [.ref q0, .ref q1, .int 0, .int 0, .int 0, .int 0, .int 0, .int 0, .int 0, .ref q2, .null, .null, .null, .null, .null, .int 0, .int 0, .int 0, .int 0, .int 0, .int 0, .int 0, .int 0, .int 0, .int 0, .int 0])), (q0, .inl (cI, 1200, .inl (fun _ => 0))), (q1, .inl (cI, 40, .inl (fun _ => 0))), (q2, .inl (cI, 520, .inl (fun _ => 0)))] := hD
  refine lv_aload_n hx hb d_Rs_new_30 rfl (lv_at hl 0 rfl) ?_
  refine lv_sipush hx hb d_Rs_new_31 (show (Int16.ofInt 520).toInt32 = (520 : Int32) by decide) ?_
  refine q_newI (N := 520) hx hb (hT _ mn_32) hK hP hD hS hA (by decide) (by decide) (by decide) (Nat.le_of_ble_eq_true rfl) (Nat.le_of_ble_eq_true rfl) d_Rs_new_34 (fun q3 H hP hD hS => ?_)
  have hP : va_P D cls [c0, c1, c2, c3, c4, c5, c6, (h0, .inr (5, [.ref q0, .ref q1, .int 0, .int 0, .int 0, .int 0, .int 0, .int 0, .int 0, .ref q2, .null, .null, .null, .null, .null, .int 0, .int 0, .int 0, .int 0, .int 0, .int 0, .int 0, .int 0, .int 0, .int 0, .int 0])), (q0, .inl (cI, 1200, .inl (fun _ => 0))), (q1, .inl (cI, 40, .inl (fun _ => 0))), (q2, .inl (cI, 520, .inl (fun _ => 0))), (q3, .inl (cI, 520, .inl (fun _ => 0)))] H := hP
  have hD : va_D A [c0, c1, c2, c3, c4, c5, c6, (h0, .inr (5, [.ref q0, .ref q1, .int 0, .int 0, .int 0, .int 0, .int 0, .int 0, .int 0, .ref q2, .null, .null, .null, .null, .null, .int 0, .int 0, .int 0, .int 0, .int 0, .int 0, .int 0, .int 0, .int 0, .int 0, .int 0])), (q0, .inl (cI, 1200, .inl (fun _ => 0))), (q1, .inl (cI, 40, .inl (fun _ => 0))), (q2, .inl (cI, 520, .inl (fun _ => 0))), (q3, .inl (cI, 520, .inl (fun _ => 0)))] := hD
  refine va_putF (D := D) (ci := 5) (v := .ref q3) (ty := .array .int) (C := R_Rs) (T := T_Rs) (N := 26) hx hb hT in_Rs ty_Rs tyok_Rs nm_Rs hown hK hP hD hS 7 rfl rfl 10 (by decide) (hT _ mn_36) (fun _ h9 => h9) rfl hin rfl (by decide +kernel) rfl rfl (Nat.le_of_ble_eq_true rfl) d_Rs_new_36 (fun H locs hP hD hS => ?_)
  have hP : va_P D cls [c0, c1, c2, c3, c4, c5, c6, (h0, .inr (5, [.ref q0, .ref q1, .int 0, .int 0, .int 0, .int 0, .int 0, .int 0, .int 0, .ref q2, .ref q3, .null, .null, .null, .null, .int 0, .int 0, .int 0, .int 0, .int 0, .int 0, .int 0, .int 0, .int 0, .int 0, .int 0])), (q0, .inl (cI, 1200, .inl (fun _ => 0))), (q1, .inl (cI, 40, .inl (fun _ => 0))), (q2, .inl (cI, 520, .inl (fun _ => 0))), (q3, .inl (cI, 520, .inl (fun _ => 0)))] H := hP
  have hD : va_D A [c0, c1, c2, c3, c4, c5, c6, (h0, .inr (5, [.ref q0, .ref q1, .int 0, .int 0, .int 0, .int 0, .int 0, .int 0, .int 0, .ref q2, .ref q3, .null, .null, .null, .null, .int 0, .int 0, .int 0, .int 0, .int 0, .int 0, .int 0, .int 0, .int 0, .int 0, .int 0])), (q0, .inl (cI, 1200, .inl (fun _ => 0))), (q1, .inl (cI, 40, .inl (fun _ => 0))), (q2, .inl (cI, 520, .inl (fun _ => 0))), (q3, .inl (cI, 520, .inl (fun _ => 0)))] := hD
  refine lv_aload_n hx hb d_Rs_new_39 rfl (lv_at hl 0 rfl) ?_
  refine lv_sipush hx hb d_Rs_new_40 (show (Int16.ofInt 520).toInt32 = (520 : Int32) by decide) ?_
  refine q_newI (N := 520) hx hb (hT _ mn_32) hK hP hD hS hA (by decide) (by decide) (by decide) (Nat.le_of_ble_eq_true rfl) (Nat.le_of_ble_eq_true rfl) d_Rs_new_43 (fun q4 H hP hD hS => ?_)
  have hP : va_P D cls [c0, c1, c2, c3, c4, c5, c6, (h0, .inr (5, [.ref q0, .ref q1, .int 0, .int 0, .int 0, .int 0, .int 0, .int 0, .int 0, .ref q2, .ref q3, .null, .null, .null, .null, .int 0, .int 0, .int 0, .int 0, .int 0, .int 0, .int 0, .int 0, .int 0, .int 0, .int 0])), (q0, .inl (cI, 1200, .inl (fun _ => 0))), (q1, .inl (cI, 40, .inl (fun _ => 0))), (q2, .inl (cI, 520, .inl (fun _ => 0))), (q3, .inl (cI, 520, .inl (fun _ => 0))), (q4, .inl (cI, 520, .inl (fun _ => 0)))] H := hP
  have hD : va_D A [c0, c1, c2, c3, c4, c5, c6, (h0, .inr (5, [.ref q0, .ref q1, .int 0, .int 0, .int 0, .int 0, .int 0, .int 0, .int 0, .ref q2, .ref q3, .null, .null, .null, .null, .int 0, .int 0, .int 0, .int 0, .int 0, .int 0, .int 0, .int 0, .int 0, .int 0, .int 0])), (q0, .inl (cI, 1200, .inl (fun _ => 0))), (q1, .inl (cI, 40, .inl (fun _ => 0))), (q2, .inl (cI, 520, .inl (fun _ => 0))), (q3, .inl (cI, 520, .inl (fun _ => 0))), (q4, .inl (cI, 520, .inl (fun _ => 0)))] := hD
  refine va_putF (D := D) (ci := 5) (v := .ref q4) (ty := .array .int) (C := R_Rs) (T := T_Rs) (N := 26) hx hb hT in_Rs ty_Rs tyok_Rs nm_Rs hown hK hP hD hS 7 rfl rfl 11 (by decide) (hT _ mn_37) (fun _ h9 => h9) rfl hin rfl (by decide +kernel) rfl rfl (Nat.le_of_ble_eq_true rfl) d_Rs_new_45 (fun H locs hP hD hS => ?_)
  have hP : va_P D cls [c0, c1, c2, c3, c4, c5, c6, (h0, .inr (5, [.ref q0, .ref q1, .int 0, .int 0, .int 0, .int 0, .int 0, .int 0, .int 0, .ref q2, .ref q3, .ref q4, .null, .null, .null, .int 0, .int 0, .int 0, .int 0, .int 0, .int 0, .int 0, .int 0, .int 0, .int 0, .int 0])), (q0, .inl (cI, 1200, .inl (fun _ => 0))), (q1, .inl (cI, 40, .inl (fun _ => 0))), (q2, .inl (cI, 520, .inl (fun _ => 0))), (q3, .inl (cI, 520, .inl (fun _ => 0))), (q4, .inl (cI, 520, .inl (fun _ => 0)))] H := hP
  have hD : va_D A [c0, c1, c2, c3, c4, c5, c6, (h0, .inr (5, [.ref q0, .ref q1, .int 0, .int 0, .int 0, .int 0, .int 0, .int 0, .int 0, .ref q2, .ref q3, .ref q4, .null, .null, .null, .int 0, .int 0, .int 0, .int 0, .int 0, .int 0, .int 0, .int 0, .int 0, .int 0, .int 0])), (q0, .inl (cI, 1200, .inl (fun _ => 0))), (q1, .inl (cI, 40, .inl (fun _ => 0))), (q2, .inl (cI, 520, .inl (fun _ => 0))), (q3, .inl (cI, 520, .inl (fun _ => 0))), (q4, .inl (cI, 520, .inl (fun _ => 0)))] := hD
  refine lv_aload_n hx hb d_Rs_new_48 rfl (lv_at hl 0 rfl) ?_
  refine lv_sipush hx hb d_Rs_new_49 (show (Int16.ofInt 520).toInt32 = (520 : Int32) by decide) ?_
  refine q_newI (N := 520) hx hb (hT _ mn_32) hK hP hD hS hA (by decide) (by decide) (by decide) (Nat.le_of_ble_eq_true rfl) (Nat.le_of_ble_eq_true rfl) d_Rs_new_52 (fun q5 H hP hD hS => ?_)
  have hP : va_P D cls [c0, c1, c2, c3, c4, c5, c6, (h0, .inr (5, [.ref q0, .ref q1, .int 0, .int 0, .int 0, .int 0, .int 0, .int 0, .int 0, .ref q2, .ref q3, .ref q4, .null, .null, .null, .int 0, .int 0, .int 0, .int 0, .int 0, .int 0, .int 0, .int 0, .int 0, .int 0, .int 0])), (q0, .inl (cI, 1200, .inl (fun _ => 0))), (q1, .inl (cI, 40, .inl (fun _ => 0))), (q2, .inl (cI, 520, .inl (fun _ => 0))), (q3, .inl (cI, 520, .inl (fun _ => 0))), (q4, .inl (cI, 520, .inl (fun _ => 0))), (q5, .inl (cI, 520, .inl (fun _ => 0)))] H := hP
  have hD : va_D A [c0, c1, c2, c3, c4, c5, c6, (h0, .inr (5, [.ref q0, .ref q1, .int 0, .int 0, .int 0, .int 0, .int 0, .int 0, .int 0, .ref q2, .ref q3, .ref q4, .null, .null, .null, .int 0, .int 0, .int 0, .int 0, .int 0, .int 0, .int 0, .int 0, .int 0, .int 0, .int 0])), (q0, .inl (cI, 1200, .inl (fun _ => 0))), (q1, .inl (cI, 40, .inl (fun _ => 0))), (q2, .inl (cI, 520, .inl (fun _ => 0))), (q3, .inl (cI, 520, .inl (fun _ => 0))), (q4, .inl (cI, 520, .inl (fun _ => 0))), (q5, .inl (cI, 520, .inl (fun _ => 0)))] := hD
  refine va_putF (D := D) (ci := 5) (v := .ref q5) (ty := .array .int) (C := R_Rs) (T := T_Rs) (N := 26) hx hb hT in_Rs ty_Rs tyok_Rs nm_Rs hown hK hP hD hS 7 rfl rfl 12 (by decide) (hT _ mn_38) (fun _ h9 => h9) rfl hin rfl (by decide +kernel) rfl rfl (Nat.le_of_ble_eq_true rfl) d_Rs_new_54 (fun H locs hP hD hS => ?_)
  have hP : va_P D cls [c0, c1, c2, c3, c4, c5, c6, (h0, .inr (5, [.ref q0, .ref q1, .int 0, .int 0, .int 0, .int 0, .int 0, .int 0, .int 0, .ref q2, .ref q3, .ref q4, .ref q5, .null, .null, .int 0, .int 0, .int 0, .int 0, .int 0, .int 0, .int 0, .int 0, .int 0, .int 0, .int 0])), (q0, .inl (cI, 1200, .inl (fun _ => 0))), (q1, .inl (cI, 40, .inl (fun _ => 0))), (q2, .inl (cI, 520, .inl (fun _ => 0))), (q3, .inl (cI, 520, .inl (fun _ => 0))), (q4, .inl (cI, 520, .inl (fun _ => 0))), (q5, .inl (cI, 520, .inl (fun _ => 0)))] H := hP
  have hD : va_D A [c0, c1, c2, c3, c4, c5, c6, (h0, .inr (5, [.ref q0, .ref q1, .int 0, .int 0, .int 0, .int 0, .int 0, .int 0, .int 0, .ref q2, .ref q3, .ref q4, .ref q5, .null, .null, .int 0, .int 0, .int 0, .int 0, .int 0, .int 0, .int 0, .int 0, .int 0, .int 0, .int 0])), (q0, .inl (cI, 1200, .inl (fun _ => 0))), (q1, .inl (cI, 40, .inl (fun _ => 0))), (q2, .inl (cI, 520, .inl (fun _ => 0))), (q3, .inl (cI, 520, .inl (fun _ => 0))), (q4, .inl (cI, 520, .inl (fun _ => 0))), (q5, .inl (cI, 520, .inl (fun _ => 0)))] := hD
  refine lv_aload_n hx hb d_Rs_new_57 rfl (lv_at hl 0 rfl) ?_
  refine lv_sipush hx hb d_Rs_new_58 (show (Int16.ofInt 520).toInt32 = (520 : Int32) by decide) ?_
  refine q_newI (N := 520) hx hb (hT _ mn_32) hK hP hD hS hA (by decide) (by decide) (by decide) (Nat.le_of_ble_eq_true rfl) (Nat.le_of_ble_eq_true rfl) d_Rs_new_61 (fun q6 H hP hD hS => ?_)
  have hP : va_P D cls [c0, c1, c2, c3, c4, c5, c6, (h0, .inr (5, [.ref q0, .ref q1, .int 0, .int 0, .int 0, .int 0, .int 0, .int 0, .int 0, .ref q2, .ref q3, .ref q4, .ref q5, .null, .null, .int 0, .int 0, .int 0, .int 0, .int 0, .int 0, .int 0, .int 0, .int 0, .int 0, .int 0])), (q0, .inl (cI, 1200, .inl (fun _ => 0))), (q1, .inl (cI, 40, .inl (fun _ => 0))), (q2, .inl (cI, 520, .inl (fun _ => 0))), (q3, .inl (cI, 520, .inl (fun _ => 0))), (q4, .inl (cI, 520, .inl (fun _ => 0))), (q5, .inl (cI, 520, .inl (fun _ => 0))), (q6, .inl (cI, 520, .inl (fun _ => 0)))] H := hP
  have hD : va_D A [c0, c1, c2, c3, c4, c5, c6, (h0, .inr (5, [.ref q0, .ref q1, .int 0, .int 0, .int 0, .int 0, .int 0, .int 0, .int 0, .ref q2, .ref q3, .ref q4, .ref q5, .null, .null, .int 0, .int 0, .int 0, .int 0, .int 0, .int 0, .int 0, .int 0, .int 0, .int 0, .int 0])), (q0, .inl (cI, 1200, .inl (fun _ => 0))), (q1, .inl (cI, 40, .inl (fun _ => 0))), (q2, .inl (cI, 520, .inl (fun _ => 0))), (q3, .inl (cI, 520, .inl (fun _ => 0))), (q4, .inl (cI, 520, .inl (fun _ => 0))), (q5, .inl (cI, 520, .inl (fun _ => 0))), (q6, .inl (cI, 520, .inl (fun _ => 0)))] := hD
  refine va_putF (D := D) (ci := 5) (v := .ref q6) (ty := .array .int) (C := R_Rs) (T := T_Rs) (N := 26) hx hb hT in_Rs ty_Rs tyok_Rs nm_Rs hown hK hP hD hS 7 rfl rfl 13 (by decide) (hT _ mn_39) (fun _ h9 => h9) rfl hin rfl (by decide +kernel) rfl rfl (Nat.le_of_ble_eq_true rfl) d_Rs_new_63 (fun H locs hP hD hS => ?_)
  have hP : va_P D cls [c0, c1, c2, c3, c4, c5, c6, (h0, .inr (5, [.ref q0, .ref q1, .int 0, .int 0, .int 0, .int 0, .int 0, .int 0, .int 0, .ref q2, .ref q3, .ref q4, .ref q5, .ref q6, .null, .int 0, .int 0, .int 0, .int 0, .int 0, .int 0, .int 0, .int 0, .int 0, .int 0, .int 0])), (q0, .inl (cI, 1200, .inl (fun _ => 0))), (q1, .inl (cI, 40, .inl (fun _ => 0))), (q2, .inl (cI, 520, .inl (fun _ => 0))), (q3, .inl (cI, 520, .inl (fun _ => 0))), (q4, .inl (cI, 520, .inl (fun _ => 0))), (q5, .inl (cI, 520, .inl (fun _ => 0))), (q6, .inl (cI, 520, .inl (fun _ => 0)))] H := hP
  have hD : va_D A [c0, c1, c2, c3, c4, c5, c6, (h0, .inr (5, [.ref q0, .ref q1, .int 0, .int 0, .int 0, .int 0, .int 0, .int 0, .int 0, .ref q2, .ref q3, .ref q4, .ref q5, .ref q6, .null, .int 0, .int 0, .int 0, .int 0, .int 0, .int 0, .int 0, .int 0, .int 0, .int 0, .int 0])), (q0, .inl (cI, 1200, .inl (fun _ => 0))), (q1, .inl (cI, 40, .inl (fun _ => 0))), (q2, .inl (cI, 520, .inl (fun _ => 0))), (q3, .inl (cI, 520, .inl (fun _ => 0))), (q4, .inl (cI, 520, .inl (fun _ => 0))), (q5, .inl (cI, 520, .inl (fun _ => 0))), (q6, .inl (cI, 520, .inl (fun _ => 0)))] := hD
  refine lv_aload_n hx hb d_Rs_new_66 rfl (lv_at hl 0 rfl) ?_
  refine lv_sipush hx hb d_Rs_new_67 (show (Int16.ofInt 520).toInt32 = (520 : Int32) by decide) ?_
  refine q_newI (N := 520) hx hb (hT _ mn_32) hK hP hD hS hA (by decide) (by decide) (by decide) (Nat.le_of_ble_eq_true rfl) (Nat.le_of_ble_eq_true rfl) d_Rs_new_70 (fun q7 H hP hD hS => ?_)
  have hP : va_P D cls [c0, c1, c2, c3, c4, c5, c6, (h0, .inr (5, [.ref q0, .ref q1, .int 0, .int 0, .int 0, .int 0, .int 0, .int 0, .int 0, .ref q2, .ref q3, .ref q4, .ref q5, .ref q6, .null, .int 0, .int 0, .int 0, .int 0, .int 0, .int 0, .int 0, .int 0, .int 0, .int 0, .int 0])), (q0, .inl (cI, 1200, .inl (fun _ => 0))), (q1, .inl (cI, 40, .inl (fun _ => 0))), (q2, .inl (cI, 520, .inl (fun _ => 0))), (q3, .inl (cI, 520, .inl (fun _ => 0))), (q4, .inl (cI, 520, .inl (fun _ => 0))), (q5, .inl (cI, 520, .inl (fun _ => 0))), (q6, .inl (cI, 520, .inl (fun _ => 0))), (q7, .inl (cI, 520, .inl (fun _ => 0)))] H := hP
  have hD : va_D A [c0, c1, c2, c3, c4, c5, c6, (h0, .inr (5, [.ref q0, .ref q1, .int 0, .int 0, .int 0, .int 0, .int 0, .int 0, .int 0, .ref q2, .ref q3, .ref q4, .ref q5, .ref q6, .null, .int 0, .int 0, .int 0, .int 0, .int 0, .int 0, .int 0, .int 0, .int 0, .int 0, .int 0])), (q0, .inl (cI, 1200, .inl (fun _ => 0))), (q1, .inl (cI, 40, .inl (fun _ => 0))), (q2, .inl (cI, 520, .inl (fun _ => 0))), (q3, .inl (cI, 520, .inl (fun _ => 0))), (q4, .inl (cI, 520, .inl (fun _ => 0))), (q5, .inl (cI, 520, .inl (fun _ => 0))), (q6, .inl (cI, 520, .inl (fun _ => 0))), (q7, .inl (cI, 520, .inl (fun _ => 0)))] := hD
  refine va_putF (D := D) (ci := 5) (v := .ref q7) (ty := .array .int) (C := R_Rs) (T := T_Rs) (N := 26) hx hb hT in_Rs ty_Rs tyok_Rs nm_Rs hown hK hP hD hS 7 rfl rfl 14 (by decide) (hT _ mn_40) (fun _ h9 => h9) rfl hin rfl (by decide +kernel) rfl rfl (Nat.le_of_ble_eq_true rfl) d_Rs_new_72 (fun H locs hP hD hS => ?_)
  have hP : va_P D cls [c0, c1, c2, c3, c4, c5, c6, (h0, .inr (5, [.ref q0, .ref q1, .int 0, .int 0, .int 0, .int 0, .int 0, .int 0, .int 0, .ref q2, .ref q3, .ref q4, .ref q5, .ref q6, .ref q7, .int 0, .int 0, .int 0, .int 0, .int 0, .int 0, .int 0, .int 0, .int 0, .int 0, .int 0])), (q0, .inl (cI, 1200, .inl (fun _ => 0))), (q1, .inl (cI, 40, .inl (fun _ => 0))), (q2, .inl (cI, 520, .inl (fun _ => 0))), (q3, .inl (cI, 520, .inl (fun _ => 0))), (q4, .inl (cI, 520, .inl (fun _ => 0))), (q5, .inl (cI, 520, .inl (fun _ => 0))), (q6, .inl (cI, 520, .inl (fun _ => 0))), (q7, .inl (cI, 520, .inl (fun _ => 0)))] H := hP
  have hD : va_D A [c0, c1, c2, c3, c4, c5, c6, (h0, .inr (5, [.ref q0, .ref q1, .int 0, .int 0, .int 0, .int 0, .int 0, .int 0, .int 0, .ref q2, .ref q3, .ref q4, .ref q5, .ref q6, .ref q7, .int 0, .int 0, .int 0, .int 0, .int 0, .int 0, .int 0, .int 0, .int 0, .int 0, .int 0])), (q0, .inl (cI, 1200, .inl (fun _ => 0))), (q1, .inl (cI, 40, .inl (fun _ => 0))), (q2, .inl (cI, 520, .inl (fun _ => 0))), (q3, .inl (cI, 520, .inl (fun _ => 0))), (q4, .inl (cI, 520, .inl (fun _ => 0))), (q5, .inl (cI, 520, .inl (fun _ => 0))), (q6, .inl (cI, 520, .inl (fun _ => 0))), (q7, .inl (cI, 520, .inl (fun _ => 0)))] := hD
  exact W.vret hx hb hr (fun t ht _ => ⟨rfl, ⟨(fun j => match j with | 0 => q0 | 1 => q1 | 2 => q2 | 3 => q3 | 4 => q4 | 5 => q5 | 6 => q6 | _ => q7), by rw [ht]; exact hP, hD⟩, hS.F ht⟩) hS.2.2 d_Rs_new_75
-- Md
theorem d_Md_new_0 : decode b_Md_new 0 = .ok (.aload_n 0, 1) := by decide +kernel
theorem d_Md_new_1 : decode b_Md_new 1 = .ok (.invokespecial 1, 3) := by decide +kernel
theorem d_Md_new_4 : decode b_Md_new 4 = .ok (.aload_n 0, 1) := by decide +kernel
theorem d_Md_new_5 : decode b_Md_new 5 = .ok (.new 7, 3) := by decide +kernel
theorem d_Md_new_8 : decode b_Md_new 8 = .ok (.dup, 1) := by decide +kernel
theorem d_Md_new_9 : decode b_Md_new 9 = .ok (.invokespecial 9, 3) := by decide +kernel
theorem d_Md_new_12 : decode b_Md_new 12 = .ok (.putfield 10, 3) := by decide +kernel
theorem d_Md_new_15 : decode b_Md_new 15 = .ok (.aload_n 0, 1) := by decide +kernel
theorem d_Md_new_16 : decode b_Md_new 16 = .ok (.bipush 40, 2) := by decide +kernel
theorem d_Md_new_18 : decode b_Md_new 18 = .ok (.newarray .int, 2) := by decide +kernel
theorem d_Md_new_20 : decode b_Md_new 20 = .ok (.putfield 16, 3) := by decide +kernel
theorem d_Md_new_23 : decode b_Md_new 23 = .ok (.return_, 1) := by decide +kernel
set_option maxHeartbeats 4000000 in
set_option maxRecDepth 100000 in
theorem c_Md_new (l : Launch) (D : va_G) (A : Nat → Prop) (cI cL cC : ClassId) (c0 : Nat × va_E) (c1 : Nat × va_E) (c2 : Nat × va_E) (c3 : Nat × va_E) (c4 : Nat × va_E) (c5 : Nat × va_E) (h0 : Nat) : Met l y_Md_new (.code y_Md_new b_Md_new 1 none :: BIG) ({ frames := 2, cells := 10, slots := 4426, locals := 32 } : Room) (va_Pc [.ref h0] (nPre D A cI cL cC [c0, c1, c2, c3, c4, c5, (h0, .inr (4, [.null, .null, .int 0, .int 0, .int 0, .long 0, .long 0, .int 0, .int 0, .int 0, .int 0, .int 0, .int 0, .int 0, .int 0]))])) (nQ D A (fun x => [c0, c1, c2, c3, c4, c5, (h0, .inr (4, [.ref (x 0), .ref (x 1), .int 0, .int 0, .int 0, .long 0, .long 0, .int 0, .int 0, .int 0, .int 0, .int 0, .int 0, .int 0, .int 0])), ((x 0), .inr (5, [.ref ((x 2)), .ref ((x 3)), .int 0, .int 0, .int 0, .int 0, .int 0, .int 0, .int 0, .ref ((x 4)), .ref ((x 5)), .ref ((x 6)), .ref ((x 7)), .ref ((x 8)), .ref ((x 9)), .int 0, .int 0, .int 0, .int 0, .int 0, .int 0, .int 0, .int 0, .int 0, .int 0, .int 0])), (((x 2)), .inl (cI, 1200, .inl (fun _ => 0))), (((x 3)), .inl (cI, 40, .inl (fun _ => 0))), (((x 4)), .inl (cI, 520, .inl (fun _ => 0))), (((x 5)), .inl (cI, 520, .inl (fun _ => 0))), (((x 6)), .inl (cI, 520, .inl (fun _ => 0))), (((x 7)), .inl (cI, 520, .inl (fun _ => 0))), (((x 8)), .inl (cI, 520, .inl (fun _ => 0))), (((x 9)), .inl (cI, 520, .inl (fun _ => 0))), ((x 1), .inl (cI, 40, .inl (fun _ => 0)))])) 10 4426 A := by
  refine Met.ofW (cc := b_Md_new) (maxL := 1) (ret := none) rfl rfl ?_
  intro p e s m args below meth c s₁ B hml hv
  obtain ⟨rfl, ⟨hNB, hP, hK, hD⟩, hA⟩ := hv
  have hx := B.exec
  have hb := B.bytes
  have hr := B.returns
  have hts := atoms_spec (ws := Cond.code y_Md_new b_Md_new 1 none :: BIG) B.pre
  have hT : ∀ w ∈ BIG, w.before _ s = true := fun w h => hts w (List.mem_cons_of_mem _ h)
  have hown : s.vm.findClass R_Md = some m.cls := findClass_of_methodNamed B.named
  have hlocks := B.notSynchronized
  have hin : meth.name = "<init>" := (name_of_methodNamed B.named B.method).1
  have hS : va_S A s.heap s.heap [] := va_S.rf
  have hl := lv_entry ([.ref h0]) (n := 1) (Nat.le_of_ble_eq_true rfl)
  rw [lg_entry_eq]
  generalize (lg_sl ([.ref h0]) ++ List.replicate (1 - (lg_sl ([.ref h0])).length) Slot.unset).toArray = ls at hl ⊢
  have hl : lv_has ls 1 [(0, .ref h0)] := hl
  refine lv_aload_n hx hb d_Md_new_0 rfl (lv_at hl 0 rfl) ?_
  refine W.objInit hx hb hown (hT _ mn_41) (hT _ mn_1) (hT _ mn_2) rfl (by rw [hml]; exact hl.1) rfl d_Md_new_1 (Nat.le_of_ble_eq_true rfl) (Nat.le_of_ble_eq_true rfl) ?_
  refine W.eq (g2 := F0 m 4 ls []) rfl ?_
  refine lv_aload_n hx hb d_Md_new_4 rfl (lv_at hl 0 rfl) ?_
  refine va_new (ci := 5) (fs := [.null, .null, .int 0, .int 0, .int 0, .int 0, .int 0, .int 0, .int 0, .null, .null, .null, .null, .null, .null, .int 0, .int 0, .int 0, .int 0, .int 0, .int 0, .int 0, .int 0, .int 0, .int 0, .int 0]) (C := R_Rs) (T := T_Rs) (N := 26) hx hb hT in_Rs ty_Rs tyok_Rs hown (hT _ mn_42) (hT _ mn_43) (hT _ mn_44) hK hP hD hS hA rfl df_Rs (Nat.le_of_ble_eq_true rfl) (Nat.le_of_ble_eq_true rfl) d_Md_new_5 (fun q0 H hP hD hS => ?_)
  have hP : va_P D cls [c0, c1, c2, c3, c4, c5, (h0, .inr (4, [.null, .null, .int 0, .int 0, .int 0, .long 0, .long 0, .int 0, .int 0, .int 0, .int 0, .int 0, .int 0, .int 0, .int 0])), (q0, .inr (5, [.null, .null, .int 0, .int 0, .int 0, .int 0, .int 0, .int 0, .int 0, .null, .null, .null, .null, .null, .null, .int 0, .int 0, .int 0, .int 0, .int 0, .int 0, .int 0, .int 0, .int 0, .int 0, .int 0]))] H := hP
  have hD : va_D A [c0, c1, c2, c3, c4, c5, (h0, .inr (4, [.null, .null, .int 0, .int 0, .int 0, .long 0, .long 0, .int 0, .int 0, .int 0, .int 0, .int 0, .int 0, .int 0, .int 0])), (q0, .inr (5, [.null, .null, .int 0, .int 0, .int 0, .int 0, .int 0, .int 0, .int 0, .null, .null, .null, .null, .null, .null, .int 0, .int 0, .int 0, .int 0, .int 0, .int 0, .int 0, .int 0, .int 0, .int 0, .int 0]))] := hD
  refine lv_dup hx hb d_Md_new_8 rfl ?_
  refine q_NI (D := D) (A := A) (As := []) (rest := [.ref q0, .ref h0]) (n := 0) (b := q0) hx hb hml hown hts (c_Rs_new l D A cI cL cC _ _ _ _ _ _ _ q0) rfl rfl mn_45 mn_46 mn_47 mn_44 rfl (by decide +kernel) ⟨Nat.le_of_ble_eq_true rfl, Nat.le_of_ble_eq_true rfl⟩ hNB hK hP hD hS hA rfl hl.1 rfl (Nat.le_of_ble_eq_true rfl) d_Md_new_9 ⟨Nat.le_of_ble_eq_true rfl, Nat.le_of_ble_eq_true rfl⟩ (fun xq0 H locs hP hD hS => ?_)
  have hP : va_P D cls [c0, c1, c2, c3, c4, c5, (h0, .inr (4, [.null, .null, .int 0, .int 0, .int 0, .long 0, .long 0, .int 0, .int 0, .int 0, .int 0, .int 0, .int 0, .int 0, .int 0])), (q0, .inr (5, [.ref (xq0 0), .ref (xq0 1), .int 0, .int 0, .int 0, .int 0, .int 0, .int 0, .int 0, .ref (xq0 2), .ref (xq0 3), .ref (xq0 4), .ref (xq0 5), .ref (xq0 6), .ref (xq0 7), .int 0, .int 0, .int 0, .int 0, .int 0, .int 0, .int 0, .int 0, .int 0, .int 0, .int 0])), ((xq0 0), .inl (cI, 1200, .inl (fun _ => 0))), ((xq0 1), .inl (cI, 40, .inl (fun _ => 0))), ((xq0 2), .inl (cI, 520, .inl (fun _ => 0))), ((xq0 3), .inl (cI, 520, .inl (fun _ => 0))), ((xq0 4), .inl (cI, 520, .inl (fun _ => 0))), ((xq0 5), .inl (cI, 520, .inl (fun _ => 0))), ((xq0 6), .inl (cI, 520, .inl (fun _ => 0))), ((xq0 7), .inl (cI, 520, .inl (fun _ => 0)))] H := hP
  have hD : va_D A [c0, c1, c2, c3, c4, c5, (h0, .inr (4, [.null, .null, .int 0, .int 0, .int 0, .long 0, .long 0, .int 0, .int 0, .int 0, .int 0, .int 0, .int 0, .int 0, .int 0])), (q0, .inr (5, [.ref (xq0 0), .ref (xq0 1), .int 0, .int 0, .int 0, .int 0, .int 0, .int 0, .int 0, .ref (xq0 2), .ref (xq0 3), .ref (xq0 4), .ref (xq0 5), .ref (xq0 6), .ref (xq0 7), .int 0, .int 0, .int 0, .int 0, .int 0, .int 0, .int 0, .int 0, .int 0, .int 0, .int 0])), ((xq0 0), .inl (cI, 1200, .inl (fun _ => 0))), ((xq0 1), .inl (cI, 40, .inl (fun _ => 0))), ((xq0 2), .inl (cI, 520, .inl (fun _ => 0))), ((xq0 3), .inl (cI, 520, .inl (fun _ => 0))), ((xq0 4), .inl (cI, 520, .inl (fun _ => 0))), ((xq0 5), .inl (cI, 520, .inl (fun _ => 0))), ((xq0 6), .inl (cI, 520, .inl (fun _ => 0))), ((xq0 7), .inl (cI, 520, .inl (fun _ => 0)))] := hD
  refine va_putF (D := D) (ci := 4) (v := .ref q0) (ty := .object "PrimitiveBitsModel$Reals") (C := R_Md) (T := T_Md) (N := 15) hx hb hT in_Md ty_Md tyok_Md nm_Md hown hK hP hD hS 6 rfl rfl 0 (by decide) (hT _ mn_48) (fun _ h9 => h9) rfl hin rfl (by decide +kernel) rfl rfl (Nat.le_of_ble_eq_true rfl) d_Md_new_12 (fun H locs hP hD hS => ?_)
  have hP : va_P D cls [c0, c1, c2, c3, c4, c5, (h0, .inr (4, [.ref q0, .null, .int 0, .int 0, .int 0, .long 0, .long 0, .int 0, .int 0, .int 0, .int 0, .int 0, .int 0, .int 0, .int 0])), (q0, .inr (5, [.ref (xq0 0), .ref (xq0 1), .int 0, .int 0, .int 0, .int 0, .int 0, .int 0, .int 0, .ref (xq0 2), .ref (xq0 3), .ref (xq0 4), .ref (xq0 5), .ref (xq0 6), .ref (xq0 7), .int 0, .int 0, .int 0, .int 0, .int 0, .int 0, .int 0, .int 0, .int 0, .int 0, .int 0])), ((xq0 0), .inl (cI, 1200, .inl (fun _ => 0))), ((xq0 1), .inl (cI, 40, .inl (fun _ => 0))), ((xq0 2), .inl (cI, 520, .inl (fun _ => 0))), ((xq0 3), .inl (cI, 520, .inl (fun _ => 0))), ((xq0 4), .inl (cI, 520, .inl (fun _ => 0))), ((xq0 5), .inl (cI, 520, .inl (fun _ => 0))), ((xq0 6), .inl (cI, 520, .inl (fun _ => 0))), ((xq0 7), .inl (cI, 520, .inl (fun _ => 0)))] H := hP
  have hD : va_D A [c0, c1, c2, c3, c4, c5, (h0, .inr (4, [.ref q0, .null, .int 0, .int 0, .int 0, .long 0, .long 0, .int 0, .int 0, .int 0, .int 0, .int 0, .int 0, .int 0, .int 0])), (q0, .inr (5, [.ref (xq0 0), .ref (xq0 1), .int 0, .int 0, .int 0, .int 0, .int 0, .int 0, .int 0, .ref (xq0 2), .ref (xq0 3), .ref (xq0 4), .ref (xq0 5), .ref (xq0 6), .ref (xq0 7), .int 0, .int 0, .int 0, .int 0, .int 0, .int 0, .int 0, .int 0, .int 0, .int 0, .int 0])), ((xq0 0), .inl (cI, 1200, .inl (fun _ => 0))), ((xq0 1), .inl (cI, 40, .inl (fun _ => 0))), ((xq0 2), .inl (cI, 520, .inl (fun _ => 0))), ((xq0 3), .inl (cI, 520, .inl (fun _ => 0))), ((xq0 4), .inl (cI, 520, .inl (fun _ => 0))), ((xq0 5), .inl (cI, 520, .inl (fun _ => 0))), ((xq0 6), .inl (cI, 520, .inl (fun _ => 0))), ((xq0 7), .inl (cI, 520, .inl (fun _ => 0)))] := hD
  refine lv_aload_n hx hb d_Md_new_15 rfl (lv_at hl 0 rfl) ?_
  refine lv_bipush hx hb d_Md_new_16 (show (Int8.ofInt 40).toInt32 = (40 : Int32) by decide) ?_
  refine q_newI (N := 40) hx hb (hT _ mn_32) hK hP hD hS hA (by decide) (by decide) (by decide) (Nat.le_of_ble_eq_true rfl) (Nat.le_of_ble_eq_true rfl) d_Md_new_18 (fun q1 H hP hD hS => ?_)
  have hP : va_P D cls [c0, c1, c2, c3, c4, c5, (h0, .inr (4, [.ref q0, .null, .int 0, .int 0, .int 0, .long 0, .long 0, .int 0, .int 0, .int 0, .int 0, .int 0, .int 0, .int 0, .int 0])), (q0, .inr (5, [.ref (xq0 0), .ref (xq0 1), .int 0, .int 0, .int 0, .int 0, .int 0, .int 0, .int 0, .ref (xq0 2), .ref (xq0 3), .ref (xq0 4), .ref (xq0 5), .ref (xq0 6), .ref (xq0 7), .int 0, .int 0, .int 0, .int 0, .int 0, .int 0, .int 0, .int 0, .int 0, .int 0, .int 0])), ((xq0 0), .inl (cI, 1200, .inl (fun _ => 0))), ((xq0 1), .inl (cI, 40, .inl (fun _ => 0))), ((xq0 2), .inl (cI, 520, .inl (fun _ => 0))), ((xq0 3), .inl (cI, 520, .inl (fun _ => 0))), ((xq0 4), .inl (cI, 520, .inl (fun _ => 0))), ((xq0 5), .inl (cI, 520, .inl (fun _ => 0))), ((xq0 6), .inl (cI, 520, .inl (fun _ => 0))), ((xq0 7), .inl (cI, 520, .inl (fun _ => 0))), (q1, .inl (cI, 40, .inl (fun _ => 0)))] H := hP
  have hD : va_D A [c0, c1, c2, c3, c4, c5, (h0, .inr (4, [.ref q0, .null, .int 0, .int 0, .int 0, .long 0, .long 0, .int 0, .int 0, .int 0, .int 0, .int 0, .int 0, .int 0, .int 0])), (q0, .inr (5, [.ref (xq0 0), .ref (xq0 1), .int 0, .int 0, .int 0, .int 0, .int 0, .int 0, .int 0, .ref (xq0 2), .ref (xq0 3), .ref (xq0 4), .ref (xq0 5), .ref (xq0 6), .ref (xq0 7), .int 0, .int 0, .int 0, .int 0, .int 0, .int 0, .int 0, .int 0, .int 0, .int 0, .int 0])), ((xq0 0), .inl (cI, 1200, .inl (fun _ => 0))), ((xq0 1), .inl (cI, 40, .inl (fun _ => 0))), ((xq0 2), .inl (cI, 520, .inl (fun _ => 0))), ((xq0 3), .inl (cI, 520, .inl (fun _ => 0))), ((xq0 4), .inl (cI, 520, .inl (fun _ => 0))), ((xq0 5), .inl (cI, 520, .inl (fun _ => 0))), ((xq0 6), .inl (cI, 520, .inl (fun _ => 0))), ((xq0 7), .inl (cI, 520, .inl (fun _ => 0))), (q1, .inl (cI, 40, .inl (fun _ => 0)))] := hD
  refine va_putF (D := D) (ci := 4) (v := .ref q1) (ty := .array .int) (C := R_Md) (T := T_Md) (N := 15) hx hb hT in_Md ty_Md tyok_Md nm_Md hown hK hP hD hS 6 rfl rfl 1 (by decide) (hT _ mn_49) (fun _ h9 => h9) rfl hin rfl (by decide +kernel) rfl rfl (Nat.le_of_ble_eq_true rfl) d_Md_new_20 (fun H locs hP hD hS => ?_)
  have hP : va_P D cls [c0, c1, c2, c3, c4, c5, (h0, .inr (4, [.ref q0, .ref q1, .int 0, .int 0, .int 0, .long 0, .long 0, .int 0, .int 0, .int 0, .int 0, .int 0, .int 0, .int 0, .int 0])), (q0, .inr (5, [.ref (xq0 0), .ref (xq0 1), .int 0, .int 0, .int 0, .int 0, .int 0, .int 0, .int 0, .ref (xq0 2), .ref (xq0 3), .ref (xq0 4), .ref (xq0 5), .ref (xq0 6), .ref (xq0 7), .int 0, .int 0, .int 0, .int 0, .int 0, .int 0, .int 0, .int 0, .int 0, .int 0, .int 0])), ((xq0 0), .inl (cI, 1200, .inl (fun _ => 0))), ((xq0 1), .inl (cI, 40, .inl (fun _ => 0))), ((xq0 2), .inl (cI, 520, .inl (fun _ => 0))), ((xq0 3), .inl (cI, 520, .inl (fun _ => 0))), ((xq0 4), .inl (cI, 520, .inl (fun _ => 0))), ((xq0 5), .inl (cI, 520, .inl (fun _ => 0))), ((xq0 6), .inl (cI, 520, .inl (fun _ => 0))), ((xq0 7), .inl (cI, 520, .inl (fun _ => 0))), (q1, .inl (cI, 40, .inl (fun _ => 0)))] H := hP
  have hD : va_D A [c0, c1, c2, c3, c4, c5, (h0, .inr (4, [.ref q0, .ref q1, .int 0, .int 0, .int 0, .long 0, .long 0, .int 0, .int 0, .int 0, .int 0, .int 0, .int 0, .int 0, .int 0])), (q0, .inr (5, [.ref (xq0 0), .ref (xq0 1), .int 0, .int 0, .int 0, .int 0, .int 0, .int 0, .int 0, .ref (xq0 2), .ref (xq0 3), .ref (xq0 4), .ref (xq0 5), .ref (xq0 6), .ref (xq0 7), .int 0, .int 0, .int 0, .int 0, .int 0, .int 0, .int 0, .int 0, .int 0, .int 0, .int 0])), ((xq0 0), .inl (cI, 1200, .inl (fun _ => 0))), ((xq0 1), .inl (cI, 40, .inl (fun _ => 0))), ((xq0 2), .inl (cI, 520, .inl (fun _ => 0))), ((xq0 3), .inl (cI, 520, .inl (fun _ => 0))), ((xq0 4), .inl (cI, 520, .inl (fun _ => 0))), ((xq0 5), .inl (cI, 520, .inl (fun _ => 0))), ((xq0 6), .inl (cI, 520, .inl (fun _ => 0))), ((xq0 7), .inl (cI, 520, .inl (fun _ => 0))), (q1, .inl (cI, 40, .inl (fun _ => 0)))] := hD
  exact W.vret hx hb hr (fun t ht _ => ⟨rfl, ⟨(fun j => match j with | 0 => q0 | 1 => q1 | 2 => xq0 0 | 3 => xq0 1 | 4 => xq0 2 | 5 => xq0 3 | 6 => xq0 4 | 7 => xq0 5 | 8 => xq0 6 | _ => xq0 7), by rw [ht]; exact hP, hD⟩, hS.F ht⟩) hS.2.2 d_Md_new_23
