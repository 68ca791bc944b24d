/-! Methods over the class's cells that look at what stands around them. -/
section EO
variable {l : Launch} {y : MethodName} {cc : ByteArray} {maxL : Nat} {rm : Room} {vs : List Value} {D : va_G} {A : Nat → Prop} {tys : List (ClassId × FieldType)} {w0 w1 : va_W} {E : State → Prop}
abbrev ePre (D : va_G) (A : Nat → Prop) (tys : List (ClassId × FieldType)) (w0 : va_W) (E : State → Prop) (U : State) : Prop := gPre D A tys w0 U ∧ E U
theorem eOpen_v (hy : plainName y.cls = true) (hlen : (lg_sl vs).length ≤ maxL) 
    (body : ∀ (p : Program) (e : Env) (s : State) (m : MethodId) (args : Array Value) (below : List Frame) (meth : Method) (c : Code) (Q : State → Prop) (ls : Array Slot), p.tables.exec = Jvm.exec → c.code = cc → c.maxLocals = maxL → s.vm.findClass y.cls = some m.cls → (∀ w ∈ Cond.code y cc maxL none :: BIG, w.before args s = true) → (∀ w ∈ BIG, w.before args s = true) → nB s → va_P D cls w0 s.heap → va_K D cls tys s → va_D A w0 → E s → lv_has ls maxL (lv_args 0 vs) →
      (∀ (pc : Nat) (ls : Array Slot) (H : Heap) (locs : List Loc), va_P D cls w1 H → va_D A w1 → va_S A s.heap H locs → decode cc pc = .ok (.return_, 1) → W p l e rm s m args below meth c H locs 0 0 Q (F0 m pc ls [])) → W p l e rm s m args below meth c s.heap [] 0 0 Q (F0 m 0 ls [])) :
    Met l y (Cond.code y cc maxL none :: BIG) rm (va_Pc vs (ePre D A tys w0 E)) (gQ D A none w1) 0 0 A := by
  refine Met.ofW (cc := cc) (maxL := maxL) (ret := none) hy rfl ?_
  intro p e s m args below meth c s₁ B hml hv
  obtain ⟨rfl, ⟨hN, hP, hK, hD⟩, hE⟩ := hv
  have hl := lv_entry vs (n := maxL) hlen
  rw [lg_entry_eq]
  have hts := atoms_spec (ws := Cond.code y cc maxL none :: BIG) B.pre
  have hlocks := B.notSynchronized
  exact body p e s m _ below meth c _ _ B.exec B.bytes hml (findClass_of_methodNamed B.named) hts (fun w h => hts w (List.mem_cons_of_mem _ h)) hN hP hK hD hE hl (fun pc ls H locs hP hD hS hd => W.vret B.exec B.bytes B.returns (fun t ht _ => ⟨rfl, by rw [ht]; exact hP, hD, hS.F ht⟩) hS.2.2 hd)
theorem eOpen_i {r : Int32} (hy : plainName y.cls = true) (hlen : (lg_sl vs).length ≤ maxL) 
    (body : ∀ (p : Program) (e : Env) (s : State) (m : MethodId) (args : Array Value) (below : List Frame) (meth : Method) (c : Code) (Q : State → Prop) (ls : Array Slot), p.tables.exec = Jvm.exec → c.code = cc → c.maxLocals = maxL → s.vm.findClass y.cls = some m.cls → (∀ w ∈ Cond.code y cc maxL (some .int) :: BIG, w.before args s = true) → (∀ w ∈ BIG, w.before args s = true) → nB s → va_P D cls w0 s.heap → va_K D cls tys s → va_D A w0 → E s → lv_has ls maxL (lv_args 0 vs) →
      (∀ (pc : Nat) (ls : Array Slot) (H : Heap) (locs : List Loc) (v : Int32), v = r → va_P D cls w1 H → va_D A w1 → va_S A s.heap H locs → decode cc pc = .ok (.ireturn, 1) → W p l e rm s m args below meth c H locs 0 0 Q (F0 m pc ls [.int v])) → W p l e rm s m args below meth c s.heap [] 0 0 Q (F0 m 0 ls [])) :
    Met l y (Cond.code y cc maxL (some .int) :: BIG) rm (va_Pc vs (ePre D A tys w0 E)) (gQ D A (some (.int r)) w1) 0 0 A := by
  refine Met.ofW (cc := cc) (maxL := maxL) (ret := some .int) hy rfl ?_
  intro p e s m args below meth c s₁ B hml hv
  obtain ⟨rfl, ⟨hN, hP, hK, hD⟩, hE⟩ := hv
  have hl := lv_entry vs (n := maxL) hlen
  rw [lg_entry_eq]
  have hts := atoms_spec (ws := Cond.code y cc maxL (some .int) :: BIG) B.pre
  have hlocks := B.notSynchronized
  exact body p e s m _ below meth c _ _ B.exec B.bytes hml (findClass_of_methodNamed B.named) hts (fun w h => hts w (List.mem_cons_of_mem _ h)) hN hP hK hD hE hl (fun pc ls H locs v hv hP hD hS hd => W.iret B.exec B.bytes B.returns (fun t ht _ => ⟨by rw [hv], by rw [ht]; exact hP, hD, hS.F ht⟩) hS.2.2 hd)
end EO
section EC
variable {p : Program} {l : Launch} {e : Env} {R : Room} {s : State} {m : MethodId} {args : Array Value} {below : List Frame} {meth : Method} {c : Code} {H H0 : Heap} {locs : List Loc} {cells slots : Nat} {Q : State → Prop}
variable {cc : ByteArray} {nL : Nat} {own : String} {c0 : Cond} {y : MethodName} {bytes : ByteArray} {maxL n index : Nat} {ret : Option FieldType} {rm : Room} {v : Option Value} {As rest st0 : List Value} {pc : Nat} {ls : Array Slot}
variable {D : va_G} {A : Nat → Prop} {tys : List (ClassId × FieldType)} {w0 w1 : va_W} {E : State → Prop}
theorem q_EV {C : String} {b : Nat} (hx : p.tables.exec = Jvm.exec) (hb : c.code = cc) (hml : c.maxLocals = nL) (hown : s.vm.findClass own = some m.cls) (hts : ∀ w ∈ c0 :: BIG, w.before args s = true)
    (hM : Met l y (Cond.code y bytes maxL ret :: BIG) rm (va_Pc (.ref b :: As) (ePre D A tys w0 E)) (gQ D A v w1) 0 0 A) (hrc : rm.cells = 0) (hrs : rm.slots = 0)
    (hcode : Cond.code y bytes maxL ret ∈ BIG) (hlk : Cond.methodLink own index y ∈ BIG) (him : Cond.instanceMethod y ∈ BIG) (hsel : Cond.selects C y y ∈ BIG) (hini : Cond.initialized y.cls ∈ BIG)
    (hd : y.cls ≠ "java/lang/invoke/MethodHandle" ∧ y.cls ≠ "java/lang/invoke/VarHandle" ∧ (parseMethodDescriptor y.desc).map (fun d => d.parameters.length) = some n)
    (hR : rm.frames + 1 ≤ R.frames ∧ 8 + (maxL + 11) + rm.locals ≤ R.locals) (hrv : ∃ cell : Cell, H[b]? = some cell ∧ cell.vm.isStatics = false ∧ s.vm.findClass C = some cell.cls)
    (hbl : ∀ (U : State) (g : JFrame) (mk : MethodId) (a : Array Value), E U → E (U.calling g mk a)) (hpe : ∀ U : State, U.heap = H → s.WarmedH U.vm → E U) (hN : nB s) (hK : va_K D cls tys s) (hP : va_P D cls w0 H) (hD : va_D A w0) (hS : va_S A H0 H locs)
    (hn : As.length = n) (hsize : ls.size = nL) (hstack : st0 = As.reverse ++ .ref b :: rest) (hW : (rest.map fun v => v.category).sum ≤ 8) (hdg : decode cc pc = .ok (.invokevirtual index, 3)) (hcap : cells ≤ R.cells ∧ slots ≤ R.slots)
    (kk : ∀ (H1 : Heap) (locs1 : List Loc), va_P D cls w1 H1 → va_D A w1 → va_S A H0 H1 locs1 → W p l e R s m args below meth c H1 locs1 cells slots Q (F0 m (pc + 3) ls (v.toList ++ rest))) : W p l e R s m args below meth c H locs cells slots Q (F0 m pc ls st0) := by
  have hT : ∀ w ∈ BIG, w.before args s = true := fun w h => hts w (List.mem_cons_of_mem _ h)
  refine q_grun (a := (Value.ref b :: As).toArray) (va_runV (Ts := c0 :: BIG) (own := own) (index := index) (n := n) (C := C) (b := b) (As := As) ⟨hx, hb, hml, hown, hts⟩ hM ⟨callB_of n hts (gBig hcode) rfl hrc hrs (hT _ hini) (hT _ hlk) hd hR, hT _ him, hT _ hsel⟩ ⟨fun a U g mk q => ⟨q.1, gPre_bl U g mk a q.2.1, hbl U g mk a q.2.2⟩, hrv, fun U hU hW => ⟨rfl, ⟨nB_mv hW hN, by rw [hU]; exact hP, va_K.moved hW.alike hK, hD⟩, hpe U hU hW⟩⟩ rfl hn hsize hstack (lv_room hW) hdg hcap) hS kk
end EC
theorem sTe_bl {o v : Nat} {bs : List Int32} {A : Nat → Prop} (U : State) (g : JFrame) (mk : MethodId) (a : Array Value) (h : sT o v bs A U U.heap) : sT o v bs A (U.calling g mk a) (U.calling g mk a).heap := sT_at (s := U) (U := U.calling g mk a) (Vm.Alike.refl U.vm) (fun _ _ _ => rfl) h
theorem sTe_of {o v : Nat} {bs : List Int32} {A : Nat → Prop} {s U : State} {H : Heap} {locs : List Loc} (hU : U.heap = H) (hW : s.WarmedH U.vm) (hS : va_S A s.heap H locs) (h : sT o v bs A s s.heap) : sT o v bs A U U.heap := by
  rw [hU]
  exact sT_at hW.alike hS.2.1 h
theorem eEe_of {oF oD : Nat} {kA vA : Nat → Nat} {A : Nat → Prop} {s U : State} {H : Heap} {locs : List Loc} (hU : U.heap = H) (hW : s.WarmedH U.vm) (hS : va_S A s.heap H locs) (h : eE oF oD kA vA A s s.heap) : eE oF oD kA vA A U U.heap := by
  rw [hU]
  exact eE_at hW hS.2.1 h
/-- the letters of a text, put one after the other: j of them, from place k on -/
def F_Lt_puts (n : Nat) (bs : List Int32) : Nat → Nat → Int32 → (Nat → Int32) → Option (Int32 × (Nat → Int32))
  | 0, _, len, row => some (len, row)
  | j + 1, k, len, row => (F_Lt_put_i n len row (sCh bs k)).bind fun r => F_Lt_puts n bs j (k + 1) r.1 r.2
theorem d_Lt_put_r_0 : decode b_Lt_put_r 0 = .ok (.iconst 0, 1) := by decide +kernel
theorem d_Lt_put_r_1 : decode b_Lt_put_r 1 = .ok (.istore_n 2, 1) := by decide +kernel
theorem d_Lt_put_r_2 : decode b_Lt_put_r 2 = .ok (.iload_n 2, 1) := by decide +kernel
theorem d_Lt_put_r_3 : decode b_Lt_put_r 3 = .ok (.aload_n 1, 1) := by decide +kernel
theorem d_Lt_put_r_4 : decode b_Lt_put_r 4 = .ok (.invokevirtual 20, 3) := by decide +kernel
theorem d_Lt_put_r_7 : decode b_Lt_put_r 7 = .ok (.if_icmp .ge 18, 3) := by decide +kernel
theorem d_Lt_put_r_10 : decode b_Lt_put_r 10 = .ok (.aload_n 0, 1) := by decide +kernel
theorem d_Lt_put_r_11 : decode b_Lt_put_r 11 = .ok (.aload_n 1, 1) := by decide +kernel
theorem d_Lt_put_r_12 : decode b_Lt_put_r 12 = .ok (.iload_n 2, 1) := by decide +kernel
theorem d_Lt_put_r_13 : decode b_Lt_put_r 13 = .ok (.invokevirtual 25, 3) := by decide +kernel
theorem d_Lt_put_r_16 : decode b_Lt_put_r 16 = .ok (.invokevirtual 29, 3) := by decide +kernel
theorem d_Lt_put_r_19 : decode b_Lt_put_r 19 = .ok (.iinc 2 1, 3) := by decide +kernel
theorem d_Lt_put_r_22 : decode b_Lt_put_r 22 = .ok (.goto (-20), 3) := by decide +kernel
theorem d_Lt_put_r_25 : decode b_Lt_put_r 25 = .ok (.return_, 1) := by decide +kernel
theorem mt_1 : (.methodLink R_Lt 29 y_Lt_put_i : Cond) ∈ BIG := List.mem_filter.mpr ⟨by decide +kernel, by rfl⟩
theorem mt_2 : (.instanceMethod y_Lt_put_i : Cond) ∈ BIG := List.mem_filter.mpr ⟨by decide +kernel, by rfl⟩
theorem mt_3 : (.selects R_Lt y_Lt_put_i y_Lt_put_i : Cond) ∈ BIG := List.mem_filter.mpr ⟨by decide +kernel, by rfl⟩
theorem mt_4 : (.code y_Lt_put_i b_Lt_put_i 2 none : Cond) ∈ BIG := List.mem_filter.mpr ⟨by decide +kernel, by rfl⟩
theorem mt_5 : (.initialized R_Lt : Cond) ∈ BIG := List.mem_filter.mpr ⟨by decide +kernel, by rfl⟩
set_option maxHeartbeats 4000000 in
set_option maxRecDepth 100000 in
theorem c_Lt_put_r (l : Launch) (D : va_G) (A : Nat → Prop) (cI cL cC : ClassId) (ad : Nat → Nat) (X : va_W) (len : Int32) (tk : Int32) (row : Nat → Int32) (dig : Int64) (pw : Int32) (used : Int32) (lost : Int32) (lim : Nat → Int64) (n : Nat) (o v : Nat) (bs : List Int32) (hbs : bs.length < 100) (r : Int32 × (Nat → Int32)) (h : F_Lt_puts n bs bs.length 0 len row = some r) : Met l y_Lt_put_r (.code y_Lt_put_r b_Lt_put_r 3 none :: BIG) ({ frames := 4, cells := 0, slots := 0, locals := 85 } : Room) (va_Pc [.ref (ad 1), .ref o] (ePre D A (tysV cI cL cC) (gC cI cL cC ad X len tk row dig pw used lost lim) (fun U => sT o v bs A U U.heap))) (gQ D A none (gC cI cL cC ad X r.1 tk r.2 dig pw used lost lim)) 0 0 A := by
  refine eOpen_v rfl (Nat.le_of_ble_eq_true rfl) ?_
  intro p e s m args below meth c Q ls hx hb hml hown hts hT hNB hP hK hD hE hl hret
  have hown : s.vm.findClass R_Lt = some m.cls := hown
  have hS : va_S A s.heap s.heap [] := va_S.rf
  have hl : lv_has ls 3 [(0, .ref (ad 1)), (1, .ref o)] := hl
  have hL : ∀ (j k : Nat) (len : Int32) (row : Nat → Int32) (ls : Array Slot) (H : Heap) (locs : List Loc), k + j = bs.length → lv_has ls 3 [(2, .int (nI k)), (0, .ref (ad 1)), (1, .ref o)] → va_P D cls (gC cI cL cC ad X len tk row dig pw used lost lim) H → va_D A (gC cI cL cC ad X len tk row dig pw used lost lim) → va_S A s.heap H locs → F_Lt_puts n bs j k len row = some r → W p l e ({ frames := 4, cells := 0, slots := 0, locals := 85 } : Room) s m args below meth c H locs 0 0 Q (F0 m 2 ls []) := by
    intro j
    induction j with
    | zero =>
      intro k len row ls H locs hk hl hP hD hS h
      have h : some (len, row) = some r := h
      obtain rfl := Option.some.inj h
      refine lv_iload_n hx hb d_Lt_put_r_2 rfl (lv_at hl 0 rfl) ?_
      refine lv_aload_n hx hb d_Lt_put_r_3 rfl (lv_at hl 2 rfl) ?_
      refine q_V (C := "java/lang/String") (b := o) (As := []) (rest := [.int (nI k)]) (n := 0) hx hb hml hown hts (c_S_length l (o := o) (v := v) (bs := bs)) rfl rfl ms_28 ms_25 ms_26 ms_27 ms_8 (by decide +kernel) ⟨Nat.le_of_ble_eq_true rfl, Nat.le_of_ble_eq_true rfl⟩ (sT_rc hS hE) sP_bl (fun U hU hW => sP_of hU hW hS hE) rfl hl.1 rfl (Nat.le_of_ble_eq_true rfl) d_Lt_put_r_4 ⟨Nat.zero_le _, Nat.zero_le _⟩ ?_
      refine lv_icmp_ge (tgt := 25) hx hb d_Lt_put_r_7 rfl (fun hc => ?_) (fun hc => absurd (show Int32.ofNat bs.length ≤ nI k by rw [show k = bs.length by omega]; exact Int32.le_refl _) hc)
      exact hret 25 ls _ _ hP hD hS d_Lt_put_r_25
    | succ j ih =>
      intro k len row ls H locs hk hl hP hD hS h
      have h : ((F_Lt_put_i n len row (sCh bs k)).bind fun r => F_Lt_puts n bs j (k + 1) r.1 r.2) = some r := h
      obtain ⟨x1, e1, h⟩ := bd_o h
      refine lv_iload_n hx hb d_Lt_put_r_2 rfl (lv_at hl 0 rfl) ?_
      refine lv_aload_n hx hb d_Lt_put_r_3 rfl (lv_at hl 2 rfl) ?_
      refine q_V (C := "java/lang/String") (b := o) (As := []) (rest := [.int (nI k)]) (n := 0) hx hb hml hown hts (c_S_length l (o := o) (v := v) (bs := bs)) rfl rfl ms_28 ms_25 ms_26 ms_27 ms_8 (by decide +kernel) ⟨Nat.le_of_ble_eq_true rfl, Nat.le_of_ble_eq_true rfl⟩ (sT_rc hS hE) sP_bl (fun U hU hW => sP_of hU hW hS hE) rfl hl.1 rfl (Nat.le_of_ble_eq_true rfl) d_Lt_put_r_4 ⟨Nat.zero_le _, Nat.zero_le _⟩ ?_
      refine lv_icmp_ge (tgt := 25) hx hb d_Lt_put_r_7 rfl (fun hc => absurd (show nI k < nI bs.length from nI_lt (by omega) (by omega)) (Int32.not_lt.mpr hc)) (fun hc => ?_)
      refine lv_aload_n hx hb d_Lt_put_r_10 rfl (lv_at hl 1 rfl) ?_
      refine lv_aload_n hx hb d_Lt_put_r_11 rfl (lv_at hl 2 rfl) ?_
      refine lv_iload_n hx hb d_Lt_put_r_12 rfl (lv_at hl 0 rfl) ?_
      refine q_V (C := "java/lang/String") (b := o) (As := [.int (nI k)]) (rest := [.ref (ad 1)]) (n := 1) hx hb hml hown hts (c_S_charAt l (o := o) (v := v) (bs := bs) (k := k) (by omega) hbs) rfl rfl ms_32 ms_29 ms_30 ms_31 ms_8 (by decide +kernel) ⟨Nat.le_of_ble_eq_true rfl, Nat.le_of_ble_eq_true rfl⟩ (sT_rc hS hE) sP_bl (fun U hU hW => sP_of hU hW hS hE) rfl hl.1 rfl (Nat.le_of_ble_eq_true rfl) d_Lt_put_r_13 ⟨Nat.zero_le _, Nat.zero_le _⟩ ?_
      refine q_GV (D := D) (A := A) (C := R_Lt) (b := ad 1) (As := [.int (sCh bs k)]) (rest := []) (n := 1) hx hb hml hown hts (c_Lt_put_i l D A cI cL cC ad X len tk row dig pw used lost lim n (sCh bs k) x1 e1) rfl rfl mt_4 mt_1 mt_2 mt_3 mt_5 (by decide +kernel) ⟨Nat.le_of_ble_eq_true rfl, Nat.le_of_ble_eq_true rfl⟩ (va_recv hK hP (ci := 1) rfl (q0 := 1) rfl) hNB hK hP hD hS rfl hl.1 rfl (Nat.le_of_ble_eq_true rfl) d_Lt_put_r_16 ⟨Nat.zero_le _, Nat.zero_le _⟩ (fun H locs hP hD hS => ?_)
      refine lv_iinc (k := 0) hx hb d_Lt_put_r_19 hl rfl (show nI k + Int32.ofInt 1 = nI (k + 1) from nI_1 k) (by decide) rfl (fun ls hl => ?_)
      have hl : lv_has ls 3 [(2, .int (nI (k + 1))), (0, .ref (ad 1)), (1, .ref o)] := hl
      refine lv_goto (tgt := 2) hx hb d_Lt_put_r_22 rfl ?_
      exact ih (k + 1) _ _ ls H locs (by omega) hl hP hD hS h
  refine lv_iconst hx hb d_Lt_put_r_0 ic_0 ?_
  refine lv_istore_n hx hb d_Lt_put_r_1 rfl hl (by decide) rfl (fun ls hl => ?_)
  exact hL bs.length 0 len row ls _ _ (by omega) hl hP hD hS h
