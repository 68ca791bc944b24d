-- Md_lay
theorem d_Md_lay_0 : decode b_Md_lay 0 = .ok (.aload_n 0, 1) := by decide +kernel
theorem d_Md_lay_1 : decode b_Md_lay 1 = .ok (.getfield 16, 3) := by decide +kernel
theorem d_Md_lay_4 : decode b_Md_lay 4 = .ok (.aload_n 0, 1) := by decide +kernel
theorem d_Md_lay_5 : decode b_Md_lay 5 = .ok (.getfield 146, 3) := by decide +kernel
theorem d_Md_lay_8 : decode b_Md_lay 8 = .ok (.iload_n 1, 1) := by decide +kernel
theorem d_Md_lay_9 : decode b_Md_lay 9 = .ok (.iastore, 1) := by decide +kernel
theorem d_Md_lay_10 : decode b_Md_lay 10 = .ok (.aload_n 0, 1) := by decide +kernel
theorem d_Md_lay_11 : decode b_Md_lay 11 = .ok (.dup, 1) := by decide +kernel
theorem d_Md_lay_12 : decode b_Md_lay 12 = .ok (.getfield 146, 3) := by decide +kernel
theorem d_Md_lay_15 : decode b_Md_lay 15 = .ok (.iconst 1, 1) := by decide +kernel
theorem d_Md_lay_16 : decode b_Md_lay 16 = .ok (.iadd, 1) := by decide +kernel
theorem d_Md_lay_17 : decode b_Md_lay 17 = .ok (.putfield 146, 3) := by decide +kernel
theorem d_Md_lay_20 : decode b_Md_lay 20 = .ok (.return_, 1) := by decide +kernel
def F_Md_lay (n : Nat) (laid : Int32) (lets : Nat → Int32) (a1 : Int32) : Option (Int32 × (Nat → Int32)) := gz_ (laid < 0 ∨ 40 ≤ (laid).toNatClampNeg) <| lt_ (upd lets (laid).toNatClampNeg a1) fun lets_1 => lt_ (laid + (1 : Int32)) fun x2 => some (x2, lets_1)
set_option maxHeartbeats 4000000 in
set_option maxRecDepth 100000 in
theorem c_Md_lay (l : Launch) (D : va_G) (A : Nat → Prop) (cI cL cC : ClassId) (ad : Nat → Nat) (X : va_W) (laid : Int32) (gone : Int32) (thr : Int32) (m1 : Int64) (m2 : Int64) (e1 : Int32) (e2 : Int32) (mi1 : Int32) (mi2 : Int32) (na1 : Int32) (na2 : Int32) (fa1 : Int32) (fa2 : Int32) (lets : Nat → Int32) (rlen : Int32) (rlaid : Int32) (rgone : Int32) (rthr : Int32) (were : Int32) (none_ : Int32) (beyo : Int32) (aN : Int32) (bN : Int32) (fN : Int32) (lN_ : Int32) (rN : Int32) (pN : Int32) (twos : Int32) (at_ : Int32) (rdig : Int32) (rpow : Int32) (good : Int32) (txt : Nat → Int32) (wri : Nat → Int32) (ra : Nat → Int32) (rb : Nat → Int32) (rfive : Nat → Int32) (rleft : Nat → Int32) (rright : Nat → Int32) (rpart : Nat → Int32) (n : Nat) (a1 : Int32) (r : Int32 × (Nat → Int32)) (h : F_Md_lay n laid lets a1 = some r) : Met l y_Md_lay (.code y_Md_lay b_Md_lay 2 none :: BIG) ({ frames := 0, cells := 0, slots := 0, locals := 0 } : Room) (va_Pc [.ref (ad 0), .int a1] (gPre D A (tysV cI cL cC) (gM cI cL cC ad X laid gone thr m1 m2 e1 e2 mi1 mi2 na1 na2 fa1 fa2 lets rlen rlaid rgone rthr were none_ beyo aN bN fN lN_ rN pN twos at_ rdig rpow good txt wri ra rb rfive rleft rright rpart))) (gQ D A none (gM cI cL cC ad X r.1 gone thr m1 m2 e1 e2 mi1 mi2 na1 na2 fa1 fa2 r.2 rlen rlaid rgone rthr were none_ beyo aN bN fN lN_ rN pN twos at_ rdig rpow good txt wri ra rb rfive rleft rright rpart)) 0 0 A := by
  refine gOpen_v rfl (Nat.le_of_ble_eq_true rfl) ?_
  intro p e s m args below meth c Q ls hx hb hml hown hts hT hNB hP hK hD hl hret
  have hown : s.vm.findClass R_Md = some m.cls := hown
  have hS : va_S A s.heap s.heap [] := va_S.rf
  have hl : lv_has ls 2 [(0, .ref (ad 0)), (1, .int a1)] := hl
  have h : (gz_ (laid < 0 ∨ 40 ≤ (laid).toNatClampNeg) <| lt_ (upd lets (laid).toNatClampNeg a1) fun lets_1 => lt_ (laid + (1 : Int32)) fun x2 => some (x2, lets_1)) = some r := h
  refine lv_aload_n hx hb d_Md_lay_0 rfl (lv_at hl 0 rfl) ?_
  refine va_get (D := D) (ci := 4) (C := R_Md) (T := T_Md) (N := 15) hx hb hT in_Md hown hK hP 0 rfl rfl 1 (by decide) (hT _ m_309) (fun _ h9 => h9) rfl d_Md_lay_1 ?_
  refine lv_aload_n hx hb d_Md_lay_4 rfl (lv_at hl 0 rfl) ?_
  refine va_get (D := D) (ci := 4) (C := R_Md) (T := T_Md) (N := 15) hx hb hT in_Md hown hK hP 0 rfl rfl 2 (by decide) (hT _ m_310) (fun _ h9 => h9) rfl d_Md_lay_5 ?_
  refine lv_iload_n hx hb d_Md_lay_8 rfl (lv_at hl 1 rfl) ?_
  have hi := gz_n h
  have h := gz_h h
  refine va_iast hx hb hK hP hD hS 1 0 rfl rfl hi d_Md_lay_9 (fun H locs hP hD hS => ?_)
  have hP : va_P D cls (gM cI cL cC ad X laid gone thr m1 m2 e1 e2 mi1 mi2 na1 na2 fa1 fa2 (upd lets (laid).toNatClampNeg a1) rlen rlaid rgone rthr were none_ beyo aN bN fN lN_ rN pN twos at_ rdig rpow good txt wri ra rb rfive rleft rright rpart) H := hP
  have hD : va_D A (gM cI cL cC ad X laid gone thr m1 m2 e1 e2 mi1 mi2 na1 na2 fa1 fa2 (upd lets (laid).toNatClampNeg a1) rlen rlaid rgone rthr were none_ beyo aN bN fN lN_ rN pN twos at_ rdig rpow good txt wri ra rb rfive rleft rright rpart) := hD
  obtain ⟨lets_1, e_lets_1, h⟩ := lt_o h
  rw [← e_lets_1] at hP hD
  refine lv_aload_n hx hb d_Md_lay_10 rfl (lv_at hl 0 rfl) ?_
  refine lv_dup hx hb d_Md_lay_11 rfl ?_
  refine va_get (D := D) (ci := 4) (C := R_Md) (T := T_Md) (N := 15) hx hb hT in_Md hown hK hP 0 rfl rfl 2 (by decide) (hT _ m_310) (fun _ h9 => h9) rfl d_Md_lay_12 ?_
  refine lv_iconst hx hb d_Md_lay_15 ic_1 ?_
  refine lv_iadd hx hb d_Md_lay_16 ?_
  refine lv_topi (fun x2 e_x2 => ?_)
  have h := lt_h e_x2 h
  refine va_put (D := D) (ci := 4) (C := R_Md) (T := T_Md) (N := 15) hx hb hT in_Md ty_Md tyok_Md nm_Md hown hK hP hD hS 0 rfl rfl 2 (by decide) (hT _ m_310) (fun _ h9 => h9) rfl (ty := .int) (by decide +kernel) rfl rfl (by decide : 2 < 15) d_Md_lay_17 (fun H locs hP hD hS => ?_)
  have hP : va_P D cls (gM cI cL cC ad X x2 gone thr m1 m2 e1 e2 mi1 mi2 na1 na2 fa1 fa2 lets_1 rlen rlaid rgone rthr were none_ beyo aN bN fN lN_ rN pN twos at_ rdig rpow good txt wri ra rb rfive rleft rright rpart) H := hP
  have hD : va_D A (gM cI cL cC ad X x2 gone thr m1 m2 e1 e2 mi1 mi2 na1 na2 fa1 fa2 lets_1 rlen rlaid rgone rthr were none_ beyo aN bN fN lN_ rN pN twos at_ rdig rpow good txt wri ra rb rfive rleft rright rpart) := hD
  obtain rfl := Option.some.inj h
  exact hret 20 ls _ _ hP hD hS d_Md_lay_20
-- Rs_lay
theorem d_Rs_lay_0 : decode b_Rs_lay 0 = .ok (.aload_n 0, 1) := by decide +kernel
theorem d_Rs_lay_1 : decode b_Rs_lay 1 = .ok (.getfield 13, 3) := by decide +kernel
theorem d_Rs_lay_4 : decode b_Rs_lay 4 = .ok (.aload_n 0, 1) := by decide +kernel
theorem d_Rs_lay_5 : decode b_Rs_lay 5 = .ok (.getfield 168, 3) := by decide +kernel
theorem d_Rs_lay_8 : decode b_Rs_lay 8 = .ok (.iload_n 1, 1) := by decide +kernel
theorem d_Rs_lay_9 : decode b_Rs_lay 9 = .ok (.iastore, 1) := by decide +kernel
theorem d_Rs_lay_10 : decode b_Rs_lay 10 = .ok (.aload_n 0, 1) := by decide +kernel
theorem d_Rs_lay_11 : decode b_Rs_lay 11 = .ok (.dup, 1) := by decide +kernel
theorem d_Rs_lay_12 : decode b_Rs_lay 12 = .ok (.getfield 168, 3) := by decide +kernel
theorem d_Rs_lay_15 : decode b_Rs_lay 15 = .ok (.iconst 1, 1) := by decide +kernel
theorem d_Rs_lay_16 : decode b_Rs_lay 16 = .ok (.iadd, 1) := by decide +kernel
theorem d_Rs_lay_17 : decode b_Rs_lay 17 = .ok (.putfield 168, 3) := by decide +kernel
theorem d_Rs_lay_20 : decode b_Rs_lay 20 = .ok (.return_, 1) := by decide +kernel
def F_Rs_lay (n : Nat) (rlaid : Int32) (wri : Nat → Int32) (a1 : Int32) : Option (Int32 × (Nat → Int32)) := gz_ (rlaid < 0 ∨ 40 ≤ (rlaid).toNatClampNeg) <| lt_ (upd wri (rlaid).toNatClampNeg a1) fun wri_1 => lt_ (rlaid + (1 : Int32)) fun x2 => some (x2, wri_1)
set_option maxHeartbeats 4000000 in
set_option maxRecDepth 100000 in
theorem c_Rs_lay (l : Launch) (D : va_G) (A : Nat → Prop) (cI cL cC : ClassId) (ad : Nat → Nat) (X : va_W) (laid : Int32) (gone : Int32) (thr : Int32) (m1 : Int64) (m2 : Int64) (e1 : Int32) (e2 : Int32) (mi1 : Int32) (mi2 : Int32) (na1 : Int32) (na2 : Int32) (fa1 : Int32) (fa2 : Int32) (lets : Nat → Int32) (rlen : Int32) (rlaid : Int32) (rgone : Int32) (rthr : Int32) (were : Int32) (none_ : Int32) (beyo : Int32) (aN : Int32) (bN : Int32) (fN : Int32) (lN_ : Int32) (rN : Int32) (pN : Int32) (twos : Int32) (at_ : Int32) (rdig : Int32) (rpow : Int32) (good : Int32) (txt : Nat → Int32) (wri : Nat → Int32) (ra : Nat → Int32) (rb : Nat → Int32) (rfive : Nat → Int32) (rleft : Nat → Int32) (rright : Nat → Int32) (rpart : Nat → Int32) (n : Nat) (a1 : Int32) (r : Int32 × (Nat → Int32)) (h : F_Rs_lay n rlaid wri a1 = some r) : Met l y_Rs_lay (.code y_Rs_lay b_Rs_lay 2 none :: BIG) ({ frames := 0, cells := 0, slots := 0, locals := 0 } : Room) (va_Pc [.ref (ad 2), .int a1] (gPre D A (tysV cI cL cC) (gM cI cL cC ad X laid gone thr m1 m2 e1 e2 mi1 mi2 na1 na2 fa1 fa2 lets rlen rlaid rgone rthr were none_ beyo aN bN fN lN_ rN pN twos at_ rdig rpow good txt wri ra rb rfive rleft rright rpart))) (gQ D A none (gM cI cL cC ad X laid gone thr m1 m2 e1 e2 mi1 mi2 na1 na2 fa1 fa2 lets rlen r.1 rgone rthr were none_ beyo aN bN fN lN_ rN pN twos at_ rdig rpow good txt r.2 ra rb rfive rleft rright rpart)) 0 0 A := by
  refine gOpen_v rfl (Nat.le_of_ble_eq_true rfl) ?_
  intro p e s m args below meth c Q ls hx hb hml hown hts hT hNB hP hK hD hl hret
  have hown : s.vm.findClass R_Rs = some m.cls := hown
  have hS : va_S A s.heap s.heap [] := va_S.rf
  have hl : lv_has ls 2 [(0, .ref (ad 2)), (1, .int a1)] := hl
  have h : (gz_ (rlaid < 0 ∨ 40 ≤ (rlaid).toNatClampNeg) <| lt_ (upd wri (rlaid).toNatClampNeg a1) fun wri_1 => lt_ (rlaid + (1 : Int32)) fun x2 => some (x2, wri_1)) = some r := h
  refine lv_aload_n hx hb d_Rs_lay_0 rfl (lv_at hl 0 rfl) ?_
  refine va_get (D := D) (ci := 5) (C := R_Rs) (T := T_Rs) (N := 26) hx hb hT in_Rs hown hK hP 2 rfl rfl 1 (by decide) (hT _ m_311) (fun _ h9 => h9) rfl d_Rs_lay_1 ?_
  refine lv_aload_n hx hb d_Rs_lay_4 rfl (lv_at hl 0 rfl) ?_
  refine va_get (D := D) (ci := 5) (C := R_Rs) (T := T_Rs) (N := 26) hx hb hT in_Rs hown hK hP 2 rfl rfl 3 (by decide) (hT _ m_312) (fun _ h9 => h9) rfl d_Rs_lay_5 ?_
  refine lv_iload_n hx hb d_Rs_lay_8 rfl (lv_at hl 1 rfl) ?_
  have hi := gz_n h
  have h := gz_h h
  refine va_iast hx hb hK hP hD hS 4 0 rfl rfl hi d_Rs_lay_9 (fun H locs hP hD hS => ?_)
  have hP : va_P D cls (gM cI cL cC ad X laid gone thr m1 m2 e1 e2 mi1 mi2 na1 na2 fa1 fa2 lets rlen rlaid rgone rthr were none_ beyo aN bN fN lN_ rN pN twos at_ rdig rpow good txt (upd wri (rlaid).toNatClampNeg a1) ra rb rfive rleft rright rpart) H := hP
  have hD : va_D A (gM cI cL cC ad X laid gone thr m1 m2 e1 e2 mi1 mi2 na1 na2 fa1 fa2 lets rlen rlaid rgone rthr were none_ beyo aN bN fN lN_ rN pN twos at_ rdig rpow good txt (upd wri (rlaid).toNatClampNeg a1) ra rb rfive rleft rright rpart) := hD
  obtain ⟨wri_1, e_wri_1, h⟩ := lt_o h
  rw [← e_wri_1] at hP hD
  refine lv_aload_n hx hb d_Rs_lay_10 rfl (lv_at hl 0 rfl) ?_
  refine lv_dup hx hb d_Rs_lay_11 rfl ?_
  refine va_get (D := D) (ci := 5) (C := R_Rs) (T := T_Rs) (N := 26) hx hb hT in_Rs hown hK hP 2 rfl rfl 3 (by decide) (hT _ m_312) (fun _ h9 => h9) rfl d_Rs_lay_12 ?_
  refine lv_iconst hx hb d_Rs_lay_15 ic_1 ?_
  refine lv_iadd hx hb d_Rs_lay_16 ?_
  refine lv_topi (fun x2 e_x2 => ?_)
  have h := lt_h e_x2 h
  refine va_put (D := D) (ci := 5) (C := R_Rs) (T := T_Rs) (N := 26) hx hb hT in_Rs ty_Rs tyok_Rs nm_Rs hown hK hP hD hS 2 rfl rfl 3 (by decide) (hT _ m_312) (fun _ h9 => h9) rfl (ty := .int) (by decide +kernel) rfl rfl (by decide : 3 < 26) d_Rs_lay_17 (fun H locs hP hD hS => ?_)
  have hP : va_P D cls (gM cI cL cC ad X laid gone thr m1 m2 e1 e2 mi1 mi2 na1 na2 fa1 fa2 lets rlen x2 rgone rthr were none_ beyo aN bN fN lN_ rN pN twos at_ rdig rpow good txt wri_1 ra rb rfive rleft rright rpart) H := hP
  have hD : va_D A (gM cI cL cC ad X laid gone thr m1 m2 e1 e2 mi1 mi2 na1 na2 fa1 fa2 lets rlen x2 rgone rthr were none_ beyo aN bN fN lN_ rN pN twos at_ rdig rpow good txt wri_1 ra rb rfive rleft rright rpart) := hD
  obtain rfl := Option.some.inj h
  exact hret 20 ls _ _ hP hD hS d_Rs_lay_20
-- Rs_layWord
theorem d_Rs_layWord_0 : decode b_Rs_layWord 0 = .ok (.bipush 8, 2) := by decide +kernel
theorem d_Rs_layWord_2 : decode b_Rs_layWord 2 = .ok (.iload_n 3, 1) := by decide +kernel
theorem d_Rs_layWord_3 : decode b_Rs_layWord 3 = .ok (.imul, 1) := by decide +kernel
theorem d_Rs_layWord_4 : decode b_Rs_layWord 4 = .ok (.bipush 8, 2) := by decide +kernel
theorem d_Rs_layWord_6 : decode b_Rs_layWord 6 = .ok (.isub, 1) := by decide +kernel
theorem d_Rs_layWord_7 : decode b_Rs_layWord 7 = .ok (.istore 4, 2) := by decide +kernel
theorem d_Rs_layWord_9 : decode b_Rs_layWord 9 = .ok (.iload 4, 2) := by decide +kernel
theorem d_Rs_layWord_11 : decode b_Rs_layWord 11 = .ok (.ifCond .lt 22, 3) := by decide +kernel
theorem d_Rs_layWord_14 : decode b_Rs_layWord 14 = .ok (.aload_n 0, 1) := by decide +kernel
theorem d_Rs_layWord_15 : decode b_Rs_layWord 15 = .ok (.lload_n 1, 1) := by decide +kernel
theorem d_Rs_layWord_16 : decode b_Rs_layWord 16 = .ok (.iload 4, 2) := by decide +kernel
theorem d_Rs_layWord_18 : decode b_Rs_layWord 18 = .ok (.lshr, 1) := by decide +kernel
theorem d_Rs_layWord_19 : decode b_Rs_layWord 19 = .ok (.ldc2_w 212, 3) := by decide +kernel
theorem d_Rs_layWord_22 : decode b_Rs_layWord 22 = .ok (.land, 1) := by decide +kernel
theorem d_Rs_layWord_23 : decode b_Rs_layWord 23 = .ok (.l2i, 1) := by decide +kernel
theorem d_Rs_layWord_24 : decode b_Rs_layWord 24 = .ok (.invokevirtual 197, 3) := by decide +kernel
theorem d_Rs_layWord_27 : decode b_Rs_layWord 27 = .ok (.iinc 4 (-8), 3) := by decide +kernel
theorem d_Rs_layWord_30 : decode b_Rs_layWord 30 = .ok (.goto (-21), 3) := by decide +kernel
theorem d_Rs_layWord_33 : decode b_Rs_layWord 33 = .ok (.return_, 1) := by decide +kernel
def F_Rs_layWord_L9 (a1 : Int64) (j33 : (Int32 → (Nat → Int32) → Option (Int32 × (Nat → Int32)))) : Nat → Int32 → Int32 → (Nat → Int32) → Option (Int32 × (Nat → Int32))
  | 0, _, _, _ => none
  | n+1, y4, rlaid_5, wri_6 => if y4 < 0 then (j33 rlaid_5 wri_6) else ((F_Rs_lay n rlaid_5 wri_6 (((a1 >>> ((y4).toInt64 &&& 63)) &&& (255 : Int64)).toInt32)).bind fun x7 => lt_ (y4 + Int32.ofInt (-8)) fun x8 => F_Rs_layWord_L9 a1 j33 n x8 x7.1 x7.2)
def F_Rs_layWord (n : Nat) (rlaid : Int32) (wri : Nat → Int32) (a1 : Int64) (a2 : Int32) : Option (Int32 × (Nat → Int32)) := lt_ (((8 : Int32) * a2) - (8 : Int32)) fun x1 => lt_ (fun (rlaid_2 : Int32) (wri_3 : (Nat → Int32)) => some (rlaid_2, wri_3)) fun j33 => F_Rs_layWord_L9 a1 j33 n x1 rlaid wri
set_option maxHeartbeats 4000000 in
set_option maxRecDepth 100000 in
theorem c_Rs_layWord (l : Launch) (D : va_G) (A : Nat → Prop) (cI cL cC : ClassId) (ad : Nat → Nat) (X : va_W) (laid : Int32) (gone : Int32) (thr : Int32) (m1 : Int64) (m2 : Int64) (e1 : Int32) (e2 : Int32) (mi1 : Int32) (mi2 : Int32) (na1 : Int32) (na2 : Int32) (fa1 : Int32) (fa2 : Int32) (lets : Nat → Int32) (rlen : Int32) (rlaid : Int32) (rgone : Int32) (rthr : Int32) (were : Int32) (none_ : Int32) (beyo : Int32) (aN : Int32) (bN : Int32) (fN : Int32) (lN_ : Int32) (rN : Int32) (pN : Int32) (twos : Int32) (at_ : Int32) (rdig : Int32) (rpow : Int32) (good : Int32) (txt : Nat → Int32) (wri : Nat → Int32) (ra : Nat → Int32) (rb : Nat → Int32) (rfive : Nat → Int32) (rleft : Nat → Int32) (rright : Nat → Int32) (rpart : Nat → Int32) (n : Nat) (a1 : Int64) (a2 : Int32) (r : Int32 × (Nat → Int32)) (h : F_Rs_layWord n rlaid wri a1 a2 = some r) : Met l y_Rs_layWord (.code y_Rs_layWord b_Rs_layWord 5 none :: BIG) ({ frames := 1, cells := 0, slots := 0, locals := 21 } : Room) (va_Pc [.ref (ad 2), .long a1, .int a2] (gPre D A (tysV cI cL cC) (gM cI cL cC ad X laid gone thr m1 m2 e1 e2 mi1 mi2 na1 na2 fa1 fa2 lets rlen rlaid rgone rthr were none_ beyo aN bN fN lN_ rN pN twos at_ rdig rpow good txt wri ra rb rfive rleft rright rpart))) (gQ D A none (gM cI cL cC ad X laid gone thr m1 m2 e1 e2 mi1 mi2 na1 na2 fa1 fa2 lets rlen r.1 rgone rthr were none_ beyo aN bN fN lN_ rN pN twos at_ rdig rpow good txt r.2 ra rb rfive rleft rright rpart)) 0 0 A := by
  refine gOpen_v rfl (Nat.le_of_ble_eq_true rfl) ?_
  intro p e s m args below meth c Q ls hx hb hml hown hts hT hNB hP hK hD hl hret
  have hown : s.vm.findClass R_Rs = some m.cls := hown
  have hS : va_S A s.heap s.heap [] := va_S.rf
  have hl : lv_has ls 5 [(0, .ref (ad 2)), (1, .long a1), (3, .int a2)] := hl
  have h : (lt_ (((8 : Int32) * a2) - (8 : Int32)) fun x1 => lt_ (fun (rlaid_2 : Int32) (wri_3 : (Nat → Int32)) => some (rlaid_2, wri_3)) fun j33 => F_Rs_layWord_L9 a1 j33 n x1 rlaid wri) = some r := h
  refine lv_bipush hx hb d_Rs_layWord_0 bp_8 ?_
  refine lv_iload_n hx hb d_Rs_layWord_2 rfl (lv_at hl 2 rfl) ?_
  refine lv_imul hx hb d_Rs_layWord_3 ?_
  refine lv_bipush hx hb d_Rs_layWord_4 bp_8 ?_
  refine lv_isub hx hb d_Rs_layWord_6 ?_
  refine lv_topi (fun x1 e_x1 => ?_)
  have h := lt_h e_x1 h
  refine lv_istore hx hb d_Rs_layWord_7 hl (by decide) rfl (fun ls hl => ?_)
  have hl : lv_has ls 5 [(4, .int x1), (0, .ref (ad 2)), (1, .long a1), (3, .int a2)] := hl
  obtain ⟨j33, e_j33, h⟩ := lt_o h
  have hJ33 : ∀ (rlaid_2 : Int32) (wri_3 : (Nat → Int32)) (ls : Array Slot) (H : Heap) (locs : List Loc), lv_has ls 5 [] → va_P D cls (gM cI cL cC ad X laid gone thr m1 m2 e1 e2 mi1 mi2 na1 na2 fa1 fa2 lets rlen rlaid_2 rgone rthr were none_ beyo aN bN fN lN_ rN pN twos at_ rdig rpow good txt wri_3 ra rb rfive rleft rright rpart) H → va_D A (gM cI cL cC ad X laid gone thr m1 m2 e1 e2 mi1 mi2 na1 na2 fa1 fa2 lets rlen rlaid_2 rgone rthr were none_ beyo aN bN fN lN_ rN pN twos at_ rdig rpow good txt wri_3 ra rb rfive rleft rright rpart) → va_S A s.heap H locs → j33 rlaid_2 wri_3 = some r → W p l e ({ frames := 1, cells := 0, slots := 0, locals := 21 } : Room) s m args below meth c H locs 0 0 Q (F0 m 33 ls []) := by
    intro rlaid_2 wri_3 ls H locs hl hP hD hS h
    rw [e_j33] at h
    obtain rfl := Option.some.inj h
    exact hret 33 ls _ _ hP hD hS d_Rs_layWord_33
  have hL9 : ∀ (n : Nat) (y4 : Int32) (rlaid_5 : Int32) (wri_6 : (Nat → Int32)) (ls : Array Slot) (H : Heap) (locs : List Loc), lv_has ls 5 [(0, .ref (ad 2)), (1, .long a1), (4, .int y4)] → va_P D cls (gM cI cL cC ad X laid gone thr m1 m2 e1 e2 mi1 mi2 na1 na2 fa1 fa2 lets rlen rlaid_5 rgone rthr were none_ beyo aN bN fN lN_ rN pN twos at_ rdig rpow good txt wri_6 ra rb rfive rleft rright rpart) H → va_D A (gM cI cL cC ad X laid gone thr m1 m2 e1 e2 mi1 mi2 na1 na2 fa1 fa2 lets rlen rlaid_5 rgone rthr were none_ beyo aN bN fN lN_ rN pN twos at_ rdig rpow good txt wri_6 ra rb rfive rleft rright rpart) → va_S A s.heap H locs → F_Rs_layWord_L9 a1 j33 n y4 rlaid_5 wri_6 = some r → W p l e ({ frames := 1, cells := 0, slots := 0, locals := 21 } : Room) s m args below meth c H locs 0 0 Q (F0 m 9 ls []) := by
    intro n
    induction n with
    | zero => intro y4 rlaid_5 wri_6 ls H locs hl hP hD hS h; exact no_s h
    | succ n ih =>
      intro y4 rlaid_5 wri_6 ls H locs hl hP hD hS h
      have h : (if y4 < 0 then (j33 rlaid_5 wri_6) else ((F_Rs_lay n rlaid_5 wri_6 (((a1 >>> ((y4).toInt64 &&& 63)) &&& (255 : Int64)).toInt32)).bind fun x7 => lt_ (y4 + Int32.ofInt (-8)) fun x8 => F_Rs_layWord_L9 a1 j33 n x8 x7.1 x7.2)) = some r := h
      refine lv_iload hx hb d_Rs_layWord_9 (lv_at hl 2 rfl) ?_
      refine lv_if_lt (tgt := 33) hx hb d_Rs_layWord_11 rfl (fun hc => ?_) (fun hc => ?_)
      · have h := ite_t hc h
        exact hJ33 _ _ ls _ _ (lv_sub hl [] rfl) hP hD hS h
      · have h := ite_f hc h
        refine lv_aload_n hx hb d_Rs_layWord_14 rfl (lv_at hl 0 rfl) ?_
        refine lv_lload_n hx hb d_Rs_layWord_15 rfl (lv_at hl 1 rfl) ?_
        refine lv_iload hx hb d_Rs_layWord_16 (lv_at hl 2 rfl) ?_
        refine lv_lshr hx hb d_Rs_layWord_18 rfl ?_
        refine lv_ldc2 hx hb hown (hT _ m_313) d_Rs_layWord_19 ?_
        refine lv_land hx hb d_Rs_layWord_22 ?_
        refine lv_l2i hx hb d_Rs_layWord_23 rfl ?_
        obtain ⟨x7, e_x7, h⟩ := bd_o h
        refine q_GV (D := D) (A := A) (C := R_Rs) (b := ad 2) (As := [.int (((a1 >>> ((y4).toInt64 &&& 63)) &&& (255 : Int64)).toInt32)]) (rest := []) (n := 1) hx hb hml hown hts (c_Rs_lay l D A cI cL cC ad X laid gone thr m1 m2 e1 e2 mi1 mi2 na1 na2 fa1 fa2 lets rlen rlaid_5 rgone rthr were none_ beyo aN bN fN lN_ rN pN twos at_ rdig rpow good txt wri_6 ra rb rfive rleft rright rpart n (((a1 >>> ((y4).toInt64 &&& 63)) &&& (255 : Int64)).toInt32) x7 e_x7) rfl rfl m_314 m_315 m_316 m_317 m_318 (by decide +kernel) ⟨Nat.le_of_ble_eq_true rfl, Nat.le_of_ble_eq_true rfl⟩ (va_recv hK hP (ci := 5) rfl (q0 := 2) rfl) hNB hK hP hD hS rfl hl.1 rfl (Nat.le_of_ble_eq_true rfl) d_Rs_layWord_24 ⟨Nat.zero_le _, Nat.zero_le _⟩ (fun H locs hP hD hS => ?_)
        have hP : va_P D cls (gM cI cL cC ad X laid gone thr m1 m2 e1 e2 mi1 mi2 na1 na2 fa1 fa2 lets rlen x7.1 rgone rthr were none_ beyo aN bN fN lN_ rN pN twos at_ rdig rpow good txt x7.2 ra rb rfive rleft rright rpart) H := hP
        have hD : va_D A (gM cI cL cC ad X laid gone thr m1 m2 e1 e2 mi1 mi2 na1 na2 fa1 fa2 lets rlen x7.1 rgone rthr were none_ beyo aN bN fN lN_ rN pN twos at_ rdig rpow good txt x7.2 ra rb rfive rleft rright rpart) := hD
        obtain ⟨x8, e_x8⟩ : ∃ z, z = y4 + Int32.ofInt (-8) := ⟨_, rfl⟩
        have h := lt_h e_x8 h
        refine lv_iinc (k := 2) hx hb d_Rs_layWord_27 hl rfl e_x8.symm (by decide) rfl (fun ls hl => ?_)
        have hl : lv_has ls 5 [(4, .int x8), (0, .ref (ad 2)), (1, .long a1)] := hl
        refine lv_goto (tgt := 9) hx hb d_Rs_layWord_30 rfl ?_
        exact ih _ _ _ ls _ _ (lv_sub hl [1, 2, 0] rfl) hP hD hS h
  exact hL9 n _ _ _ ls _ _ (lv_sub hl [1, 2, 0] rfl) hP hD hS h
-- Rs_trimmed
theorem d_Rs_trimmed_0 : decode b_Rs_trimmed 0 = .ok (.iload_n 1, 1) := by decide +kernel
theorem d_Rs_trimmed_1 : decode b_Rs_trimmed 1 = .ok (.istore_n 2, 1) := by decide +kernel
theorem d_Rs_trimmed_2 : decode b_Rs_trimmed 2 = .ok (.iload_n 2, 1) := by decide +kernel
theorem d_Rs_trimmed_3 : decode b_Rs_trimmed 3 = .ok (.ifCond .le 17, 3) := by decide +kernel
theorem d_Rs_trimmed_6 : decode b_Rs_trimmed 6 = .ok (.aload_n 0, 1) := by decide +kernel
theorem d_Rs_trimmed_7 : decode b_Rs_trimmed 7 = .ok (.iload_n 2, 1) := by decide +kernel
theorem d_Rs_trimmed_8 : decode b_Rs_trimmed 8 = .ok (.iconst 1, 1) := by decide +kernel
theorem d_Rs_trimmed_9 : decode b_Rs_trimmed 9 = .ok (.isub, 1) := by decide +kernel
theorem d_Rs_trimmed_10 : decode b_Rs_trimmed 10 = .ok (.iaload, 1) := by decide +kernel
theorem d_Rs_trimmed_11 : decode b_Rs_trimmed 11 = .ok (.ifCond .ne 9, 3) := by decide +kernel
theorem d_Rs_trimmed_14 : decode b_Rs_trimmed 14 = .ok (.iinc 2 (-1), 3) := by decide +kernel
theorem d_Rs_trimmed_17 : decode b_Rs_trimmed 17 = .ok (.goto (-15), 3) := by decide +kernel
theorem d_Rs_trimmed_20 : decode b_Rs_trimmed 20 = .ok (.iload_n 2, 1) := by decide +kernel
theorem d_Rs_trimmed_21 : decode b_Rs_trimmed 21 = .ok (.ireturn, 1) := by decide +kernel
def F_Rs_trimmed_L2 (f0 : Nat → Int32) (j20 : (Int32 → Option (Int32))) : Nat → Int32 → Option (Int32)
  | 0, _ => none
  | n+1, y2 => if y2 ≤ 0 then (j20 y2) else (gz_ (y2 - (1 : Int32) < 0 ∨ 520 ≤ (y2 - (1 : Int32)).toNatClampNeg) <| if ¬ (f0 (y2 - (1 : Int32)).toNatClampNeg) = 0 then (j20 y2) else (lt_ (y2 + Int32.ofInt (-1)) fun x3 => F_Rs_trimmed_L2 f0 j20 n x3))
def F_Rs_trimmed (n : Nat) (f0 : Nat → Int32) (a1 : Int32) : Option (Int32) := lt_ (fun (y1 : Int32) => some y1) fun j20 => F_Rs_trimmed_L2 f0 j20 n a1
set_option maxHeartbeats 4000000 in
set_option maxRecDepth 100000 in
theorem c_Rs_trimmed (l : Launch) (D : va_G) (A : Nat → Prop) (cI cL cC : ClassId) (ws : va_W) (q0 x0 : Nat) (f0 : Nat → Int32) {z0 : Nat × va_E} (hz0 : ws[q0]? = some z0) (n : Nat) (a1 : Int32) (r : Int32) (h : F_Rs_trimmed n f0 a1 = some r) : Met l y_Rs_trimmed (.code y_Rs_trimmed b_Rs_trimmed 3 (some .int) :: BIG) ({ frames := 0, cells := 0, slots := 0, locals := 0 } : Room) (va_Pc [.ref x0, .int a1] (gPre D A (tysV cI cL cC) (wA ws q0 x0 cI 520 f0))) (gQ D A (some (.int r)) (wA ws q0 x0 cI 520 f0)) 0 0 A := by
  refine gOpen_i rfl (Nat.le_of_ble_eq_true rfl) ?_
  intro p e s m args below meth c Q ls hx hb hml hown hts hT hNB hP hK hD hl hret
  have hown : s.vm.findClass R_Rs = some m.cls := hown
  have hS : va_S A s.heap s.heap [] := va_S.rf
  have hl : lv_has ls 3 [(0, .ref x0), (1, .int a1)] := hl
  have hg0 : ∀ (f0 : Nat → Int32), (wA ws q0 x0 cI 520 f0)[q0]? = some (x0, .inl (cI, 520, .inl f0)) := fun f0 => wA_get (List.getElem?_eq_some_iff.mp hz0).1
  have h : (lt_ (fun (y1 : Int32) => some y1) fun j20 => F_Rs_trimmed_L2 f0 j20 n a1) = some r := h
  refine lv_iload_n hx hb d_Rs_trimmed_0 rfl (lv_at hl 1 rfl) ?_
  refine lv_istore_n hx hb d_Rs_trimmed_1 rfl hl (by decide) rfl (fun ls hl => ?_)
  have hl : lv_has ls 3 [(2, .int a1), (0, .ref x0), (1, .int a1)] := hl
  obtain ⟨j20, e_j20, h⟩ := lt_o h
  have hJ20 : ∀ (y1 : Int32) (ls : Array Slot) (H : Heap) (locs : List Loc), lv_has ls 3 [(2, .int y1)] → va_P D cls (wA ws q0 x0 cI 520 f0) H → va_D A (wA ws q0 x0 cI 520 f0) → va_S A s.heap H locs → j20 y1 = some r → W p l e ({ frames := 0, cells := 0, slots := 0, locals := 0 } : Room) s m args below meth c H locs 0 0 Q (F0 m 20 ls []) := by
    intro y1 ls H locs hl hP hD hS h
    rw [e_j20] at h
    refine lv_iload_n hx hb d_Rs_trimmed_20 rfl (lv_at hl 0 rfl) ?_
    obtain rfl := Option.some.inj h
    exact hret 21 ls _ _ _ rfl hP hD hS d_Rs_trimmed_21
  have hL2 : ∀ (n : Nat) (y2 : Int32) (ls : Array Slot) (H : Heap) (locs : List Loc), lv_has ls 3 [(0, .ref x0), (2, .int y2)] → va_P D cls (wA ws q0 x0 cI 520 f0) H → va_D A (wA ws q0 x0 cI 520 f0) → va_S A s.heap H locs → F_Rs_trimmed_L2 f0 j20 n y2 = some r → W p l e ({ frames := 0, cells := 0, slots := 0, locals := 0 } : Room) s m args below meth c H locs 0 0 Q (F0 m 2 ls []) := by
    intro n
    induction n with
    | zero => intro y2 ls H locs hl hP hD hS h; exact no_s h
    | succ n ih =>
      intro y2 ls H locs hl hP hD hS h
      have h : (if y2 ≤ 0 then (j20 y2) else (gz_ (y2 - (1 : Int32) < 0 ∨ 520 ≤ (y2 - (1 : Int32)).toNatClampNeg) <| if ¬ (f0 (y2 - (1 : Int32)).toNatClampNeg) = 0 then (j20 y2) else (lt_ (y2 + Int32.ofInt (-1)) fun x3 => F_Rs_trimmed_L2 f0 j20 n x3))) = some r := h
      refine lv_iload_n hx hb d_Rs_trimmed_2 rfl (lv_at hl 1 rfl) ?_
      refine lv_if_le (tgt := 20) hx hb d_Rs_trimmed_3 rfl (fun hc => ?_) (fun hc => ?_)
      · have h := ite_t hc h
        exact hJ20 _ ls _ _ (lv_sub hl [1] rfl) hP hD hS h
      · have h := ite_f hc h
        refine lv_aload_n hx hb d_Rs_trimmed_6 rfl (lv_at hl 0 rfl) ?_
        refine lv_iload_n hx hb d_Rs_trimmed_7 rfl (lv_at hl 1 rfl) ?_
        refine lv_iconst hx hb d_Rs_trimmed_8 ic_1 ?_
        refine lv_isub hx hb d_Rs_trimmed_9 ?_
        have hi := gz_n h
        have h := gz_h h
        refine va_iald hx hb hK hP q0 0 (hg0 _) rfl hi d_Rs_trimmed_10 ?_
        refine lv_if_ne (tgt := 20) hx hb d_Rs_trimmed_11 rfl (fun hc => ?_) (fun hc => ?_)
        · have h := ite_t hc h
          exact hJ20 _ ls _ _ (lv_sub hl [1] rfl) hP hD hS h
        · have hc := not_not_intro hc
          have h := ite_f hc h
          obtain ⟨x3, e_x3⟩ : ∃ z, z = y2 + Int32.ofInt (-1) := ⟨_, rfl⟩
          have h := lt_h e_x3 h
          refine lv_iinc (k := 1) hx hb d_Rs_trimmed_14 hl rfl e_x3.symm (by decide) rfl (fun ls hl => ?_)
          have hl : lv_has ls 3 [(2, .int x3), (0, .ref x0)] := hl
          refine lv_goto (tgt := 2) hx hb d_Rs_trimmed_17 rfl ?_
          exact ih _ ls _ _ (lv_sub hl [1, 0] rfl) hP hD hS h
  exact hL2 n _ ls _ _ (lv_sub hl [1, 0] rfl) hP hD hS h
-- Rs_set
theorem d_Rs_set_0 : decode b_Rs_set 0 = .ok (.iconst 0, 1) := by decide +kernel
theorem d_Rs_set_1 : decode b_Rs_set 1 = .ok (.istore_n 3, 1) := by decide +kernel
theorem d_Rs_set_2 : decode b_Rs_set 2 = .ok (.iload_n 3, 1) := by decide +kernel
theorem d_Rs_set_3 : decode b_Rs_set 3 = .ok (.iconst 4, 1) := by decide +kernel
theorem d_Rs_set_4 : decode b_Rs_set 4 = .ok (.if_icmp .ge 23, 3) := by decide +kernel
theorem d_Rs_set_7 : decode b_Rs_set 7 = .ok (.aload_n 0, 1) := by decide +kernel
theorem d_Rs_set_8 : decode b_Rs_set 8 = .ok (.iload_n 3, 1) := by decide +kernel
theorem d_Rs_set_9 : decode b_Rs_set 9 = .ok (.lload_n 1, 1) := by decide +kernel
theorem d_Rs_set_10 : decode b_Rs_set 10 = .ok (.bipush 16, 2) := by decide +kernel
theorem d_Rs_set_12 : decode b_Rs_set 12 = .ok (.iload_n 3, 1) := by decide +kernel
theorem d_Rs_set_13 : decode b_Rs_set 13 = .ok (.imul, 1) := by decide +kernel
theorem d_Rs_set_14 : decode b_Rs_set 14 = .ok (.lshr, 1) := by decide +kernel
theorem d_Rs_set_15 : decode b_Rs_set 15 = .ok (.ldc2_w 49, 3) := by decide +kernel
theorem d_Rs_set_18 : decode b_Rs_set 18 = .ok (.land, 1) := by decide +kernel
theorem d_Rs_set_19 : decode b_Rs_set 19 = .ok (.l2i, 1) := by decide +kernel
theorem d_Rs_set_20 : decode b_Rs_set 20 = .ok (.iastore, 1) := by decide +kernel
theorem d_Rs_set_21 : decode b_Rs_set 21 = .ok (.iinc 3 1, 3) := by decide +kernel
theorem d_Rs_set_24 : decode b_Rs_set 24 = .ok (.goto (-22), 3) := by decide +kernel
theorem d_Rs_set_27 : decode b_Rs_set 27 = .ok (.aload_n 0, 1) := by decide +kernel
theorem d_Rs_set_28 : decode b_Rs_set 28 = .ok (.iconst 4, 1) := by decide +kernel
theorem d_Rs_set_29 : decode b_Rs_set 29 = .ok (.invokestatic 51, 3) := by decide +kernel
theorem d_Rs_set_32 : decode b_Rs_set 32 = .ok (.ireturn, 1) := by decide +kernel
def F_Rs_set_L2 (a1 : Int64) (j27 : ((Nat → Int32) → Option (Int32 × (Nat → Int32)))) : Nat → Int32 → (Nat → Int32) → Option (Int32 × (Nat → Int32))
  | 0, _, _ => none
  | n+1, y3, f0_4 => if (4 : Int32) ≤ y3 then (j27 f0_4) else (gz_ (y3 < 0 ∨ 520 ≤ (y3).toNatClampNeg) <| lt_ (upd f0_4 (y3).toNatClampNeg (((a1 >>> (((16 : Int32) * y3).toInt64 &&& 63)) &&& (65535 : Int64)).toInt32)) fun f0_5 => lt_ (y3 + Int32.ofInt 1) fun x6 => F_Rs_set_L2 a1 j27 n x6 f0_5)
def F_Rs_set (n : Nat) (f0 : Nat → Int32) (a1 : Int64) : Option (Int32 × (Nat → Int32)) := lt_ (fun (f0_1 : (Nat → Int32)) => (F_Rs_trimmed n f0_1 (4 : Int32)).bind fun x2 => some (x2, f0_1)) fun j27 => F_Rs_set_L2 a1 j27 n (0 : Int32) f0
set_option maxHeartbeats 4000000 in
set_option maxRecDepth 100000 in
theorem c_Rs_set (l : Launch) (D : va_G) (A : Nat → Prop) (cI cL cC : ClassId) (ws : va_W) (q0 x0 : Nat) (f0 : Nat → Int32) {z0 : Nat × va_E} (hz0 : ws[q0]? = some z0) (n : Nat) (a1 : Int64) (r : Int32 × (Nat → Int32)) (h : F_Rs_set n f0 a1 = some r) : Met l y_Rs_set (.code y_Rs_set b_Rs_set 4 (some .int) :: BIG) ({ frames := 1, cells := 0, slots := 0, locals := 22 } : Room) (va_Pc [.ref x0, .long a1] (gPre D A (tysV cI cL cC) (wA ws q0 x0 cI 520 f0))) (gQ D A (some (.int r.1)) (wA ws q0 x0 cI 520 r.2)) 0 0 A := by
  refine gOpen_i rfl (Nat.le_of_ble_eq_true rfl) ?_
  intro p e s m args below meth c Q ls hx hb hml hown hts hT hNB hP hK hD hl hret
  have hown : s.vm.findClass R_Rs = some m.cls := hown
  have hS : va_S A s.heap s.heap [] := va_S.rf
  have hl : lv_has ls 4 [(0, .ref x0), (1, .long a1)] := hl
  have hg0 : ∀ (f0 : Nat → Int32), (wA ws q0 x0 cI 520 f0)[q0]? = some (x0, .inl (cI, 520, .inl f0)) := fun f0 => wA_get (List.getElem?_eq_some_iff.mp hz0).1
  have h : (lt_ (fun (f0_1 : (Nat → Int32)) => (F_Rs_trimmed n f0_1 (4 : Int32)).bind fun x2 => some (x2, f0_1)) fun j27 => F_Rs_set_L2 a1 j27 n (0 : Int32) f0) = some r := h
  refine lv_iconst hx hb d_Rs_set_0 ic_0 ?_
  refine lv_istore_n hx hb d_Rs_set_1 rfl hl (by decide) rfl (fun ls hl => ?_)
  have hl : lv_has ls 4 [(3, .int (0 : Int32)), (0, .ref x0), (1, .long a1)] := hl
  obtain ⟨j27, e_j27, h⟩ := lt_o h
  have hJ27 : ∀ (f0_1 : (Nat → Int32)) (ls : Array Slot) (H : Heap) (locs : List Loc), lv_has ls 4 [(0, .ref x0)] → va_P D cls (wA ws q0 x0 cI 520 f0_1) H → va_D A (wA ws q0 x0 cI 520 f0_1) → va_S A s.heap H locs → j27 f0_1 = some r → W p l e ({ frames := 1, cells := 0, slots := 0, locals := 22 } : Room) s m args below meth c H locs 0 0 Q (F0 m 27 ls []) := by
    intro f0_1 ls H locs hl hP hD hS h
    rw [e_j27] at h
    refine lv_aload_n hx hb d_Rs_set_27 rfl (lv_at hl 0 rfl) ?_
    refine lv_iconst hx hb d_Rs_set_28 ic_4 ?_
    obtain ⟨x2, e_x2, h⟩ := bd_o h
    refine q_GS (D := D) (A := A) (As := [.ref x0, .int (4 : Int32)]) (rest := []) (n := 2) hx hb hml hown hts (c_Rs_trimmed l D A cI cL cC (ws) q0 x0 f0_1 (hz0 := hz0) n (4 : Int32) x2 e_x2) rfl rfl m_319 m_320 m_321 m_318 (by decide +kernel) ⟨Nat.le_of_ble_eq_true rfl, Nat.le_of_ble_eq_true rfl⟩ hNB hK hP hD hS rfl hl.1 rfl (Nat.le_of_ble_eq_true rfl) d_Rs_set_29 ⟨Nat.zero_le _, Nat.zero_le _⟩ (fun H locs hP hD hS => ?_)
    have hP : va_P D cls (wA ws q0 x0 cI 520 f0_1) H := hP
    have hD : va_D A (wA ws q0 x0 cI 520 f0_1) := hD
    obtain rfl := Option.some.inj h
    exact hret 32 ls _ _ _ rfl hP hD hS d_Rs_set_32
  have hL2 : ∀ (n : Nat) (y3 : Int32) (f0_4 : (Nat → Int32)) (ls : Array Slot) (H : Heap) (locs : List Loc), lv_has ls 4 [(0, .ref x0), (1, .long a1), (3, .int y3)] → va_P D cls (wA ws q0 x0 cI 520 f0_4) H → va_D A (wA ws q0 x0 cI 520 f0_4) → va_S A s.heap H locs → F_Rs_set_L2 a1 j27 n y3 f0_4 = some r → W p l e ({ frames := 1, cells := 0, slots := 0, locals := 22 } : Room) s m args below meth c H locs 0 0 Q (F0 m 2 ls []) := by
    intro n
    induction n with
    | zero => intro y3 f0_4 ls H locs hl hP hD hS h; exact no_s h
    | succ n ih =>
      intro y3 f0_4 ls H locs hl hP hD hS h
      have h : (if (4 : Int32) ≤ y3 then (j27 f0_4) else (gz_ (y3 < 0 ∨ 520 ≤ (y3).toNatClampNeg) <| lt_ (upd f0_4 (y3).toNatClampNeg (((a1 >>> (((16 : Int32) * y3).toInt64 &&& 63)) &&& (65535 : Int64)).toInt32)) fun f0_5 => lt_ (y3 + Int32.ofInt 1) fun x6 => F_Rs_set_L2 a1 j27 n x6 f0_5)) = some r := h
      refine lv_iload_n hx hb d_Rs_set_2 rfl (lv_at hl 2 rfl) ?_
      refine lv_iconst hx hb d_Rs_set_3 ic_4 ?_
      refine lv_icmp_ge (tgt := 27) hx hb d_Rs_set_4 rfl (fun hc => ?_) (fun hc => ?_)
      · have h := ite_t hc h
        exact hJ27 _ ls _ _ (lv_sub hl [0] rfl) hP hD hS h
      · have h := ite_f hc h
        refine lv_aload_n hx hb d_Rs_set_7 rfl (lv_at hl 0 rfl) ?_
        refine lv_iload_n hx hb d_Rs_set_8 rfl (lv_at hl 2 rfl) ?_
        refine lv_lload_n hx hb d_Rs_set_9 rfl (lv_at hl 1 rfl) ?_
        refine lv_bipush hx hb d_Rs_set_10 bp_16 ?_
        refine lv_iload_n hx hb d_Rs_set_12 rfl (lv_at hl 2 rfl) ?_
        refine lv_imul hx hb d_Rs_set_13 ?_
        refine lv_lshr hx hb d_Rs_set_14 rfl ?_
        refine lv_ldc2 hx hb hown (hT _ m_322) d_Rs_set_15 ?_
        refine lv_land hx hb d_Rs_set_18 ?_
        refine lv_l2i hx hb d_Rs_set_19 rfl ?_
        have hi := gz_n h
        have h := gz_h h
        refine va_iast hx hb hK hP hD hS q0 0 (hg0 _) rfl hi d_Rs_set_20 (fun H locs hP hD hS => ?_)
        rw [wA_set] at hP hD
        have hP : va_P D cls (wA ws q0 x0 cI 520 (upd f0_4 (y3).toNatClampNeg (((a1 >>> (((16 : Int32) * y3).toInt64 &&& 63)) &&& (65535 : Int64)).toInt32))) H := hP
        have hD : va_D A (wA ws q0 x0 cI 520 (upd f0_4 (y3).toNatClampNeg (((a1 >>> (((16 : Int32) * y3).toInt64 &&& 63)) &&& (65535 : Int64)).toInt32))) := hD
        obtain ⟨f0_5, e_f0_5, h⟩ := lt_o h
        rw [← e_f0_5] at hP hD
        obtain ⟨x6, e_x6⟩ : ∃ z, z = y3 + Int32.ofInt 1 := ⟨_, rfl⟩
        have h := lt_h e_x6 h
        refine lv_iinc (k := 2) hx hb d_Rs_set_21 hl rfl e_x6.symm (by decide) rfl (fun ls hl => ?_)
        have hl : lv_has ls 4 [(3, .int x6), (0, .ref x0), (1, .long a1)] := hl
        refine lv_goto (tgt := 2) hx hb d_Rs_set_24 rfl ?_
        exact ih _ _ ls _ _ (lv_sub hl [1, 2, 0] rfl) hP hD hS h
  exact hL2 n _ _ ls _ _ (lv_sub hl [1, 2, 0] rfl) hP hD hS h
-- Rs_grow
theorem d_Rs_grow_0 : decode b_Rs_grow 0 = .ok (.iload_n 3, 1) := by decide +kernel
theorem d_Rs_grow_1 : decode b_Rs_grow 1 = .ok (.i2l, 1) := by decide +kernel
theorem d_Rs_grow_2 : decode b_Rs_grow 2 = .ok (.lstore 4, 2) := by decide +kernel
theorem d_Rs_grow_4 : decode b_Rs_grow 4 = .ok (.iconst 0, 1) := by decide +kernel
theorem d_Rs_grow_5 : decode b_Rs_grow 5 = .ok (.istore 6, 2) := by decide +kernel
theorem d_Rs_grow_7 : decode b_Rs_grow 7 = .ok (.iload 6, 2) := by decide +kernel
theorem d_Rs_grow_9 : decode b_Rs_grow 9 = .ok (.iload_n 1, 1) := by decide +kernel
theorem d_Rs_grow_10 : decode b_Rs_grow 10 = .ok (.if_icmp .ge 40, 3) := by decide +kernel
theorem d_Rs_grow_13 : decode b_Rs_grow 13 = .ok (.aload_n 0, 1) := by decide +kernel
theorem d_Rs_grow_14 : decode b_Rs_grow 14 = .ok (.iload 6, 2) := by decide +kernel
theorem d_Rs_grow_16 : decode b_Rs_grow 16 = .ok (.iaload, 1) := by decide +kernel
theorem d_Rs_grow_17 : decode b_Rs_grow 17 = .ok (.i2l, 1) := by decide +kernel
theorem d_Rs_grow_18 : decode b_Rs_grow 18 = .ok (.iload_n 2, 1) := by decide +kernel
theorem d_Rs_grow_19 : decode b_Rs_grow 19 = .ok (.i2l, 1) := by decide +kernel
theorem d_Rs_grow_20 : decode b_Rs_grow 20 = .ok (.lmul, 1) := by decide +kernel
theorem d_Rs_grow_21 : decode b_Rs_grow 21 = .ok (.lload 4, 2) := by decide +kernel
theorem d_Rs_grow_23 : decode b_Rs_grow 23 = .ok (.ladd, 1) := by decide +kernel
theorem d_Rs_grow_24 : decode b_Rs_grow 24 = .ok (.lstore 7, 2) := by decide +kernel
theorem d_Rs_grow_26 : decode b_Rs_grow 26 = .ok (.aload_n 0, 1) := by decide +kernel
theorem d_Rs_grow_27 : decode b_Rs_grow 27 = .ok (.iload 6, 2) := by decide +kernel
theorem d_Rs_grow_29 : decode b_Rs_grow 29 = .ok (.lload 7, 2) := by decide +kernel
theorem d_Rs_grow_31 : decode b_Rs_grow 31 = .ok (.ldc2_w 49, 3) := by decide +kernel
theorem d_Rs_grow_34 : decode b_Rs_grow 34 = .ok (.land, 1) := by decide +kernel
theorem d_Rs_grow_35 : decode b_Rs_grow 35 = .ok (.l2i, 1) := by decide +kernel
theorem d_Rs_grow_36 : decode b_Rs_grow 36 = .ok (.iastore, 1) := by decide +kernel
theorem d_Rs_grow_37 : decode b_Rs_grow 37 = .ok (.lload 7, 2) := by decide +kernel
theorem d_Rs_grow_39 : decode b_Rs_grow 39 = .ok (.bipush 16, 2) := by decide +kernel
theorem d_Rs_grow_41 : decode b_Rs_grow 41 = .ok (.lshr, 1) := by decide +kernel
theorem d_Rs_grow_42 : decode b_Rs_grow 42 = .ok (.lstore 4, 2) := by decide +kernel
theorem d_Rs_grow_44 : decode b_Rs_grow 44 = .ok (.iinc 6 1, 3) := by decide +kernel
theorem d_Rs_grow_47 : decode b_Rs_grow 47 = .ok (.goto (-40), 3) := by decide +kernel
theorem d_Rs_grow_50 : decode b_Rs_grow 50 = .ok (.aload_n 0, 1) := by decide +kernel
theorem d_Rs_grow_51 : decode b_Rs_grow 51 = .ok (.iload_n 1, 1) := by decide +kernel
theorem d_Rs_grow_52 : decode b_Rs_grow 52 = .ok (.lload 4, 2) := by decide +kernel
theorem d_Rs_grow_54 : decode b_Rs_grow 54 = .ok (.l2i, 1) := by decide +kernel
theorem d_Rs_grow_55 : decode b_Rs_grow 55 = .ok (.iastore, 1) := by decide +kernel
theorem d_Rs_grow_56 : decode b_Rs_grow 56 = .ok (.aload_n 0, 1) := by decide +kernel
theorem d_Rs_grow_57 : decode b_Rs_grow 57 = .ok (.iload_n 1, 1) := by decide +kernel
theorem d_Rs_grow_58 : decode b_Rs_grow 58 = .ok (.iconst 1, 1) := by decide +kernel
theorem d_Rs_grow_59 : decode b_Rs_grow 59 = .ok (.iadd, 1) := by decide +kernel
theorem d_Rs_grow_60 : decode b_Rs_grow 60 = .ok (.invokestatic 51, 3) := by decide +kernel
theorem d_Rs_grow_63 : decode b_Rs_grow 63 = .ok (.ireturn, 1) := by decide +kernel
def F_Rs_grow_L7 (a1 : Int32) (a2 : Int32) (j50 : (Int64 → (Nat → Int32) → Option (Int32 × (Nat → Int32)))) : Nat → Int64 → Int32 → (Nat → Int32) → Option (Int32 × (Nat → Int32))
  | 0, _, _, _ => none
  | n+1, y6, y7, f0_8 => if a1 ≤ y7 then (j50 y6 f0_8) else (gz_ (y7 < 0 ∨ 520 ≤ (y7).toNatClampNeg) <| lt_ ((((f0_8 (y7).toNatClampNeg).toInt64) * ((a2).toInt64)) + y6) fun x9 => gz_ (y7 < 0 ∨ 520 ≤ (y7).toNatClampNeg) <| lt_ (upd f0_8 (y7).toNatClampNeg ((x9 &&& (65535 : Int64)).toInt32)) fun f0_10 => lt_ (x9 >>> (((16 : Int32)).toInt64 &&& 63)) fun x11 => lt_ (y7 + Int32.ofInt 1) fun x12 => F_Rs_grow_L7 a1 a2 j50 n x11 x12 f0_10)
def F_Rs_grow (n : Nat) (f0 : Nat → Int32) (a1 : Int32) (a2 : Int32) (a3 : Int32) : Option (Int32 × (Nat → Int32)) := lt_ ((a3).toInt64) fun x1 => lt_ (fun (y2 : Int64) (f0_3 : (Nat → Int32)) => gz_ (a1 < 0 ∨ 520 ≤ (a1).toNatClampNeg) <| lt_ (upd f0_3 (a1).toNatClampNeg ((y2).toInt32)) fun f0_4 => (F_Rs_trimmed n f0_4 (a1 + (1 : Int32))).bind fun x5 => some (x5, f0_4)) fun j50 => F_Rs_grow_L7 a1 a2 j50 n x1 (0 : Int32) f0
set_option maxHeartbeats 4000000 in
set_option maxRecDepth 100000 in
theorem c_Rs_grow (l : Launch) (D : va_G) (A : Nat → Prop) (cI cL cC : ClassId) (ws : va_W) (q0 x0 : Nat) (f0 : Nat → Int32) {z0 : Nat × va_E} (hz0 : ws[q0]? = some z0) (n : Nat) (a1 : Int32) (a2 : Int32) (a3 : Int32) (r : Int32 × (Nat → Int32)) (h : F_Rs_grow n f0 a1 a2 a3 = some r) : Met l y_Rs_grow (.code y_Rs_grow b_Rs_grow 9 (some .int) :: BIG) ({ frames := 1, cells := 0, slots := 0, locals := 22 } : Room) (va_Pc [.ref x0, .int a1, .int a2, .int a3] (gPre D A (tysV cI cL cC) (wA ws q0 x0 cI 520 f0))) (gQ D A (some (.int r.1)) (wA ws q0 x0 cI 520 r.2)) 0 0 A := by
  refine gOpen_i rfl (Nat.le_of_ble_eq_true rfl) ?_
  intro p e s m args below meth c Q ls hx hb hml hown hts hT hNB hP hK hD hl hret
  have hown : s.vm.findClass R_Rs = some m.cls := hown
  have hS : va_S A s.heap s.heap [] := va_S.rf
  have hl : lv_has ls 9 [(0, .ref x0), (1, .int a1), (2, .int a2), (3, .int a3)] := hl
  have hg0 : ∀ (f0 : Nat → Int32), (wA ws q0 x0 cI 520 f0)[q0]? = some (x0, .inl (cI, 520, .inl f0)) := fun f0 => wA_get (List.getElem?_eq_some_iff.mp hz0).1
  have h : (lt_ ((a3).toInt64) fun x1 => lt_ (fun (y2 : Int64) (f0_3 : (Nat → Int32)) => gz_ (a1 < 0 ∨ 520 ≤ (a1).toNatClampNeg) <| lt_ (upd f0_3 (a1).toNatClampNeg ((y2).toInt32)) fun f0_4 => (F_Rs_trimmed n f0_4 (a1 + (1 : Int32))).bind fun x5 => some (x5, f0_4)) fun j50 => F_Rs_grow_L7 a1 a2 j50 n x1 (0 : Int32) f0) = some r := h
  refine lv_iload_n hx hb d_Rs_grow_0 rfl (lv_at hl 3 rfl) ?_
  refine lv_i2l hx hb d_Rs_grow_1 rfl ?_
  refine lv_topl (fun x1 e_x1 => ?_)
  have h := lt_h e_x1 h
  refine lv_lstore hx hb d_Rs_grow_2 hl (by decide) rfl (fun ls hl => ?_)
  have hl : lv_has ls 9 [(4, .long x1), (0, .ref x0), (1, .int a1), (2, .int a2), (3, .int a3)] := hl
  refine lv_iconst hx hb d_Rs_grow_4 ic_0 ?_
  refine lv_istore hx hb d_Rs_grow_5 hl (by decide) rfl (fun ls hl => ?_)
  have hl : lv_has ls 9 [(6, .int (0 : Int32)), (4, .long x1), (0, .ref x0), (1, .int a1), (2, .int a2), (3, .int a3)] := hl
  obtain ⟨j50, e_j50, h⟩ := lt_o h
  have hJ50 : ∀ (y2 : Int64) (f0_3 : (Nat → Int32)) (ls : Array Slot) (H : Heap) (locs : List Loc), lv_has ls 9 [(0, .ref x0), (1, .int a1), (4, .long y2)] → va_P D cls (wA ws q0 x0 cI 520 f0_3) H → va_D A (wA ws q0 x0 cI 520 f0_3) → va_S A s.heap H locs → j50 y2 f0_3 = some r → W p l e ({ frames := 1, cells := 0, slots := 0, locals := 22 } : Room) s m args below meth c H locs 0 0 Q (F0 m 50 ls []) := by
    intro y2 f0_3 ls H locs hl hP hD hS h
    rw [e_j50] at h
    refine lv_aload_n hx hb d_Rs_grow_50 rfl (lv_at hl 0 rfl) ?_
    refine lv_iload_n hx hb d_Rs_grow_51 rfl (lv_at hl 1 rfl) ?_
    refine lv_lload hx hb d_Rs_grow_52 (lv_at hl 2 rfl) ?_
    refine lv_l2i hx hb d_Rs_grow_54 rfl ?_
    have hi := gz_n h
    have h := gz_h h
    refine va_iast hx hb hK hP hD hS q0 0 (hg0 _) rfl hi d_Rs_grow_55 (fun H locs hP hD hS => ?_)
    rw [wA_set] at hP hD
    have hP : va_P D cls (wA ws q0 x0 cI 520 (upd f0_3 (a1).toNatClampNeg ((y2).toInt32))) H := hP
    have hD : va_D A (wA ws q0 x0 cI 520 (upd f0_3 (a1).toNatClampNeg ((y2).toInt32))) := hD
    obtain ⟨f0_4, e_f0_4, h⟩ := lt_o h
    rw [← e_f0_4] at hP hD
    refine lv_aload_n hx hb d_Rs_grow_56 rfl (lv_at hl 0 rfl) ?_
    refine lv_iload_n hx hb d_Rs_grow_57 rfl (lv_at hl 1 rfl) ?_
    refine lv_iconst hx hb d_Rs_grow_58 ic_1 ?_
    refine lv_iadd hx hb d_Rs_grow_59 ?_
    obtain ⟨x5, e_x5, h⟩ := bd_o h
    refine q_GS (D := D) (A := A) (As := [.ref x0, .int (a1 + (1 : Int32))]) (rest := []) (n := 2) hx hb hml hown hts (c_Rs_trimmed l D A cI cL cC (ws) q0 x0 f0_4 (hz0 := hz0) n (a1 + (1 : Int32)) x5 e_x5) rfl rfl m_319 m_320 m_321 m_318 (by decide +kernel) ⟨Nat.le_of_ble_eq_true rfl, Nat.le_of_ble_eq_true rfl⟩ hNB hK hP hD hS rfl hl.1 rfl (Nat.le_of_ble_eq_true rfl) d_Rs_grow_60 ⟨Nat.zero_le _, Nat.zero_le _⟩ (fun H locs hP hD hS => ?_)
    have hP : va_P D cls (wA ws q0 x0 cI 520 f0_4) H := hP
    have hD : va_D A (wA ws q0 x0 cI 520 f0_4) := hD
    obtain rfl := Option.some.inj h
    exact hret 63 ls _ _ _ rfl hP hD hS d_Rs_grow_63
  have hL7 : ∀ (n : Nat) (y6 : Int64) (y7 : Int32) (f0_8 : (Nat → Int32)) (ls : Array Slot) (H : Heap) (locs : List Loc), lv_has ls 9 [(0, .ref x0), (1, .int a1), (2, .int a2), (4, .long y6), (6, .int y7)] → va_P D cls (wA ws q0 x0 cI 520 f0_8) H → va_D A (wA ws q0 x0 cI 520 f0_8) → va_S A s.heap H locs → F_Rs_grow_L7 a1 a2 j50 n y6 y7 f0_8 = some r → W p l e ({ frames := 1, cells := 0, slots := 0, locals := 22 } : Room) s m args below meth c H locs 0 0 Q (F0 m 7 ls []) := by
    intro n
    induction n with
    | zero => intro y6 y7 f0_8 ls H locs hl hP hD hS h; exact no_s h
    | succ n ih =>
      intro y6 y7 f0_8 ls H locs hl hP hD hS h
      have h : (if a1 ≤ y7 then (j50 y6 f0_8) else (gz_ (y7 < 0 ∨ 520 ≤ (y7).toNatClampNeg) <| lt_ ((((f0_8 (y7).toNatClampNeg).toInt64) * ((a2).toInt64)) + y6) fun x9 => gz_ (y7 < 0 ∨ 520 ≤ (y7).toNatClampNeg) <| lt_ (upd f0_8 (y7).toNatClampNeg ((x9 &&& (65535 : Int64)).toInt32)) fun f0_10 => lt_ (x9 >>> (((16 : Int32)).toInt64 &&& 63)) fun x11 => lt_ (y7 + Int32.ofInt 1) fun x12 => F_Rs_grow_L7 a1 a2 j50 n x11 x12 f0_10)) = some r := h
      refine lv_iload hx hb d_Rs_grow_7 (lv_at hl 4 rfl) ?_
      refine lv_iload_n hx hb d_Rs_grow_9 rfl (lv_at hl 1 rfl) ?_
      refine lv_icmp_ge (tgt := 50) hx hb d_Rs_grow_10 rfl (fun hc => ?_) (fun hc => ?_)
      · have h := ite_t hc h
        exact hJ50 _ _ ls _ _ (lv_sub hl [0, 1, 3] rfl) hP hD hS h
      · have h := ite_f hc h
        refine lv_aload_n hx hb d_Rs_grow_13 rfl (lv_at hl 0 rfl) ?_
        refine lv_iload hx hb d_Rs_grow_14 (lv_at hl 4 rfl) ?_
        have hi := gz_n h
        have h := gz_h h
        refine va_iald hx hb hK hP q0 0 (hg0 _) rfl hi d_Rs_grow_16 ?_
        refine lv_i2l hx hb d_Rs_grow_17 rfl ?_
        refine lv_iload_n hx hb d_Rs_grow_18 rfl (lv_at hl 2 rfl) ?_
        refine lv_i2l hx hb d_Rs_grow_19 rfl ?_
        refine lv_lmul hx hb d_Rs_grow_20 ?_
        refine lv_lload hx hb d_Rs_grow_21 (lv_at hl 3 rfl) ?_
        refine lv_ladd hx hb d_Rs_grow_23 ?_
        refine lv_topl (fun x9 e_x9 => ?_)
        have h := lt_h e_x9 h
        refine lv_lstore hx hb d_Rs_grow_24 hl (by decide) rfl (fun ls hl => ?_)
        have hl : lv_has ls 9 [(7, .long x9), (0, .ref x0), (1, .int a1), (2, .int a2), (4, .long y6), (6, .int y7)] := hl
        refine lv_aload_n hx hb d_Rs_grow_26 rfl (lv_at hl 1 rfl) ?_
        refine lv_iload hx hb d_Rs_grow_27 (lv_at hl 5 rfl) ?_
        refine lv_lload hx hb d_Rs_grow_29 (lv_at hl 0 rfl) ?_
        refine lv_ldc2 hx hb hown (hT _ m_322) d_Rs_grow_31 ?_
        refine lv_land hx hb d_Rs_grow_34 ?_
        refine lv_l2i hx hb d_Rs_grow_35 rfl ?_
        have hi := gz_n h
        have h := gz_h h
        refine va_iast hx hb hK hP hD hS q0 0 (hg0 _) rfl hi d_Rs_grow_36 (fun H locs hP hD hS => ?_)
        rw [wA_set] at hP hD
        have hP : va_P D cls (wA ws q0 x0 cI 520 (upd f0_8 (y7).toNatClampNeg ((x9 &&& (65535 : Int64)).toInt32))) H := hP
        have hD : va_D A (wA ws q0 x0 cI 520 (upd f0_8 (y7).toNatClampNeg ((x9 &&& (65535 : Int64)).toInt32))) := hD
        obtain ⟨f0_10, e_f0_10, h⟩ := lt_o h
        rw [← e_f0_10] at hP hD
        refine lv_lload hx hb d_Rs_grow_37 (lv_at hl 0 rfl) ?_
        refine lv_bipush hx hb d_Rs_grow_39 bp_16 ?_
        refine lv_lshr hx hb d_Rs_grow_41 rfl ?_
        refine lv_topl (fun x11 e_x11 => ?_)
        have h := lt_h e_x11 h
        refine lv_lstore hx hb d_Rs_grow_42 hl (by decide) rfl (fun ls hl => ?_)
        have hl : lv_has ls 9 [(4, .long x11), (7, .long x9), (0, .ref x0), (1, .int a1), (2, .int a2), (6, .int y7)] := hl
        obtain ⟨x12, e_x12⟩ : ∃ z, z = y7 + Int32.ofInt 1 := ⟨_, rfl⟩
        have h := lt_h e_x12 h
        refine lv_iinc (k := 5) hx hb d_Rs_grow_44 hl rfl e_x12.symm (by decide) rfl (fun ls hl => ?_)
        have hl : lv_has ls 9 [(6, .int x12), (4, .long x11), (7, .long x9), (0, .ref x0), (1, .int a1), (2, .int a2)] := hl
        refine lv_goto (tgt := 7) hx hb d_Rs_grow_47 rfl ?_
        exact ih _ _ _ ls _ _ (lv_sub hl [3, 4, 5, 1, 0] rfl) hP hD hS h
  exact hL7 n _ _ _ ls _ _ (lv_sub hl [2, 3, 4, 1, 0] rfl) hP hD hS h
-- Rs_fives
theorem d_Rs_fives_0 : decode b_Rs_fives 0 = .ok (.iload_n 1, 1) := by decide +kernel
theorem d_Rs_fives_1 : decode b_Rs_fives 1 = .ok (.istore_n 3, 1) := by decide +kernel
theorem d_Rs_fives_2 : decode b_Rs_fives 2 = .ok (.iconst 0, 1) := by decide +kernel
theorem d_Rs_fives_3 : decode b_Rs_fives 3 = .ok (.istore 4, 2) := by decide +kernel
theorem d_Rs_fives_5 : decode b_Rs_fives 5 = .ok (.iload 4, 2) := by decide +kernel
theorem d_Rs_fives_7 : decode b_Rs_fives 7 = .ok (.iload_n 2, 1) := by decide +kernel
theorem d_Rs_fives_8 : decode b_Rs_fives 8 = .ok (.if_icmp .ge 17, 3) := by decide +kernel
theorem d_Rs_fives_11 : decode b_Rs_fives 11 = .ok (.aload_n 0, 1) := by decide +kernel
theorem d_Rs_fives_12 : decode b_Rs_fives 12 = .ok (.iload_n 3, 1) := by decide +kernel
theorem d_Rs_fives_13 : decode b_Rs_fives 13 = .ok (.iconst 5, 1) := by decide +kernel
theorem d_Rs_fives_14 : decode b_Rs_fives 14 = .ok (.iconst 0, 1) := by decide +kernel
theorem d_Rs_fives_15 : decode b_Rs_fives 15 = .ok (.invokestatic 55, 3) := by decide +kernel
theorem d_Rs_fives_18 : decode b_Rs_fives 18 = .ok (.istore_n 3, 1) := by decide +kernel
theorem d_Rs_fives_19 : decode b_Rs_fives 19 = .ok (.iinc 4 1, 3) := by decide +kernel
theorem d_Rs_fives_22 : decode b_Rs_fives 22 = .ok (.goto (-17), 3) := by decide +kernel
theorem d_Rs_fives_25 : decode b_Rs_fives 25 = .ok (.iload_n 3, 1) := by decide +kernel
theorem d_Rs_fives_26 : decode b_Rs_fives 26 = .ok (.ireturn, 1) := by decide +kernel
def F_Rs_fives_L5 (a2 : Int32) (j25 : (Int32 → (Nat → Int32) → Option (Int32 × (Nat → Int32)))) : Nat → Int32 → Int32 → (Nat → Int32) → Option (Int32 × (Nat → Int32))
  | 0, _, _, _ => none
  | n+1, y3, y4, f0_5 => if a2 ≤ y4 then (j25 y3 f0_5) else ((F_Rs_grow n f0_5 y3 (5 : Int32) (0 : Int32)).bind fun x6 => lt_ (y4 + Int32.ofInt 1) fun x7 => F_Rs_fives_L5 a2 j25 n x6.1 x7 x6.2)
def F_Rs_fives (n : Nat) (f0 : Nat → Int32) (a1 : Int32) (a2 : Int32) : Option (Int32 × (Nat → Int32)) := lt_ (fun (y1 : Int32) (f0_2 : (Nat → Int32)) => some (y1, f0_2)) fun j25 => F_Rs_fives_L5 a2 j25 n a1 (0 : Int32) f0
set_option maxHeartbeats 4000000 in
set_option maxRecDepth 100000 in
theorem c_Rs_fives (l : Launch) (D : va_G) (A : Nat → Prop) (cI cL cC : ClassId) (ws : va_W) (q0 x0 : Nat) (f0 : Nat → Int32) {z0 : Nat × va_E} (hz0 : ws[q0]? = some z0) (n : Nat) (a1 : Int32) (a2 : Int32) (r : Int32 × (Nat → Int32)) (h : F_Rs_fives n f0 a1 a2 = some r) : Met l y_Rs_fives (.code y_Rs_fives b_Rs_fives 5 (some .int) :: BIG) ({ frames := 2, cells := 0, slots := 0, locals := 50 } : Room) (va_Pc [.ref x0, .int a1, .int a2] (gPre D A (tysV cI cL cC) (wA ws q0 x0 cI 520 f0))) (gQ D A (some (.int r.1)) (wA ws q0 x0 cI 520 r.2)) 0 0 A := by
  refine gOpen_i rfl (Nat.le_of_ble_eq_true rfl) ?_
  intro p e s m args below meth c Q ls hx hb hml hown hts hT hNB hP hK hD hl hret
  have hown : s.vm.findClass R_Rs = some m.cls := hown
  have hS : va_S A s.heap s.heap [] := va_S.rf
  have hl : lv_has ls 5 [(0, .ref x0), (1, .int a1), (2, .int a2)] := hl
  have hg0 : ∀ (f0 : Nat → Int32), (wA ws q0 x0 cI 520 f0)[q0]? = some (x0, .inl (cI, 520, .inl f0)) := fun f0 => wA_get (List.getElem?_eq_some_iff.mp hz0).1
  have h : (lt_ (fun (y1 : Int32) (f0_2 : (Nat → Int32)) => some (y1, f0_2)) fun j25 => F_Rs_fives_L5 a2 j25 n a1 (0 : Int32) f0) = some r := h
  refine lv_iload_n hx hb d_Rs_fives_0 rfl (lv_at hl 1 rfl) ?_
  refine lv_istore_n hx hb d_Rs_fives_1 rfl hl (by decide) rfl (fun ls hl => ?_)
  have hl : lv_has ls 5 [(3, .int a1), (0, .ref x0), (1, .int a1), (2, .int a2)] := hl
  refine lv_iconst hx hb d_Rs_fives_2 ic_0 ?_
  refine lv_istore hx hb d_Rs_fives_3 hl (by decide) rfl (fun ls hl => ?_)
  have hl : lv_has ls 5 [(4, .int (0 : Int32)), (3, .int a1), (0, .ref x0), (1, .int a1), (2, .int a2)] := hl
  obtain ⟨j25, e_j25, h⟩ := lt_o h
  have hJ25 : ∀ (y1 : Int32) (f0_2 : (Nat → Int32)) (ls : Array Slot) (H : Heap) (locs : List Loc), lv_has ls 5 [(3, .int y1)] → va_P D cls (wA ws q0 x0 cI 520 f0_2) H → va_D A (wA ws q0 x0 cI 520 f0_2) → va_S A s.heap H locs → j25 y1 f0_2 = some r → W p l e ({ frames := 2, cells := 0, slots := 0, locals := 50 } : Room) s m args below meth c H locs 0 0 Q (F0 m 25 ls []) := by
    intro y1 f0_2 ls H locs hl hP hD hS h
    rw [e_j25] at h
    refine lv_iload_n hx hb d_Rs_fives_25 rfl (lv_at hl 0 rfl) ?_
    obtain rfl := Option.some.inj h
    exact hret 26 ls _ _ _ rfl hP hD hS d_Rs_fives_26
  have hL5 : ∀ (n : Nat) (y3 : Int32) (y4 : Int32) (f0_5 : (Nat → Int32)) (ls : Array Slot) (H : Heap) (locs : List Loc), lv_has ls 5 [(0, .ref x0), (2, .int a2), (3, .int y3), (4, .int y4)] → va_P D cls (wA ws q0 x0 cI 520 f0_5) H → va_D A (wA ws q0 x0 cI 520 f0_5) → va_S A s.heap H locs → F_Rs_fives_L5 a2 j25 n y3 y4 f0_5 = some r → W p l e ({ frames := 2, cells := 0, slots := 0, locals := 50 } : Room) s m args below meth c H locs 0 0 Q (F0 m 5 ls []) := by
    intro n
    induction n with
    | zero => intro y3 y4 f0_5 ls H locs hl hP hD hS h; exact no_s h
    | succ n ih =>
      intro y3 y4 f0_5 ls H locs hl hP hD hS h
      have h : (if a2 ≤ y4 then (j25 y3 f0_5) else ((F_Rs_grow n f0_5 y3 (5 : Int32) (0 : Int32)).bind fun x6 => lt_ (y4 + Int32.ofInt 1) fun x7 => F_Rs_fives_L5 a2 j25 n x6.1 x7 x6.2)) = some r := h
      refine lv_iload hx hb d_Rs_fives_5 (lv_at hl 3 rfl) ?_
      refine lv_iload_n hx hb d_Rs_fives_7 rfl (lv_at hl 1 rfl) ?_
      refine lv_icmp_ge (tgt := 25) hx hb d_Rs_fives_8 rfl (fun hc => ?_) (fun hc => ?_)
      · have h := ite_t hc h
        exact hJ25 _ _ ls _ _ (lv_sub hl [2] rfl) hP hD hS h
      · have h := ite_f hc h
        refine lv_aload_n hx hb d_Rs_fives_11 rfl (lv_at hl 0 rfl) ?_
        refine lv_iload_n hx hb d_Rs_fives_12 rfl (lv_at hl 2 rfl) ?_
        refine lv_iconst hx hb d_Rs_fives_13 ic_5 ?_
        refine lv_iconst hx hb d_Rs_fives_14 ic_0 ?_
        obtain ⟨x6, e_x6, h⟩ := bd_o h
        refine q_GS (D := D) (A := A) (As := [.ref x0, .int y3, .int (5 : Int32), .int (0 : Int32)]) (rest := []) (n := 4) hx hb hml hown hts (c_Rs_grow l D A cI cL cC (ws) q0 x0 f0_5 (hz0 := hz0) n y3 (5 : Int32) (0 : Int32) x6 e_x6) rfl rfl m_323 m_324 m_325 m_318 (by decide +kernel) ⟨Nat.le_of_ble_eq_true rfl, Nat.le_of_ble_eq_true rfl⟩ hNB hK hP hD hS rfl hl.1 rfl (Nat.le_of_ble_eq_true rfl) d_Rs_fives_15 ⟨Nat.zero_le _, Nat.zero_le _⟩ (fun H locs hP hD hS => ?_)
        have hP : va_P D cls (wA ws q0 x0 cI 520 x6.2) H := hP
        have hD : va_D A (wA ws q0 x0 cI 520 x6.2) := hD
        refine lv_istore_n hx hb d_Rs_fives_18 rfl hl (by decide) rfl (fun ls hl => ?_)
        have hl : lv_has ls 5 [(3, .int x6.1), (0, .ref x0), (2, .int a2), (4, .int y4)] := hl
        obtain ⟨x7, e_x7⟩ : ∃ z, z = y4 + Int32.ofInt 1 := ⟨_, rfl⟩
        have h := lt_h e_x7 h
        refine lv_iinc (k := 3) hx hb d_Rs_fives_19 hl rfl e_x7.symm (by decide) rfl (fun ls hl => ?_)
        have hl : lv_has ls 5 [(4, .int x7), (3, .int x6.1), (0, .ref x0), (2, .int a2)] := hl
        refine lv_goto (tgt := 5) hx hb d_Rs_fives_22 rfl ?_
        exact ih _ _ _ ls _ _ (lv_sub hl [2, 3, 1, 0] rfl) hP hD hS h
  exact hL5 n _ _ _ ls _ _ (lv_sub hl [2, 4, 1, 0] rfl) hP hD hS h
-- Rs_scale
theorem d_Rs_scale_0 : decode b_Rs_scale 0 = .ok (.aload_n 0, 1) := by decide +kernel
theorem d_Rs_scale_1 : decode b_Rs_scale 1 = .ok (.aload_n 0, 1) := by decide +kernel
theorem d_Rs_scale_2 : decode b_Rs_scale 2 = .ok (.getfield 22, 3) := by decide +kernel
theorem d_Rs_scale_5 : decode b_Rs_scale 5 = .ok (.lconst 1, 1) := by decide +kernel
theorem d_Rs_scale_6 : decode b_Rs_scale 6 = .ok (.invokestatic 158, 3) := by decide +kernel
theorem d_Rs_scale_9 : decode b_Rs_scale 9 = .ok (.putfield 171, 3) := by decide +kernel
theorem d_Rs_scale_12 : decode b_Rs_scale 12 = .ok (.aload_n 0, 1) := by decide +kernel
theorem d_Rs_scale_13 : decode b_Rs_scale 13 = .ok (.aload_n 0, 1) := by decide +kernel
theorem d_Rs_scale_14 : decode b_Rs_scale 14 = .ok (.getfield 19, 3) := by decide +kernel
theorem d_Rs_scale_17 : decode b_Rs_scale 17 = .ok (.lconst 1, 1) := by decide +kernel
theorem d_Rs_scale_18 : decode b_Rs_scale 18 = .ok (.invokestatic 158, 3) := by decide +kernel
theorem d_Rs_scale_21 : decode b_Rs_scale 21 = .ok (.putfield 72, 3) := by decide +kernel
theorem d_Rs_scale_24 : decode b_Rs_scale 24 = .ok (.iload_n 1, 1) := by decide +kernel
theorem d_Rs_scale_25 : decode b_Rs_scale 25 = .ok (.ifCond .le 22, 3) := by decide +kernel
theorem d_Rs_scale_28 : decode b_Rs_scale 28 = .ok (.aload_n 0, 1) := by decide +kernel
theorem d_Rs_scale_29 : decode b_Rs_scale 29 = .ok (.aload_n 0, 1) := by decide +kernel
theorem d_Rs_scale_30 : decode b_Rs_scale 30 = .ok (.getfield 22, 3) := by decide +kernel
theorem d_Rs_scale_33 : decode b_Rs_scale 33 = .ok (.aload_n 0, 1) := by decide +kernel
theorem d_Rs_scale_34 : decode b_Rs_scale 34 = .ok (.getfield 171, 3) := by decide +kernel
theorem d_Rs_scale_37 : decode b_Rs_scale 37 = .ok (.iload_n 1, 1) := by decide +kernel
theorem d_Rs_scale_38 : decode b_Rs_scale 38 = .ok (.invokestatic 162, 3) := by decide +kernel
theorem d_Rs_scale_41 : decode b_Rs_scale 41 = .ok (.putfield 171, 3) := by decide +kernel
theorem d_Rs_scale_44 : decode b_Rs_scale 44 = .ok (.goto 20, 3) := by decide +kernel
theorem d_Rs_scale_47 : decode b_Rs_scale 47 = .ok (.aload_n 0, 1) := by decide +kernel
theorem d_Rs_scale_48 : decode b_Rs_scale 48 = .ok (.aload_n 0, 1) := by decide +kernel
theorem d_Rs_scale_49 : decode b_Rs_scale 49 = .ok (.getfield 19, 3) := by decide +kernel
theorem d_Rs_scale_52 : decode b_Rs_scale 52 = .ok (.aload_n 0, 1) := by decide +kernel
theorem d_Rs_scale_53 : decode b_Rs_scale 53 = .ok (.getfield 72, 3) := by decide +kernel
theorem d_Rs_scale_56 : decode b_Rs_scale 56 = .ok (.iload_n 1, 1) := by decide +kernel
theorem d_Rs_scale_57 : decode b_Rs_scale 57 = .ok (.ineg, 1) := by decide +kernel
theorem d_Rs_scale_58 : decode b_Rs_scale 58 = .ok (.invokestatic 162, 3) := by decide +kernel
theorem d_Rs_scale_61 : decode b_Rs_scale 61 = .ok (.putfield 72, 3) := by decide +kernel
theorem d_Rs_scale_64 : decode b_Rs_scale 64 = .ok (.aload_n 0, 1) := by decide +kernel
theorem d_Rs_scale_65 : decode b_Rs_scale 65 = .ok (.iload_n 1, 1) := by decide +kernel
theorem d_Rs_scale_66 : decode b_Rs_scale 66 = .ok (.putfield 59, 3) := by decide +kernel
theorem d_Rs_scale_69 : decode b_Rs_scale 69 = .ok (.return_, 1) := by decide +kernel
def F_Rs_scale (n : Nat) (bN : Int32) (fN : Int32) (twos : Int32) (rb : Nat → Int32) (rfive : Nat → Int32) (a1 : Int32) : Option (Int32 × Int32 × Int32 × (Nat → Int32) × (Nat → Int32)) := (F_Rs_set n rfive (1 : Int64)).bind fun x1 => (F_Rs_set n rb (1 : Int64)).bind fun x2 => lt_ (fun (bN_3 : Int32) (fN_4 : Int32) (twos_5 : Int32) (rb_6 : (Nat → Int32)) (rfive_7 : (Nat → Int32)) => some (bN_3, fN_4, a1, rb_6, rfive_7)) fun j64 => if a1 ≤ 0 then ((F_Rs_fives n x2.2 x2.1 (-a1)).bind fun x8 => j64 x8.1 x1.1 twos x8.2 x1.2) else ((F_Rs_fives n x1.2 x1.1 a1).bind fun x9 => j64 x2.1 x9.1 twos x2.2 x9.2)
set_option maxHeartbeats 4000000 in
set_option maxRecDepth 100000 in
theorem c_Rs_scale (l : Launch) (D : va_G) (A : Nat → Prop) (cI cL cC : ClassId) (ad : Nat → Nat) (X : va_W) (laid : Int32) (gone : Int32) (thr : Int32) (m1 : Int64) (m2 : Int64) (e1 : Int32) (e2 : Int32) (mi1 : Int32) (mi2 : Int32) (na1 : Int32) (na2 : Int32) (fa1 : Int32) (fa2 : Int32) (lets : Nat → Int32) (rlen : Int32) (rlaid : Int32) (rgone : Int32) (rthr : Int32) (were : Int32) (none_ : Int32) (beyo : Int32) (aN : Int32) (bN : Int32) (fN : Int32) (lN_ : Int32) (rN : Int32) (pN : Int32) (twos : Int32) (at_ : Int32) (rdig : Int32) (rpow : Int32) (good : Int32) (txt : Nat → Int32) (wri : Nat → Int32) (ra : Nat → Int32) (rb : Nat → Int32) (rfive : Nat → Int32) (rleft : Nat → Int32) (rright : Nat → Int32) (rpart : Nat → Int32) (n : Nat) (a1 : Int32) (r : Int32 × Int32 × Int32 × (Nat → Int32) × (Nat → Int32)) (h : F_Rs_scale n bN fN twos rb rfive a1 = some r) : Met l y_Rs_scale (.code y_Rs_scale b_Rs_scale 2 none :: BIG) ({ frames := 3, cells := 0, slots := 0, locals := 74 } : Room) (va_Pc [.ref (ad 2), .int a1] (gPre D A (tysV cI cL cC) (gM cI cL cC ad X laid gone thr m1 m2 e1 e2 mi1 mi2 na1 na2 fa1 fa2 lets rlen rlaid rgone rthr were none_ beyo aN bN fN lN_ rN pN twos at_ rdig rpow good txt wri ra rb rfive rleft rright rpart))) (gQ D A none (gM cI cL cC ad X laid gone thr m1 m2 e1 e2 mi1 mi2 na1 na2 fa1 fa2 lets rlen rlaid rgone rthr were none_ beyo aN r.1 r.2.1 lN_ rN pN r.2.2.1 at_ rdig rpow good txt wri ra r.2.2.2.1 r.2.2.2.2 rleft rright rpart)) 0 0 A := by
  refine gOpen_v rfl (Nat.le_of_ble_eq_true rfl) ?_
  intro p e s m args below meth c Q ls hx hb hml hown hts hT hNB hP hK hD hl hret
  have hown : s.vm.findClass R_Rs = some m.cls := hown
  have hS : va_S A s.heap s.heap [] := va_S.rf
  have hl : lv_has ls 2 [(0, .ref (ad 2)), (1, .int a1)] := hl
  have h : ((F_Rs_set n rfive (1 : Int64)).bind fun x1 => (F_Rs_set n rb (1 : Int64)).bind fun x2 => lt_ (fun (bN_3 : Int32) (fN_4 : Int32) (twos_5 : Int32) (rb_6 : (Nat → Int32)) (rfive_7 : (Nat → Int32)) => some (bN_3, fN_4, a1, rb_6, rfive_7)) fun j64 => if a1 ≤ 0 then ((F_Rs_fives n x2.2 x2.1 (-a1)).bind fun x8 => j64 x8.1 x1.1 twos x8.2 x1.2) else ((F_Rs_fives n x1.2 x1.1 a1).bind fun x9 => j64 x2.1 x9.1 twos x2.2 x9.2)) = some r := h
  refine lv_aload_n hx hb d_Rs_scale_0 rfl (lv_at hl 0 rfl) ?_
  refine lv_aload_n hx hb d_Rs_scale_1 rfl (lv_at hl 0 rfl) ?_
  refine va_get (D := D) (ci := 5) (C := R_Rs) (T := T_Rs) (N := 26) hx hb hT in_Rs hown hK hP 2 rfl rfl 11 (by decide) (hT _ m_326) (fun _ h9 => h9) rfl d_Rs_scale_2 ?_
  refine lv_lconst hx hb d_Rs_scale_5 lc_1 ?_
  obtain ⟨x1, e_x1, h⟩ := bd_o h
  refine q_GS (D := D) (A := A) (As := [.ref (ad 7), .long (1 : Int64)]) (rest := [.ref (ad 2)]) (n := 2) hx hb hml hown hts (c_Rs_set l D A cI cL cC (gM cI cL cC ad X laid gone thr m1 m2 e1 e2 mi1 mi2 na1 na2 fa1 fa2 lets rlen rlaid rgone rthr were none_ beyo aN bN fN lN_ rN pN twos at_ rdig rpow good txt wri ra rb rfive rleft rright rpart) 7 (ad 7) rfive (hz0 := rfl) n (1 : Int64) x1 e_x1) rfl rfl m_327 m_328 m_329 m_318 (by decide +kernel) ⟨Nat.le_of_ble_eq_true rfl, Nat.le_of_ble_eq_true rfl⟩ hNB hK hP hD hS rfl hl.1 rfl (Nat.le_of_ble_eq_true rfl) d_Rs_scale_6 ⟨Nat.zero_le _, Nat.zero_le _⟩ (fun H locs hP hD hS => ?_)
  have hP : va_P D cls (gM cI cL cC ad X laid gone thr m1 m2 e1 e2 mi1 mi2 na1 na2 fa1 fa2 lets rlen rlaid rgone rthr were none_ beyo aN bN fN lN_ rN pN twos at_ rdig rpow good txt wri ra rb x1.2 rleft rright rpart) H := hP
  have hD : va_D A (gM cI cL cC ad X laid gone thr m1 m2 e1 e2 mi1 mi2 na1 na2 fa1 fa2 lets rlen rlaid rgone rthr were none_ beyo aN bN fN lN_ rN pN twos at_ rdig rpow good txt wri ra rb x1.2 rleft rright rpart) := hD
  refine va_put (D := D) (ci := 5) (C := R_Rs) (T := T_Rs) (N := 26) hx hb hT in_Rs ty_Rs tyok_Rs nm_Rs hown hK hP hD hS 2 rfl rfl 17 (by decide) (hT _ m_330) (fun _ h9 => h9) rfl (ty := .int) (by decide +kernel) rfl rfl (by decide : 17 < 26) d_Rs_scale_9 (fun H locs hP hD hS => ?_)
  have hP : va_P D cls (gM cI cL cC ad X laid gone thr m1 m2 e1 e2 mi1 mi2 na1 na2 fa1 fa2 lets rlen rlaid rgone rthr were none_ beyo aN bN x1.1 lN_ rN pN twos at_ rdig rpow good txt wri ra rb x1.2 rleft rright rpart) H := hP
  have hD : va_D A (gM cI cL cC ad X laid gone thr m1 m2 e1 e2 mi1 mi2 na1 na2 fa1 fa2 lets rlen rlaid rgone rthr were none_ beyo aN bN x1.1 lN_ rN pN twos at_ rdig rpow good txt wri ra rb x1.2 rleft rright rpart) := hD
  refine lv_aload_n hx hb d_Rs_scale_12 rfl (lv_at hl 0 rfl) ?_
  refine lv_aload_n hx hb d_Rs_scale_13 rfl (lv_at hl 0 rfl) ?_
  refine va_get (D := D) (ci := 5) (C := R_Rs) (T := T_Rs) (N := 26) hx hb hT in_Rs hown hK hP 2 rfl rfl 10 (by decide) (hT _ m_331) (fun _ h9 => h9) rfl d_Rs_scale_14 ?_
  refine lv_lconst hx hb d_Rs_scale_17 lc_1 ?_
  obtain ⟨x2, e_x2, h⟩ := bd_o h
  refine q_GS (D := D) (A := A) (As := [.ref (ad 6), .long (1 : Int64)]) (rest := [.ref (ad 2)]) (n := 2) hx hb hml hown hts (c_Rs_set l D A cI cL cC (gM cI cL cC ad X laid gone thr m1 m2 e1 e2 mi1 mi2 na1 na2 fa1 fa2 lets rlen rlaid rgone rthr were none_ beyo aN bN x1.1 lN_ rN pN twos at_ rdig rpow good txt wri ra rb x1.2 rleft rright rpart) 6 (ad 6) rb (hz0 := rfl) n (1 : Int64) x2 e_x2) rfl rfl m_327 m_328 m_329 m_318 (by decide +kernel) ⟨Nat.le_of_ble_eq_true rfl, Nat.le_of_ble_eq_true rfl⟩ hNB hK hP hD hS rfl hl.1 rfl (Nat.le_of_ble_eq_true rfl) d_Rs_scale_18 ⟨Nat.zero_le _, Nat.zero_le _⟩ (fun H locs hP hD hS => ?_)
  have hP : va_P D cls (gM cI cL cC ad X laid gone thr m1 m2 e1 e2 mi1 mi2 na1 na2 fa1 fa2 lets rlen rlaid rgone rthr were none_ beyo aN bN x1.1 lN_ rN pN twos at_ rdig rpow good txt wri ra x2.2 x1.2 rleft rright rpart) H := hP
  have hD : va_D A (gM cI cL cC ad X laid gone thr m1 m2 e1 e2 mi1 mi2 na1 na2 fa1 fa2 lets rlen rlaid rgone rthr were none_ beyo aN bN x1.1 lN_ rN pN twos at_ rdig rpow good txt wri ra x2.2 x1.2 rleft rright rpart) := hD
  refine va_put (D := D) (ci := 5) (C := R_Rs) (T := T_Rs) (N := 26) hx hb hT in_Rs ty_Rs tyok_Rs nm_Rs hown hK hP hD hS 2 rfl rfl 16 (by decide) (hT _ m_332) (fun _ h9 => h9) rfl (ty := .int) (by decide +kernel) rfl rfl (by decide : 16 < 26) d_Rs_scale_21 (fun H locs hP hD hS => ?_)
  have hP : va_P D cls (gM cI cL cC ad X laid gone thr m1 m2 e1 e2 mi1 mi2 na1 na2 fa1 fa2 lets rlen rlaid rgone rthr were none_ beyo aN x2.1 x1.1 lN_ rN pN twos at_ rdig rpow good txt wri ra x2.2 x1.2 rleft rright rpart) H := hP
  have hD : va_D A (gM cI cL cC ad X laid gone thr m1 m2 e1 e2 mi1 mi2 na1 na2 fa1 fa2 lets rlen rlaid rgone rthr were none_ beyo aN x2.1 x1.1 lN_ rN pN twos at_ rdig rpow good txt wri ra x2.2 x1.2 rleft rright rpart) := hD
  refine lv_iload_n hx hb d_Rs_scale_24 rfl (lv_at hl 1 rfl) ?_
  obtain ⟨j64, e_j64, h⟩ := lt_o h
  have hJ64 : ∀ (bN_3 : Int32) (fN_4 : Int32) (twos_5 : Int32) (rb_6 : (Nat → Int32)) (rfive_7 : (Nat → Int32)) (ls : Array Slot) (H : Heap) (locs : List Loc), lv_has ls 2 [(0, .ref (ad 2)), (1, .int a1)] → va_P D cls (gM cI cL cC ad X laid gone thr m1 m2 e1 e2 mi1 mi2 na1 na2 fa1 fa2 lets rlen rlaid rgone rthr were none_ beyo aN bN_3 fN_4 lN_ rN pN twos_5 at_ rdig rpow good txt wri ra rb_6 rfive_7 rleft rright rpart) H → va_D A (gM cI cL cC ad X laid gone thr m1 m2 e1 e2 mi1 mi2 na1 na2 fa1 fa2 lets rlen rlaid rgone rthr were none_ beyo aN bN_3 fN_4 lN_ rN pN twos_5 at_ rdig rpow good txt wri ra rb_6 rfive_7 rleft rright rpart) → va_S A s.heap H locs → j64 bN_3 fN_4 twos_5 rb_6 rfive_7 = some r → W p l e ({ frames := 3, cells := 0, slots := 0, locals := 74 } : Room) s m args below meth c H locs 0 0 Q (F0 m 64 ls []) := by
    intro bN_3 fN_4 twos_5 rb_6 rfive_7 ls H locs hl hP hD hS h
    rw [e_j64] at h
    refine lv_aload_n hx hb d_Rs_scale_64 rfl (lv_at hl 0 rfl) ?_
    refine lv_iload_n hx hb d_Rs_scale_65 rfl (lv_at hl 1 rfl) ?_
    refine va_put (D := D) (ci := 5) (C := R_Rs) (T := T_Rs) (N := 26) hx hb hT in_Rs ty_Rs tyok_Rs nm_Rs hown hK hP hD hS 2 rfl rfl 21 (by decide) (hT _ m_333) (fun _ h9 => h9) rfl (ty := .int) (by decide +kernel) rfl rfl (by decide : 21 < 26) d_Rs_scale_66 (fun H locs hP hD hS => ?_)
    have hP : va_P D cls (gM cI cL cC ad X laid gone thr m1 m2 e1 e2 mi1 mi2 na1 na2 fa1 fa2 lets rlen rlaid rgone rthr were none_ beyo aN bN_3 fN_4 lN_ rN pN a1 at_ rdig rpow good txt wri ra rb_6 rfive_7 rleft rright rpart) H := hP
    have hD : va_D A (gM cI cL cC ad X laid gone thr m1 m2 e1 e2 mi1 mi2 na1 na2 fa1 fa2 lets rlen rlaid rgone rthr were none_ beyo aN bN_3 fN_4 lN_ rN pN a1 at_ rdig rpow good txt wri ra rb_6 rfive_7 rleft rright rpart) := hD
    obtain rfl := Option.some.inj h
    exact hret 69 ls _ _ hP hD hS d_Rs_scale_69
  refine lv_if_le (tgt := 47) hx hb d_Rs_scale_25 rfl (fun hc => ?_) (fun hc => ?_)
  · have h := ite_t hc h
    refine lv_aload_n hx hb d_Rs_scale_47 rfl (lv_at hl 0 rfl) ?_
    refine lv_aload_n hx hb d_Rs_scale_48 rfl (lv_at hl 0 rfl) ?_
    refine va_get (D := D) (ci := 5) (C := R_Rs) (T := T_Rs) (N := 26) hx hb hT in_Rs hown hK hP 2 rfl rfl 10 (by decide) (hT _ m_331) (fun _ h9 => h9) rfl d_Rs_scale_49 ?_
    refine lv_aload_n hx hb d_Rs_scale_52 rfl (lv_at hl 0 rfl) ?_
    refine va_get (D := D) (ci := 5) (C := R_Rs) (T := T_Rs) (N := 26) hx hb hT in_Rs hown hK hP 2 rfl rfl 16 (by decide) (hT _ m_332) (fun _ h9 => h9) rfl d_Rs_scale_53 ?_
    refine lv_iload_n hx hb d_Rs_scale_56 rfl (lv_at hl 1 rfl) ?_
    refine lv_ineg hx hb d_Rs_scale_57 ?_
    obtain ⟨x8, e_x8, h⟩ := bd_o h
    refine q_GS (D := D) (A := A) (As := [.ref (ad 6), .int x2.1, .int (-a1)]) (rest := [.ref (ad 2)]) (n := 3) hx hb hml hown hts (c_Rs_fives l D A cI cL cC (gM cI cL cC ad X laid gone thr m1 m2 e1 e2 mi1 mi2 na1 na2 fa1 fa2 lets rlen rlaid rgone rthr were none_ beyo aN x2.1 x1.1 lN_ rN pN twos at_ rdig rpow good txt wri ra x2.2 x1.2 rleft rright rpart) 6 (ad 6) x2.2 (hz0 := rfl) n x2.1 (-a1) x8 e_x8) rfl rfl m_334 m_335 m_336 m_318 (by decide +kernel) ⟨Nat.le_of_ble_eq_true rfl, Nat.le_of_ble_eq_true rfl⟩ hNB hK hP hD hS rfl hl.1 rfl (Nat.le_of_ble_eq_true rfl) d_Rs_scale_58 ⟨Nat.zero_le _, Nat.zero_le _⟩ (fun H locs hP hD hS => ?_)
    have hP : va_P D cls (gM cI cL cC ad X laid gone thr m1 m2 e1 e2 mi1 mi2 na1 na2 fa1 fa2 lets rlen rlaid rgone rthr were none_ beyo aN x2.1 x1.1 lN_ rN pN twos at_ rdig rpow good txt wri ra x8.2 x1.2 rleft rright rpart) H := hP
    have hD : va_D A (gM cI cL cC ad X laid gone thr m1 m2 e1 e2 mi1 mi2 na1 na2 fa1 fa2 lets rlen rlaid rgone rthr were none_ beyo aN x2.1 x1.1 lN_ rN pN twos at_ rdig rpow good txt wri ra x8.2 x1.2 rleft rright rpart) := hD
    refine va_put (D := D) (ci := 5) (C := R_Rs) (T := T_Rs) (N := 26) hx hb hT in_Rs ty_Rs tyok_Rs nm_Rs hown hK hP hD hS 2 rfl rfl 16 (by decide) (hT _ m_332) (fun _ h9 => h9) rfl (ty := .int) (by decide +kernel) rfl rfl (by decide : 16 < 26) d_Rs_scale_61 (fun H locs hP hD hS => ?_)
    have hP : va_P D cls (gM cI cL cC ad X laid gone thr m1 m2 e1 e2 mi1 mi2 na1 na2 fa1 fa2 lets rlen rlaid rgone rthr were none_ beyo aN x8.1 x1.1 lN_ rN pN twos at_ rdig rpow good txt wri ra x8.2 x1.2 rleft rright rpart) H := hP
    have hD : va_D A (gM cI cL cC ad X laid gone thr m1 m2 e1 e2 mi1 mi2 na1 na2 fa1 fa2 lets rlen rlaid rgone rthr were none_ beyo aN x8.1 x1.1 lN_ rN pN twos at_ rdig rpow good txt wri ra x8.2 x1.2 rleft rright rpart) := hD
    exact hJ64 _ _ _ _ _ ls _ _ (lv_sub hl [0, 1] rfl) hP hD hS h
  · have h := ite_f hc h
    refine lv_aload_n hx hb d_Rs_scale_28 rfl (lv_at hl 0 rfl) ?_
    refine lv_aload_n hx hb d_Rs_scale_29 rfl (lv_at hl 0 rfl) ?_
    refine va_get (D := D) (ci := 5) (C := R_Rs) (T := T_Rs) (N := 26) hx hb hT in_Rs hown hK hP 2 rfl rfl 11 (by decide) (hT _ m_326) (fun _ h9 => h9) rfl d_Rs_scale_30 ?_
    refine lv_aload_n hx hb d_Rs_scale_33 rfl (lv_at hl 0 rfl) ?_
    refine va_get (D := D) (ci := 5) (C := R_Rs) (T := T_Rs) (N := 26) hx hb hT in_Rs hown hK hP 2 rfl rfl 17 (by decide) (hT _ m_330) (fun _ h9 => h9) rfl d_Rs_scale_34 ?_
    refine lv_iload_n hx hb d_Rs_scale_37 rfl (lv_at hl 1 rfl) ?_
    obtain ⟨x9, e_x9, h⟩ := bd_o h
    refine q_GS (D := D) (A := A) (As := [.ref (ad 7), .int x1.1, .int a1]) (rest := [.ref (ad 2)]) (n := 3) hx hb hml hown hts (c_Rs_fives l D A cI cL cC (gM cI cL cC ad X laid gone thr m1 m2 e1 e2 mi1 mi2 na1 na2 fa1 fa2 lets rlen rlaid rgone rthr were none_ beyo aN x2.1 x1.1 lN_ rN pN twos at_ rdig rpow good txt wri ra x2.2 x1.2 rleft rright rpart) 7 (ad 7) x1.2 (hz0 := rfl) n x1.1 a1 x9 e_x9) rfl rfl m_334 m_335 m_336 m_318 (by decide +kernel) ⟨Nat.le_of_ble_eq_true rfl, Nat.le_of_ble_eq_true rfl⟩ hNB hK hP hD hS rfl hl.1 rfl (Nat.le_of_ble_eq_true rfl) d_Rs_scale_38 ⟨Nat.zero_le _, Nat.zero_le _⟩ (fun H locs hP hD hS => ?_)
    have hP : va_P D cls (gM cI cL cC ad X laid gone thr m1 m2 e1 e2 mi1 mi2 na1 na2 fa1 fa2 lets rlen rlaid rgone rthr were none_ beyo aN x2.1 x1.1 lN_ rN pN twos at_ rdig rpow good txt wri ra x2.2 x9.2 rleft rright rpart) H := hP
    have hD : va_D A (gM cI cL cC ad X laid gone thr m1 m2 e1 e2 mi1 mi2 na1 na2 fa1 fa2 lets rlen rlaid rgone rthr were none_ beyo aN x2.1 x1.1 lN_ rN pN twos at_ rdig rpow good txt wri ra x2.2 x9.2 rleft rright rpart) := hD
    refine va_put (D := D) (ci := 5) (C := R_Rs) (T := T_Rs) (N := 26) hx hb hT in_Rs ty_Rs tyok_Rs nm_Rs hown hK hP hD hS 2 rfl rfl 17 (by decide) (hT _ m_330) (fun _ h9 => h9) rfl (ty := .int) (by decide +kernel) rfl rfl (by decide : 17 < 26) d_Rs_scale_41 (fun H locs hP hD hS => ?_)
    have hP : va_P D cls (gM cI cL cC ad X laid gone thr m1 m2 e1 e2 mi1 mi2 na1 na2 fa1 fa2 lets rlen rlaid rgone rthr were none_ beyo aN x2.1 x9.1 lN_ rN pN twos at_ rdig rpow good txt wri ra x2.2 x9.2 rleft rright rpart) H := hP
    have hD : va_D A (gM cI cL cC ad X laid gone thr m1 m2 e1 e2 mi1 mi2 na1 na2 fa1 fa2 lets rlen rlaid rgone rthr were none_ beyo aN x2.1 x9.1 lN_ rN pN twos at_ rdig rpow good txt wri ra x2.2 x9.2 rleft rright rpart) := hD
    refine lv_goto (tgt := 64) hx hb d_Rs_scale_44 rfl ?_
    exact hJ64 _ _ _ _ _ ls _ _ (lv_sub hl [0, 1] rfl) hP hD hS h
-- Rs_times
theorem d_Rs_times_0 : decode b_Rs_times 0 = .ok (.iconst 0, 1) := by decide +kernel
theorem d_Rs_times_1 : decode b_Rs_times 1 = .ok (.istore 6, 2) := by decide +kernel
theorem d_Rs_times_3 : decode b_Rs_times 3 = .ok (.iload 6, 2) := by decide +kernel
theorem d_Rs_times_5 : decode b_Rs_times 5 = .ok (.iload_n 2, 1) := by decide +kernel
theorem d_Rs_times_6 : decode b_Rs_times 6 = .ok (.iconst 5, 1) := by decide +kernel
theorem d_Rs_times_7 : decode b_Rs_times 7 = .ok (.iadd, 1) := by decide +kernel
theorem d_Rs_times_8 : decode b_Rs_times 8 = .ok (.if_icmp .ge 15, 3) := by decide +kernel
theorem d_Rs_times_11 : decode b_Rs_times 11 = .ok (.aload 5, 2) := by decide +kernel
theorem d_Rs_times_13 : decode b_Rs_times 13 = .ok (.iload 6, 2) := by decide +kernel
theorem d_Rs_times_15 : decode b_Rs_times 15 = .ok (.iconst 0, 1) := by decide +kernel
theorem d_Rs_times_16 : decode b_Rs_times 16 = .ok (.iastore, 1) := by decide +kernel
theorem d_Rs_times_17 : decode b_Rs_times 17 = .ok (.iinc 6 1, 3) := by decide +kernel
theorem d_Rs_times_20 : decode b_Rs_times 20 = .ok (.goto (-17), 3) := by decide +kernel
theorem d_Rs_times_23 : decode b_Rs_times 23 = .ok (.iconst 0, 1) := by decide +kernel
theorem d_Rs_times_24 : decode b_Rs_times 24 = .ok (.istore 6, 2) := by decide +kernel
theorem d_Rs_times_26 : decode b_Rs_times 26 = .ok (.iload 6, 2) := by decide +kernel
theorem d_Rs_times_28 : decode b_Rs_times 28 = .ok (.iconst 4, 1) := by decide +kernel
theorem d_Rs_times_29 : decode b_Rs_times 29 = .ok (.if_icmp .ge 95, 3) := by decide +kernel
theorem d_Rs_times_32 : decode b_Rs_times 32 = .ok (.lload_n 3, 1) := by decide +kernel
theorem d_Rs_times_33 : decode b_Rs_times 33 = .ok (.bipush 16, 2) := by decide +kernel
theorem d_Rs_times_35 : decode b_Rs_times 35 = .ok (.iload 6, 2) := by decide +kernel
theorem d_Rs_times_37 : decode b_Rs_times 37 = .ok (.imul, 1) := by decide +kernel
theorem d_Rs_times_38 : decode b_Rs_times 38 = .ok (.lshr, 1) := by decide +kernel
theorem d_Rs_times_39 : decode b_Rs_times 39 = .ok (.ldc2_w 49, 3) := by decide +kernel
theorem d_Rs_times_42 : decode b_Rs_times 42 = .ok (.land, 1) := by decide +kernel
theorem d_Rs_times_43 : decode b_Rs_times 43 = .ok (.lstore 7, 2) := by decide +kernel
theorem d_Rs_times_45 : decode b_Rs_times 45 = .ok (.lconst 0, 1) := by decide +kernel
theorem d_Rs_times_46 : decode b_Rs_times 46 = .ok (.lstore 9, 2) := by decide +kernel
theorem d_Rs_times_48 : decode b_Rs_times 48 = .ok (.iconst 0, 1) := by decide +kernel
theorem d_Rs_times_49 : decode b_Rs_times 49 = .ok (.istore 11, 2) := by decide +kernel
theorem d_Rs_times_51 : decode b_Rs_times 51 = .ok (.iload 11, 2) := by decide +kernel
theorem d_Rs_times_53 : decode b_Rs_times 53 = .ok (.iload_n 2, 1) := by decide +kernel
theorem d_Rs_times_54 : decode b_Rs_times 54 = .ok (.if_icmp .gt 64, 3) := by decide +kernel
theorem d_Rs_times_57 : decode b_Rs_times 57 = .ok (.aload 5, 2) := by decide +kernel
theorem d_Rs_times_59 : decode b_Rs_times 59 = .ok (.iload 11, 2) := by decide +kernel
theorem d_Rs_times_61 : decode b_Rs_times 61 = .ok (.iload 6, 2) := by decide +kernel
theorem d_Rs_times_63 : decode b_Rs_times 63 = .ok (.iadd, 1) := by decide +kernel
theorem d_Rs_times_64 : decode b_Rs_times 64 = .ok (.iaload, 1) := by decide +kernel
theorem d_Rs_times_65 : decode b_Rs_times 65 = .ok (.i2l, 1) := by decide +kernel
theorem d_Rs_times_66 : decode b_Rs_times 66 = .ok (.lload 9, 2) := by decide +kernel
theorem d_Rs_times_68 : decode b_Rs_times 68 = .ok (.ladd, 1) := by decide +kernel
theorem d_Rs_times_69 : decode b_Rs_times 69 = .ok (.iload 11, 2) := by decide +kernel
theorem d_Rs_times_71 : decode b_Rs_times 71 = .ok (.iload_n 2, 1) := by decide +kernel
theorem d_Rs_times_72 : decode b_Rs_times 72 = .ok (.if_icmp .ge 14, 3) := by decide +kernel
theorem d_Rs_times_75 : decode b_Rs_times 75 = .ok (.aload_n 1, 1) := by decide +kernel
theorem d_Rs_times_76 : decode b_Rs_times 76 = .ok (.iload 11, 2) := by decide +kernel
theorem d_Rs_times_78 : decode b_Rs_times 78 = .ok (.iaload, 1) := by decide +kernel
theorem d_Rs_times_79 : decode b_Rs_times 79 = .ok (.i2l, 1) := by decide +kernel
theorem d_Rs_times_80 : decode b_Rs_times 80 = .ok (.lload 7, 2) := by decide +kernel
theorem d_Rs_times_82 : decode b_Rs_times 82 = .ok (.lmul, 1) := by decide +kernel
theorem d_Rs_times_83 : decode b_Rs_times 83 = .ok (.goto 4, 3) := by decide +kernel
theorem d_Rs_times_86 : decode b_Rs_times 86 = .ok (.lconst 0, 1) := by decide +kernel
theorem d_Rs_times_87 : decode b_Rs_times 87 = .ok (.ladd, 1) := by decide +kernel
theorem d_Rs_times_88 : decode b_Rs_times 88 = .ok (.lstore 12, 2) := by decide +kernel
theorem d_Rs_times_90 : decode b_Rs_times 90 = .ok (.aload 5, 2) := by decide +kernel
theorem d_Rs_times_92 : decode b_Rs_times 92 = .ok (.iload 11, 2) := by decide +kernel
theorem d_Rs_times_94 : decode b_Rs_times 94 = .ok (.iload 6, 2) := by decide +kernel
theorem d_Rs_times_96 : decode b_Rs_times 96 = .ok (.iadd, 1) := by decide +kernel
theorem d_Rs_times_97 : decode b_Rs_times 97 = .ok (.lload 12, 2) := by decide +kernel
theorem d_Rs_times_99 : decode b_Rs_times 99 = .ok (.ldc2_w 49, 3) := by decide +kernel
theorem d_Rs_times_102 : decode b_Rs_times 102 = .ok (.land, 1) := by decide +kernel
theorem d_Rs_times_103 : decode b_Rs_times 103 = .ok (.l2i, 1) := by decide +kernel
theorem d_Rs_times_104 : decode b_Rs_times 104 = .ok (.iastore, 1) := by decide +kernel
theorem d_Rs_times_105 : decode b_Rs_times 105 = .ok (.lload 12, 2) := by decide +kernel
theorem d_Rs_times_107 : decode b_Rs_times 107 = .ok (.bipush 16, 2) := by decide +kernel
theorem d_Rs_times_109 : decode b_Rs_times 109 = .ok (.lshr, 1) := by decide +kernel
theorem d_Rs_times_110 : decode b_Rs_times 110 = .ok (.lstore 9, 2) := by decide +kernel
theorem d_Rs_times_112 : decode b_Rs_times 112 = .ok (.iinc 11 1, 3) := by decide +kernel
theorem d_Rs_times_115 : decode b_Rs_times 115 = .ok (.goto (-64), 3) := by decide +kernel
theorem d_Rs_times_118 : decode b_Rs_times 118 = .ok (.iinc 6 1, 3) := by decide +kernel
theorem d_Rs_times_121 : decode b_Rs_times 121 = .ok (.goto (-95), 3) := by decide +kernel
theorem d_Rs_times_124 : decode b_Rs_times 124 = .ok (.aload 5, 2) := by decide +kernel
theorem d_Rs_times_126 : decode b_Rs_times 126 = .ok (.iload_n 2, 1) := by decide +kernel
theorem d_Rs_times_127 : decode b_Rs_times 127 = .ok (.iconst 5, 1) := by decide +kernel
theorem d_Rs_times_128 : decode b_Rs_times 128 = .ok (.iadd, 1) := by decide +kernel
theorem d_Rs_times_129 : decode b_Rs_times 129 = .ok (.invokestatic 51, 3) := by decide +kernel
theorem d_Rs_times_132 : decode b_Rs_times 132 = .ok (.ireturn, 1) := by decide +kernel
def F_Rs_times_L51 (f1 : Nat → Int32) (a2 : Int32) (a3 : Int64) (y4 : Int32) (x6 : Int64) (j118 : ((Nat → Int32) → Option (Int32 × (Nat → Int32)))) : Nat → Int64 → Int32 → (Nat → Int32) → Option (Int32 × (Nat → Int32))
  | 0, _, _, _ => none
  | n+1, y9, y10, f4_11 => if a2 < y10 then (j118 f4_11) else (gz_ (y10 + y4 < 0 ∨ 520 ≤ (y10 + y4).toNatClampNeg) <| lt_ (fun (y12 : Int64) (y13 : Int64) (f4_14 : (Nat → Int32)) => lt_ (y13 + y12) fun x15 => gz_ (y10 + y4 < 0 ∨ 520 ≤ (y10 + y4).toNatClampNeg) <| lt_ (upd f4_14 (y10 + y4).toNatClampNeg ((x15 &&& (65535 : Int64)).toInt32)) fun f4_16 => lt_ (x15 >>> (((16 : Int32)).toInt64 &&& 63)) fun x17 => lt_ (y10 + Int32.ofInt 1) fun x18 => F_Rs_times_L51 f1 a2 a3 y4 x6 j118 n x17 x18 f4_16) fun j87 => if a2 ≤ y10 then (j87 (0 : Int64) (((f4_11 (y10 + y4).toNatClampNeg).toInt64) + y9) f4_11) else (gz_ (y10 < 0 ∨ 520 ≤ (y10).toNatClampNeg) <| j87 (((f1 (y10).toNatClampNeg).toInt64) * x6) (((f4_11 (y10 + y4).toNatClampNeg).toInt64) + y9) f4_11))
def F_Rs_times_L26 (f1 : Nat → Int32) (a2 : Int32) (a3 : Int64) (j124 : ((Nat → Int32) → Option (Int32 × (Nat → Int32)))) : Nat → Int32 → (Nat → Int32) → Option (Int32 × (Nat → Int32))
  | 0, _, _ => none
  | n+1, y4, f4_5 => if (4 : Int32) ≤ y4 then (j124 f4_5) else (lt_ ((a3 >>> (((16 : Int32) * y4).toInt64 &&& 63)) &&& (65535 : Int64)) fun x6 => lt_ (fun (f4_7 : (Nat → Int32)) => lt_ (y4 + Int32.ofInt 1) fun x8 => F_Rs_times_L26 f1 a2 a3 j124 n x8 f4_7) fun j118 => F_Rs_times_L51 f1 a2 a3 y4 x6 j118 n (0 : Int64) (0 : Int32) f4_5)
def F_Rs_times_L3 (f1 : Nat → Int32) (a2 : Int32) (a3 : Int64) (j23 : ((Nat → Int32) → Option (Int32 × (Nat → Int32)))) : Nat → Int32 → (Nat → Int32) → Option (Int32 × (Nat → Int32))
  | 0, _, _ => none
  | n+1, y19, f4_20 => if (a2 + (5 : Int32)) ≤ y19 then (j23 f4_20) else (gz_ (y19 < 0 ∨ 520 ≤ (y19).toNatClampNeg) <| lt_ (upd f4_20 (y19).toNatClampNeg (0 : Int32)) fun f4_21 => lt_ (y19 + Int32.ofInt 1) fun x22 => F_Rs_times_L3 f1 a2 a3 j23 n x22 f4_21)
def F_Rs_times (n : Nat) (f1 : Nat → Int32) (f4 : Nat → Int32) (a2 : Int32) (a3 : Int64) : Option (Int32 × (Nat → Int32)) := lt_ (fun (f4_1 : (Nat → Int32)) => lt_ (fun (f4_2 : (Nat → Int32)) => (F_Rs_trimmed n f4_2 (a2 + (5 : Int32))).bind fun x3 => some (x3, f4_2)) fun j124 => F_Rs_times_L26 f1 a2 a3 j124 n (0 : Int32) f4_1) fun j23 => F_Rs_times_L3 f1 a2 a3 j23 n (0 : Int32) f4
set_option maxHeartbeats 4000000 in
set_option maxRecDepth 100000 in
theorem c_Rs_times (l : Launch) (D : va_G) (A : Nat → Prop) (cI cL cC : ClassId) (ws : va_W) (q1 x1 : Nat) (f1 : Nat → Int32) {z1 : Nat × va_E} (hz1 : ws[q1]? = some z1) (q4 x4 : Nat) (f4 : Nat → Int32) {z4 : Nat × va_E} (hz4 : ws[q4]? = some z4) (hne : q1 ≠ q4) (o0 : Nat) (n : Nat) (a2 : Int32) (a3 : Int64) (r : Int32 × (Nat → Int32)) (h : F_Rs_times n f1 f4 a2 a3 = some r) : Met l y_Rs_times (.code y_Rs_times b_Rs_times 14 (some .int) :: BIG) ({ frames := 1, cells := 0, slots := 0, locals := 22 } : Room) (va_Pc [.ref o0, .ref x1, .int a2, .long a3, .ref x4] (gPre D A (tysV cI cL cC) (wA (wA ws q1 x1 cI 520 f1) q4 x4 cI 520 f4))) (gQ D A (some (.int r.1)) (wA (wA ws q1 x1 cI 520 f1) q4 x4 cI 520 r.2)) 0 0 A := by
  refine gOpen_i rfl (Nat.le_of_ble_eq_true rfl) ?_
  intro p e s m args below meth c Q ls hx hb hml hown hts hT hNB hP hK hD hl hret
  have hown : s.vm.findClass R_Rs = some m.cls := hown
  have hS : va_S A s.heap s.heap [] := va_S.rf
  have hl : lv_has ls 14 [(0, .ref o0), (1, .ref x1), (2, .int a2), (3, .long a3), (5, .ref x4)] := hl
  have hg1 : ∀ (f1 f4 : Nat → Int32), (wA (wA ws q1 x1 cI 520 f1) q4 x4 cI 520 f4)[q1]? = some (x1, .inl (cI, 520, .inl f1)) := fun f1 f4 => wA_ne (Ne.symm hne) (wA_get (List.getElem?_eq_some_iff.mp hz1).1)
  have hg4 : ∀ (f1 f4 : Nat → Int32), (wA (wA ws q1 x1 cI 520 f1) q4 x4 cI 520 f4)[q4]? = some (x4, .inl (cI, 520, .inl f4)) := fun f1 f4 => wA_get (List.getElem?_eq_some_iff.mp (wA_ne hne hz4)).1
  have h : (lt_ (fun (f4_1 : (Nat → Int32)) => lt_ (fun (f4_2 : (Nat → Int32)) => (F_Rs_trimmed n f4_2 (a2 + (5 : Int32))).bind fun x3 => some (x3, f4_2)) fun j124 => F_Rs_times_L26 f1 a2 a3 j124 n (0 : Int32) f4_1) fun j23 => F_Rs_times_L3 f1 a2 a3 j23 n (0 : Int32) f4) = some r := h
  refine lv_iconst hx hb d_Rs_times_0 ic_0 ?_
  refine lv_istore hx hb d_Rs_times_1 hl (by decide) rfl (fun ls hl => ?_)
  have hl : lv_has ls 14 [(6, .int (0 : Int32)), (0, .ref o0), (1, .ref x1), (2, .int a2), (3, .long a3), (5, .ref x4)] := hl
  obtain ⟨j23, e_j23, h⟩ := lt_o h
  have hJ23 : ∀ (f4_1 : (Nat → Int32)) (ls : Array Slot) (H : Heap) (locs : List Loc), lv_has ls 14 [(1, .ref x1), (2, .int a2), (3, .long a3), (5, .ref x4)] → va_P D cls (wA (wA ws q1 x1 cI 520 f1) q4 x4 cI 520 f4_1) H → va_D A (wA (wA ws q1 x1 cI 520 f1) q4 x4 cI 520 f4_1) → va_S A s.heap H locs → j23 f4_1 = some r → W p l e ({ frames := 1, cells := 0, slots := 0, locals := 22 } : Room) s m args below meth c H locs 0 0 Q (F0 m 23 ls []) := by
    intro f4_1 ls H locs hl hP hD hS h
    rw [e_j23] at h
    refine lv_iconst hx hb d_Rs_times_23 ic_0 ?_
    refine lv_istore hx hb d_Rs_times_24 hl (by decide) rfl (fun ls hl => ?_)
    have hl : lv_has ls 14 [(6, .int (0 : Int32)), (1, .ref x1), (2, .int a2), (3, .long a3), (5, .ref x4)] := hl
    obtain ⟨j124, e_j124, h⟩ := lt_o h
    have hJ124 : ∀ (f4_2 : (Nat → Int32)) (ls : Array Slot) (H : Heap) (locs : List Loc), lv_has ls 14 [(2, .int a2), (5, .ref x4)] → va_P D cls (wA (wA ws q1 x1 cI 520 f1) q4 x4 cI 520 f4_2) H → va_D A (wA (wA ws q1 x1 cI 520 f1) q4 x4 cI 520 f4_2) → va_S A s.heap H locs → j124 f4_2 = some r → W p l e ({ frames := 1, cells := 0, slots := 0, locals := 22 } : Room) s m args below meth c H locs 0 0 Q (F0 m 124 ls []) := by
      intro f4_2 ls H locs hl hP hD hS h
      rw [e_j124] at h
      refine lv_aload hx hb d_Rs_times_124 (lv_at hl 1 rfl) ?_
      refine lv_iload_n hx hb d_Rs_times_126 rfl (lv_at hl 0 rfl) ?_
      refine lv_iconst hx hb d_Rs_times_127 ic_5 ?_
      refine lv_iadd hx hb d_Rs_times_128 ?_
      obtain ⟨x3, e_x3, h⟩ := bd_o h
      refine q_GS (D := D) (A := A) (As := [.ref x4, .int (a2 + (5 : Int32))]) (rest := []) (n := 2) hx hb hml hown hts (c_Rs_trimmed l D A cI cL cC (wA ws q1 x1 cI 520 f1) q4 x4 f4_2 (hz0 := (wA_ne hne hz4)) n (a2 + (5 : Int32)) x3 e_x3) rfl rfl m_319 m_320 m_321 m_318 (by decide +kernel) ⟨Nat.le_of_ble_eq_true rfl, Nat.le_of_ble_eq_true rfl⟩ hNB hK hP hD hS rfl hl.1 rfl (Nat.le_of_ble_eq_true rfl) d_Rs_times_129 ⟨Nat.zero_le _, Nat.zero_le _⟩ (fun H locs hP hD hS => ?_)
      have hP : va_P D cls (wA (wA ws q1 x1 cI 520 f1) q4 x4 cI 520 f4_2) H := hP
      have hD : va_D A (wA (wA ws q1 x1 cI 520 f1) q4 x4 cI 520 f4_2) := hD
      obtain rfl := Option.some.inj h
      exact hret 132 ls _ _ _ rfl hP hD hS d_Rs_times_132
    have hL26 : ∀ (n : Nat) (y4 : Int32) (f4_5 : (Nat → Int32)) (ls : Array Slot) (H : Heap) (locs : List Loc), lv_has ls 14 [(1, .ref x1), (2, .int a2), (3, .long a3), (5, .ref x4), (6, .int y4)] → va_P D cls (wA (wA ws q1 x1 cI 520 f1) q4 x4 cI 520 f4_5) H → va_D A (wA (wA ws q1 x1 cI 520 f1) q4 x4 cI 520 f4_5) → va_S A s.heap H locs → F_Rs_times_L26 f1 a2 a3 j124 n y4 f4_5 = some r → W p l e ({ frames := 1, cells := 0, slots := 0, locals := 22 } : Room) s m args below meth c H locs 0 0 Q (F0 m 26 ls []) := by
      intro n
      induction n with
      | zero => intro y4 f4_5 ls H locs hl hP hD hS h; exact no_s h
      | succ n ih =>
        intro y4 f4_5 ls H locs hl hP hD hS h
        have h : (if (4 : Int32) ≤ y4 then (j124 f4_5) else (lt_ ((a3 >>> (((16 : Int32) * y4).toInt64 &&& 63)) &&& (65535 : Int64)) fun x6 => lt_ (fun (f4_7 : (Nat → Int32)) => lt_ (y4 + Int32.ofInt 1) fun x8 => F_Rs_times_L26 f1 a2 a3 j124 n x8 f4_7) fun j118 => F_Rs_times_L51 f1 a2 a3 y4 x6 j118 n (0 : Int64) (0 : Int32) f4_5)) = some r := h
        refine lv_iload hx hb d_Rs_times_26 (lv_at hl 4 rfl) ?_
        refine lv_iconst hx hb d_Rs_times_28 ic_4 ?_
        refine lv_icmp_ge (tgt := 124) hx hb d_Rs_times_29 rfl (fun hc => ?_) (fun hc => ?_)
        · have h := ite_t hc h
          exact hJ124 _ ls _ _ (lv_sub hl [1, 3] rfl) hP hD hS h
        · have h := ite_f hc h
          refine lv_lload_n hx hb d_Rs_times_32 rfl (lv_at hl 2 rfl) ?_
          refine lv_bipush hx hb d_Rs_times_33 bp_16 ?_
          refine lv_iload hx hb d_Rs_times_35 (lv_at hl 4 rfl) ?_
          refine lv_imul hx hb d_Rs_times_37 ?_
          refine lv_lshr hx hb d_Rs_times_38 rfl ?_
          refine lv_ldc2 hx hb hown (hT _ m_322) d_Rs_times_39 ?_
          refine lv_land hx hb d_Rs_times_42 ?_
          refine lv_topl (fun x6 e_x6 => ?_)
          have h := lt_h e_x6 h
          refine lv_lstore hx hb d_Rs_times_43 hl (by decide) rfl (fun ls hl => ?_)
          have hl : lv_has ls 14 [(7, .long x6), (1, .ref x1), (2, .int a2), (3, .long a3), (5, .ref x4), (6, .int y4)] := hl
          refine lv_lconst hx hb d_Rs_times_45 lc_0 ?_
          refine lv_lstore hx hb d_Rs_times_46 hl (by decide) rfl (fun ls hl => ?_)
          have hl : lv_has ls 14 [(9, .long (0 : Int64)), (7, .long x6), (1, .ref x1), (2, .int a2), (3, .long a3), (5, .ref x4), (6, .int y4)] := hl
          refine lv_iconst hx hb d_Rs_times_48 ic_0 ?_
          refine lv_istore hx hb d_Rs_times_49 hl (by decide) rfl (fun ls hl => ?_)
          have hl : lv_has ls 14 [(11, .int (0 : Int32)), (9, .long (0 : Int64)), (7, .long x6), (1, .ref x1), (2, .int a2), (3, .long a3), (5, .ref x4), (6, .int y4)] := hl
          obtain ⟨j118, e_j118, h⟩ := lt_o h
          have hJ118 : ∀ (f4_7 : (Nat → Int32)) (ls : Array Slot) (H : Heap) (locs : List Loc), lv_has ls 14 [(1, .ref x1), (2, .int a2), (3, .long a3), (5, .ref x4), (6, .int y4)] → va_P D cls (wA (wA ws q1 x1 cI 520 f1) q4 x4 cI 520 f4_7) H → va_D A (wA (wA ws q1 x1 cI 520 f1) q4 x4 cI 520 f4_7) → va_S A s.heap H locs → j118 f4_7 = some r → W p l e ({ frames := 1, cells := 0, slots := 0, locals := 22 } : Room) s m args below meth c H locs 0 0 Q (F0 m 118 ls []) := by
            intro f4_7 ls H locs hl hP hD hS h
            rw [e_j118] at h
            obtain ⟨x8, e_x8⟩ : ∃ z, z = y4 + Int32.ofInt 1 := ⟨_, rfl⟩
            have h := lt_h e_x8 h
            refine lv_iinc (k := 4) hx hb d_Rs_times_118 hl rfl e_x8.symm (by decide) rfl (fun ls hl => ?_)
            have hl : lv_has ls 14 [(6, .int x8), (1, .ref x1), (2, .int a2), (3, .long a3), (5, .ref x4)] := hl
            refine lv_goto (tgt := 26) hx hb d_Rs_times_121 rfl ?_
            exact ih _ _ ls _ _ (lv_sub hl [1, 2, 3, 4, 0] rfl) hP hD hS h
          have hL51 : ∀ (n : Nat) (y9 : Int64) (y10 : Int32) (f4_11 : (Nat → Int32)) (ls : Array Slot) (H : Heap) (locs : List Loc), lv_has ls 14 [(1, .ref x1), (2, .int a2), (3, .long a3), (5, .ref x4), (6, .int y4), (7, .long x6), (9, .long y9), (11, .int y10)] → va_P D cls (wA (wA ws q1 x1 cI 520 f1) q4 x4 cI 520 f4_11) H → va_D A (wA (wA ws q1 x1 cI 520 f1) q4 x4 cI 520 f4_11) → va_S A s.heap H locs → F_Rs_times_L51 f1 a2 a3 y4 x6 j118 n y9 y10 f4_11 = some r → W p l e ({ frames := 1, cells := 0, slots := 0, locals := 22 } : Room) s m args below meth c H locs 0 0 Q (F0 m 51 ls []) := by
            intro n
            induction n with
            | zero => intro y9 y10 f4_11 ls H locs hl hP hD hS h; exact no_s h
            | succ n ih =>
              intro y9 y10 f4_11 ls H locs hl hP hD hS h
              have h : (if a2 < y10 then (j118 f4_11) else (gz_ (y10 + y4 < 0 ∨ 520 ≤ (y10 + y4).toNatClampNeg) <| lt_ (fun (y12 : Int64) (y13 : Int64) (f4_14 : (Nat → Int32)) => lt_ (y13 + y12) fun x15 => gz_ (y10 + y4 < 0 ∨ 520 ≤ (y10 + y4).toNatClampNeg) <| lt_ (upd f4_14 (y10 + y4).toNatClampNeg ((x15 &&& (65535 : Int64)).toInt32)) fun f4_16 => lt_ (x15 >>> (((16 : Int32)).toInt64 &&& 63)) fun x17 => lt_ (y10 + Int32.ofInt 1) fun x18 => F_Rs_times_L51 f1 a2 a3 y4 x6 j118 n x17 x18 f4_16) fun j87 => if a2 ≤ y10 then (j87 (0 : Int64) (((f4_11 (y10 + y4).toNatClampNeg).toInt64) + y9) f4_11) else (gz_ (y10 < 0 ∨ 520 ≤ (y10).toNatClampNeg) <| j87 (((f1 (y10).toNatClampNeg).toInt64) * x6) (((f4_11 (y10 + y4).toNatClampNeg).toInt64) + y9) f4_11))) = some r := h
              refine lv_iload hx hb d_Rs_times_51 (lv_at hl 7 rfl) ?_
              refine lv_iload_n hx hb d_Rs_times_53 rfl (lv_at hl 1 rfl) ?_
              refine lv_icmp_gt (tgt := 118) hx hb d_Rs_times_54 rfl (fun hc => ?_) (fun hc => ?_)
              · have h := ite_t hc h
                exact hJ118 _ ls _ _ (lv_sub hl [0, 1, 2, 3, 4] rfl) hP hD hS h
              · have h := ite_f hc h
                refine lv_aload hx hb d_Rs_times_57 (lv_at hl 3 rfl) ?_
                refine lv_iload hx hb d_Rs_times_59 (lv_at hl 7 rfl) ?_
                refine lv_iload hx hb d_Rs_times_61 (lv_at hl 4 rfl) ?_
                refine lv_iadd hx hb d_Rs_times_63 ?_
                have hi := gz_n h
                have h := gz_h h
                refine va_iald hx hb hK hP q4 0 (hg4 _ _) rfl hi d_Rs_times_64 ?_
                refine lv_i2l hx hb d_Rs_times_65 rfl ?_
                refine lv_lload hx hb d_Rs_times_66 (lv_at hl 6 rfl) ?_
                refine lv_ladd hx hb d_Rs_times_68 ?_
                refine lv_iload hx hb d_Rs_times_69 (lv_at hl 7 rfl) ?_
                refine lv_iload_n hx hb d_Rs_times_71 rfl (lv_at hl 1 rfl) ?_
                obtain ⟨j87, e_j87, h⟩ := lt_o h
                have hJ87 : ∀ (y12 : Int64) (y13 : Int64) (f4_14 : (Nat → Int32)) (ls : Array Slot) (H : Heap) (locs : List Loc), lv_has ls 14 [(1, .ref x1), (2, .int a2), (3, .long a3), (5, .ref x4), (6, .int y4), (7, .long x6), (11, .int y10)] → va_P D cls (wA (wA ws q1 x1 cI 520 f1) q4 x4 cI 520 f4_14) H → va_D A (wA (wA ws q1 x1 cI 520 f1) q4 x4 cI 520 f4_14) → va_S A s.heap H locs → j87 y12 y13 f4_14 = some r → W p l e ({ frames := 1, cells := 0, slots := 0, locals := 22 } : Room) s m args below meth c H locs 0 0 Q (F0 m 87 ls [.long y12, .long y13]) := by
                  intro y12 y13 f4_14 ls H locs hl hP hD hS h
                  rw [e_j87] at h
                  refine lv_ladd hx hb d_Rs_times_87 ?_
                  refine lv_topl (fun x15 e_x15 => ?_)
                  have h := lt_h e_x15 h
                  refine lv_lstore hx hb d_Rs_times_88 hl (by decide) rfl (fun ls hl => ?_)
                  have hl : lv_has ls 14 [(12, .long x15), (1, .ref x1), (2, .int a2), (3, .long a3), (5, .ref x4), (6, .int y4), (7, .long x6), (11, .int y10)] := hl
                  refine lv_aload hx hb d_Rs_times_90 (lv_at hl 4 rfl) ?_
                  refine lv_iload hx hb d_Rs_times_92 (lv_at hl 7 rfl) ?_
                  refine lv_iload hx hb d_Rs_times_94 (lv_at hl 5 rfl) ?_
                  refine lv_iadd hx hb d_Rs_times_96 ?_
                  refine lv_lload hx hb d_Rs_times_97 (lv_at hl 0 rfl) ?_
                  refine lv_ldc2 hx hb hown (hT _ m_322) d_Rs_times_99 ?_
                  refine lv_land hx hb d_Rs_times_102 ?_
                  refine lv_l2i hx hb d_Rs_times_103 rfl ?_
                  have hi := gz_n h
                  have h := gz_h h
                  refine va_iast hx hb hK hP hD hS q4 0 (hg4 _ _) rfl hi d_Rs_times_104 (fun H locs hP hD hS => ?_)
                  rw [wA_set] at hP hD
                  have hP : va_P D cls (wA (wA ws q1 x1 cI 520 f1) q4 x4 cI 520 (upd f4_14 (y10 + y4).toNatClampNeg ((x15 &&& (65535 : Int64)).toInt32))) H := hP
                  have hD : va_D A (wA (wA ws q1 x1 cI 520 f1) q4 x4 cI 520 (upd f4_14 (y10 + y4).toNatClampNeg ((x15 &&& (65535 : Int64)).toInt32))) := hD
                  obtain ⟨f4_16, e_f4_16, h⟩ := lt_o h
                  rw [← e_f4_16] at hP hD
                  refine lv_lload hx hb d_Rs_times_105 (lv_at hl 0 rfl) ?_
                  refine lv_bipush hx hb d_Rs_times_107 bp_16 ?_
                  refine lv_lshr hx hb d_Rs_times_109 rfl ?_
                  refine lv_topl (fun x17 e_x17 => ?_)
                  have h := lt_h e_x17 h
                  refine lv_lstore hx hb d_Rs_times_110 hl (by decide) rfl (fun ls hl => ?_)
                  have hl : lv_has ls 14 [(9, .long x17), (12, .long x15), (1, .ref x1), (2, .int a2), (3, .long a3), (5, .ref x4), (6, .int y4), (7, .long x6), (11, .int y10)] := hl
                  obtain ⟨x18, e_x18⟩ : ∃ z, z = y10 + Int32.ofInt 1 := ⟨_, rfl⟩
                  have h := lt_h e_x18 h
                  refine lv_iinc (k := 8) hx hb d_Rs_times_112 hl rfl e_x18.symm (by decide) rfl (fun ls hl => ?_)
                  have hl : lv_has ls 14 [(11, .int x18), (9, .long x17), (12, .long x15), (1, .ref x1), (2, .int a2), (3, .long a3), (5, .ref x4), (6, .int y4), (7, .long x6)] := hl
                  refine lv_goto (tgt := 51) hx hb d_Rs_times_115 rfl ?_
                  exact ih _ _ _ ls _ _ (lv_sub hl [3, 4, 5, 6, 7, 8, 1, 0] rfl) hP hD hS h
                refine lv_icmp_ge (tgt := 86) hx hb d_Rs_times_72 rfl (fun hc => ?_) (fun hc => ?_)
                · have h := ite_t hc h
                  refine lv_lconst hx hb d_Rs_times_86 lc_0 ?_
                  exact hJ87 _ _ _ ls _ _ (lv_sub hl [0, 1, 2, 3, 4, 5, 7] rfl) hP hD hS h
                · have h := ite_f hc h
                  refine lv_aload_n hx hb d_Rs_times_75 rfl (lv_at hl 0 rfl) ?_
                  refine lv_iload hx hb d_Rs_times_76 (lv_at hl 7 rfl) ?_
                  have hi := gz_n h
                  have h := gz_h h
                  refine va_iald hx hb hK hP q1 0 (hg1 _ _) rfl hi d_Rs_times_78 ?_
                  refine lv_i2l hx hb d_Rs_times_79 rfl ?_
                  refine lv_lload hx hb d_Rs_times_80 (lv_at hl 5 rfl) ?_
                  refine lv_lmul hx hb d_Rs_times_82 ?_
                  refine lv_goto (tgt := 87) hx hb d_Rs_times_83 rfl ?_
                  exact hJ87 _ _ _ ls _ _ (lv_sub hl [0, 1, 2, 3, 4, 5, 7] rfl) hP hD hS h
          exact hL51 n _ _ _ ls _ _ (lv_sub hl [3, 4, 5, 6, 7, 2, 1, 0] rfl) hP hD hS h
    exact hL26 n _ _ ls _ _ (lv_sub hl [1, 2, 3, 4, 0] rfl) hP hD hS h
  have hL3 : ∀ (n : Nat) (y19 : Int32) (f4_20 : (Nat → Int32)) (ls : Array Slot) (H : Heap) (locs : List Loc), lv_has ls 14 [(1, .ref x1), (2, .int a2), (3, .long a3), (5, .ref x4), (6, .int y19)] → va_P D cls (wA (wA ws q1 x1 cI 520 f1) q4 x4 cI 520 f4_20) H → va_D A (wA (wA ws q1 x1 cI 520 f1) q4 x4 cI 520 f4_20) → va_S A s.heap H locs → F_Rs_times_L3 f1 a2 a3 j23 n y19 f4_20 = some r → W p l e ({ frames := 1, cells := 0, slots := 0, locals := 22 } : Room) s m args below meth c H locs 0 0 Q (F0 m 3 ls []) := by
    intro n
    induction n with
    | zero => intro y19 f4_20 ls H locs hl hP hD hS h; exact no_s h
    | succ n ih =>
      intro y19 f4_20 ls H locs hl hP hD hS h
      have h : (if (a2 + (5 : Int32)) ≤ y19 then (j23 f4_20) else (gz_ (y19 < 0 ∨ 520 ≤ (y19).toNatClampNeg) <| lt_ (upd f4_20 (y19).toNatClampNeg (0 : Int32)) fun f4_21 => lt_ (y19 + Int32.ofInt 1) fun x22 => F_Rs_times_L3 f1 a2 a3 j23 n x22 f4_21)) = some r := h
      refine lv_iload hx hb d_Rs_times_3 (lv_at hl 4 rfl) ?_
      refine lv_iload_n hx hb d_Rs_times_5 rfl (lv_at hl 1 rfl) ?_
      refine lv_iconst hx hb d_Rs_times_6 ic_5 ?_
      refine lv_iadd hx hb d_Rs_times_7 ?_
      refine lv_icmp_ge (tgt := 23) hx hb d_Rs_times_8 rfl (fun hc => ?_) (fun hc => ?_)
      · have h := ite_t hc h
        exact hJ23 _ ls _ _ (lv_sub hl [0, 1, 2, 3] rfl) hP hD hS h
      · have h := ite_f hc h
        refine lv_aload hx hb d_Rs_times_11 (lv_at hl 3 rfl) ?_
        refine lv_iload hx hb d_Rs_times_13 (lv_at hl 4 rfl) ?_
        refine lv_iconst hx hb d_Rs_times_15 ic_0 ?_
        have hi := gz_n h
        have h := gz_h h
        refine va_iast hx hb hK hP hD hS q4 0 (hg4 _ _) rfl hi d_Rs_times_16 (fun H locs hP hD hS => ?_)
        rw [wA_set] at hP hD
        have hP : va_P D cls (wA (wA ws q1 x1 cI 520 f1) q4 x4 cI 520 (upd f4_20 (y19).toNatClampNeg (0 : Int32))) H := hP
        have hD : va_D A (wA (wA ws q1 x1 cI 520 f1) q4 x4 cI 520 (upd f4_20 (y19).toNatClampNeg (0 : Int32))) := hD
        obtain ⟨f4_21, e_f4_21, h⟩ := lt_o h
        rw [← e_f4_21] at hP hD
        obtain ⟨x22, e_x22⟩ : ∃ z, z = y19 + Int32.ofInt 1 := ⟨_, rfl⟩
        have h := lt_h e_x22 h
        refine lv_iinc (k := 4) hx hb d_Rs_times_17 hl rfl e_x22.symm (by decide) rfl (fun ls hl => ?_)
        have hl : lv_has ls 14 [(6, .int x22), (1, .ref x1), (2, .int a2), (3, .long a3), (5, .ref x4)] := hl
        refine lv_goto (tgt := 3) hx hb d_Rs_times_20 rfl ?_
        exact ih _ _ ls _ _ (lv_sub hl [1, 2, 3, 4, 0] rfl) hP hD hS h
  exact hL3 n _ _ ls _ _ (lv_sub hl [2, 3, 4, 5, 0] rfl) hP hD hS h
-- Rs_shifted
theorem d_Rs_shifted_0 : decode b_Rs_shifted 0 = .ok (.iload_n 2, 1) := by decide +kernel
theorem d_Rs_shifted_1 : decode b_Rs_shifted 1 = .ok (.bipush 16, 2) := by decide +kernel
theorem d_Rs_shifted_3 : decode b_Rs_shifted 3 = .ok (.idiv, 1) := by decide +kernel
theorem d_Rs_shifted_4 : decode b_Rs_shifted 4 = .ok (.istore_n 3, 1) := by decide +kernel
theorem d_Rs_shifted_5 : decode b_Rs_shifted 5 = .ok (.iload_n 2, 1) := by decide +kernel
theorem d_Rs_shifted_6 : decode b_Rs_shifted 6 = .ok (.bipush 16, 2) := by decide +kernel
theorem d_Rs_shifted_8 : decode b_Rs_shifted 8 = .ok (.iload_n 3, 1) := by decide +kernel
theorem d_Rs_shifted_9 : decode b_Rs_shifted 9 = .ok (.imul, 1) := by decide +kernel
theorem d_Rs_shifted_10 : decode b_Rs_shifted 10 = .ok (.isub, 1) := by decide +kernel
theorem d_Rs_shifted_11 : decode b_Rs_shifted 11 = .ok (.istore 4, 2) := by decide +kernel
theorem d_Rs_shifted_13 : decode b_Rs_shifted 13 = .ok (.iload_n 1, 1) := by decide +kernel
theorem d_Rs_shifted_14 : decode b_Rs_shifted 14 = .ok (.iconst 1, 1) := by decide +kernel
theorem d_Rs_shifted_15 : decode b_Rs_shifted 15 = .ok (.isub, 1) := by decide +kernel
theorem d_Rs_shifted_16 : decode b_Rs_shifted 16 = .ok (.istore 5, 2) := by decide +kernel
theorem d_Rs_shifted_18 : decode b_Rs_shifted 18 = .ok (.iload 5, 2) := by decide +kernel
theorem d_Rs_shifted_20 : decode b_Rs_shifted 20 = .ok (.ifCond .lt 19, 3) := by decide +kernel
theorem d_Rs_shifted_23 : decode b_Rs_shifted 23 = .ok (.aload_n 0, 1) := by decide +kernel
theorem d_Rs_shifted_24 : decode b_Rs_shifted 24 = .ok (.iload 5, 2) := by decide +kernel
theorem d_Rs_shifted_26 : decode b_Rs_shifted 26 = .ok (.iload_n 3, 1) := by decide +kernel
theorem d_Rs_shifted_27 : decode b_Rs_shifted 27 = .ok (.iadd, 1) := by decide +kernel
theorem d_Rs_shifted_28 : decode b_Rs_shifted 28 = .ok (.aload_n 0, 1) := by decide +kernel
theorem d_Rs_shifted_29 : decode b_Rs_shifted 29 = .ok (.iload 5, 2) := by decide +kernel
theorem d_Rs_shifted_31 : decode b_Rs_shifted 31 = .ok (.iaload, 1) := by decide +kernel
theorem d_Rs_shifted_32 : decode b_Rs_shifted 32 = .ok (.iastore, 1) := by decide +kernel
theorem d_Rs_shifted_33 : decode b_Rs_shifted 33 = .ok (.iinc 5 (-1), 3) := by decide +kernel
theorem d_Rs_shifted_36 : decode b_Rs_shifted 36 = .ok (.goto (-18), 3) := by decide +kernel
theorem d_Rs_shifted_39 : decode b_Rs_shifted 39 = .ok (.iconst 0, 1) := by decide +kernel
theorem d_Rs_shifted_40 : decode b_Rs_shifted 40 = .ok (.istore 5, 2) := by decide +kernel
theorem d_Rs_shifted_42 : decode b_Rs_shifted 42 = .ok (.iload 5, 2) := by decide +kernel
theorem d_Rs_shifted_44 : decode b_Rs_shifted 44 = .ok (.iload_n 3, 1) := by decide +kernel
theorem d_Rs_shifted_45 : decode b_Rs_shifted 45 = .ok (.if_icmp .ge 14, 3) := by decide +kernel
theorem d_Rs_shifted_48 : decode b_Rs_shifted 48 = .ok (.aload_n 0, 1) := by decide +kernel
theorem d_Rs_shifted_49 : decode b_Rs_shifted 49 = .ok (.iload 5, 2) := by decide +kernel
theorem d_Rs_shifted_51 : decode b_Rs_shifted 51 = .ok (.iconst 0, 1) := by decide +kernel
theorem d_Rs_shifted_52 : decode b_Rs_shifted 52 = .ok (.iastore, 1) := by decide +kernel
theorem d_Rs_shifted_53 : decode b_Rs_shifted 53 = .ok (.iinc 5 1, 3) := by decide +kernel
theorem d_Rs_shifted_56 : decode b_Rs_shifted 56 = .ok (.goto (-14), 3) := by decide +kernel
theorem d_Rs_shifted_59 : decode b_Rs_shifted 59 = .ok (.aload_n 0, 1) := by decide +kernel
theorem d_Rs_shifted_60 : decode b_Rs_shifted 60 = .ok (.iload_n 1, 1) := by decide +kernel
theorem d_Rs_shifted_61 : decode b_Rs_shifted 61 = .ok (.iload_n 3, 1) := by decide +kernel
theorem d_Rs_shifted_62 : decode b_Rs_shifted 62 = .ok (.iadd, 1) := by decide +kernel
theorem d_Rs_shifted_63 : decode b_Rs_shifted 63 = .ok (.iconst 1, 1) := by decide +kernel
theorem d_Rs_shifted_64 : decode b_Rs_shifted 64 = .ok (.iload 4, 2) := by decide +kernel
theorem d_Rs_shifted_66 : decode b_Rs_shifted 66 = .ok (.ishl, 1) := by decide +kernel
theorem d_Rs_shifted_67 : decode b_Rs_shifted 67 = .ok (.iconst 0, 1) := by decide +kernel
theorem d_Rs_shifted_68 : decode b_Rs_shifted 68 = .ok (.invokestatic 55, 3) := by decide +kernel
theorem d_Rs_shifted_71 : decode b_Rs_shifted 71 = .ok (.ireturn, 1) := by decide +kernel
def F_Rs_shifted_L42 (a1 : Int32) (x1 : Int32) (x2 : Int32) (j59 : ((Nat → Int32) → Option (Int32 × (Nat → Int32)))) : Nat → Int32 → (Nat → Int32) → Option (Int32 × (Nat → Int32))
  | 0, _, _ => none
  | n+1, y7, f0_8 => if x1 ≤ y7 then (j59 f0_8) else (gz_ (y7 < 0 ∨ 520 ≤ (y7).toNatClampNeg) <| lt_ (upd f0_8 (y7).toNatClampNeg (0 : Int32)) fun f0_9 => lt_ (y7 + Int32.ofInt 1) fun x10 => F_Rs_shifted_L42 a1 x1 x2 j59 n x10 f0_9)
def F_Rs_shifted_L18 (a1 : Int32) (x1 : Int32) (x2 : Int32) (j39 : ((Nat → Int32) → Option (Int32 × (Nat → Int32)))) : Nat → Int32 → (Nat → Int32) → Option (Int32 × (Nat → Int32))
  | 0, _, _ => none
  | n+1, y11, f0_12 => if y11 < 0 then (j39 f0_12) else (gz_ (y11 < 0 ∨ 520 ≤ (y11).toNatClampNeg) <| gz_ (y11 + x1 < 0 ∨ 520 ≤ (y11 + x1).toNatClampNeg) <| lt_ (upd f0_12 (y11 + x1).toNatClampNeg (f0_12 (y11).toNatClampNeg)) fun f0_13 => lt_ (y11 + Int32.ofInt (-1)) fun x14 => F_Rs_shifted_L18 a1 x1 x2 j39 n x14 f0_13)
def F_Rs_shifted (n : Nat) (f0 : Nat → Int32) (a1 : Int32) (a2 : Int32) : Option (Int32 × (Nat → Int32)) := lt_ (a2 / (16 : Int32)) fun x1 => lt_ (a2 - ((16 : Int32) * x1)) fun x2 => lt_ (a1 - (1 : Int32)) fun x3 => lt_ (fun (f0_4 : (Nat → Int32)) => lt_ (fun (f0_5 : (Nat → Int32)) => (F_Rs_grow n f0_5 (a1 + x1) ((1 : Int32) <<< (x2 &&& 31)) (0 : Int32)).bind fun x6 => some (x6.1, x6.2)) fun j59 => F_Rs_shifted_L42 a1 x1 x2 j59 n (0 : Int32) f0_4) fun j39 => F_Rs_shifted_L18 a1 x1 x2 j39 n x3 f0
set_option maxHeartbeats 4000000 in
set_option maxRecDepth 100000 in
theorem c_Rs_shifted (l : Launch) (D : va_G) (A : Nat → Prop) (cI cL cC : ClassId) (ws : va_W) (q0 x0 : Nat) (f0 : Nat → Int32) {z0 : Nat × va_E} (hz0 : ws[q0]? = some z0) (n : Nat) (a1 : Int32) (a2 : Int32) (r : Int32 × (Nat → Int32)) (h : F_Rs_shifted n f0 a1 a2 = some r) : Met l y_Rs_shifted (.code y_Rs_shifted b_Rs_shifted 6 (some .int) :: BIG) ({ frames := 2, cells := 0, slots := 0, locals := 50 } : Room) (va_Pc [.ref x0, .int a1, .int a2] (gPre D A (tysV cI cL cC) (wA ws q0 x0 cI 520 f0))) (gQ D A (some (.int r.1)) (wA ws q0 x0 cI 520 r.2)) 0 0 A := by
  refine gOpen_i rfl (Nat.le_of_ble_eq_true rfl) ?_
  intro p e s m args below meth c Q ls hx hb hml hown hts hT hNB hP hK hD hl hret
  have hown : s.vm.findClass R_Rs = some m.cls := hown
  have hS : va_S A s.heap s.heap [] := va_S.rf
  have hl : lv_has ls 6 [(0, .ref x0), (1, .int a1), (2, .int a2)] := hl
  have hg0 : ∀ (f0 : Nat → Int32), (wA ws q0 x0 cI 520 f0)[q0]? = some (x0, .inl (cI, 520, .inl f0)) := fun f0 => wA_get (List.getElem?_eq_some_iff.mp hz0).1
  have h : (lt_ (a2 / (16 : Int32)) fun x1 => lt_ (a2 - ((16 : Int32) * x1)) fun x2 => lt_ (a1 - (1 : Int32)) fun x3 => lt_ (fun (f0_4 : (Nat → Int32)) => lt_ (fun (f0_5 : (Nat → Int32)) => (F_Rs_grow n f0_5 (a1 + x1) ((1 : Int32) <<< (x2 &&& 31)) (0 : Int32)).bind fun x6 => some (x6.1, x6.2)) fun j59 => F_Rs_shifted_L42 a1 x1 x2 j59 n (0 : Int32) f0_4) fun j39 => F_Rs_shifted_L18 a1 x1 x2 j39 n x3 f0) = some r := h
  refine lv_iload_n hx hb d_Rs_shifted_0 rfl (lv_at hl 2 rfl) ?_
  refine lv_bipush hx hb d_Rs_shifted_1 bp_16 ?_
  refine lv_idiv hx hb d_Rs_shifted_3 (by decide) ?_
  refine lv_topi (fun x1 e_x1 => ?_)
  have h := lt_h e_x1 h
  refine lv_istore_n hx hb d_Rs_shifted_4 rfl hl (by decide) rfl (fun ls hl => ?_)
  have hl : lv_has ls 6 [(3, .int x1), (0, .ref x0), (1, .int a1), (2, .int a2)] := hl
  refine lv_iload_n hx hb d_Rs_shifted_5 rfl (lv_at hl 3 rfl) ?_
  refine lv_bipush hx hb d_Rs_shifted_6 bp_16 ?_
  refine lv_iload_n hx hb d_Rs_shifted_8 rfl (lv_at hl 0 rfl) ?_
  refine lv_imul hx hb d_Rs_shifted_9 ?_
  refine lv_isub hx hb d_Rs_shifted_10 ?_
  refine lv_topi (fun x2 e_x2 => ?_)
  have h := lt_h e_x2 h
  refine lv_istore hx hb d_Rs_shifted_11 hl (by decide) rfl (fun ls hl => ?_)
  have hl : lv_has ls 6 [(4, .int x2), (3, .int x1), (0, .ref x0), (1, .int a1), (2, .int a2)] := hl
  refine lv_iload_n hx hb d_Rs_shifted_13 rfl (lv_at hl 3 rfl) ?_
  refine lv_iconst hx hb d_Rs_shifted_14 ic_1 ?_
  refine lv_isub hx hb d_Rs_shifted_15 ?_
  refine lv_topi (fun x3 e_x3 => ?_)
  have h := lt_h e_x3 h
  refine lv_istore hx hb d_Rs_shifted_16 hl (by decide) rfl (fun ls hl => ?_)
  have hl : lv_has ls 6 [(5, .int x3), (4, .int x2), (3, .int x1), (0, .ref x0), (1, .int a1), (2, .int a2)] := hl
  obtain ⟨j39, e_j39, h⟩ := lt_o h
  have hJ39 : ∀ (f0_4 : (Nat → Int32)) (ls : Array Slot) (H : Heap) (locs : List Loc), lv_has ls 6 [(0, .ref x0), (1, .int a1), (3, .int x1), (4, .int x2)] → va_P D cls (wA ws q0 x0 cI 520 f0_4) H → va_D A (wA ws q0 x0 cI 520 f0_4) → va_S A s.heap H locs → j39 f0_4 = some r → W p l e ({ frames := 2, cells := 0, slots := 0, locals := 50 } : Room) s m args below meth c H locs 0 0 Q (F0 m 39 ls []) := by
    intro f0_4 ls H locs hl hP hD hS h
    rw [e_j39] at h
    refine lv_iconst hx hb d_Rs_shifted_39 ic_0 ?_
    refine lv_istore hx hb d_Rs_shifted_40 hl (by decide) rfl (fun ls hl => ?_)
    have hl : lv_has ls 6 [(5, .int (0 : Int32)), (0, .ref x0), (1, .int a1), (3, .int x1), (4, .int x2)] := hl
    obtain ⟨j59, e_j59, h⟩ := lt_o h
    have hJ59 : ∀ (f0_5 : (Nat → Int32)) (ls : Array Slot) (H : Heap) (locs : List Loc), lv_has ls 6 [(0, .ref x0), (1, .int a1), (3, .int x1), (4, .int x2)] → va_P D cls (wA ws q0 x0 cI 520 f0_5) H → va_D A (wA ws q0 x0 cI 520 f0_5) → va_S A s.heap H locs → j59 f0_5 = some r → W p l e ({ frames := 2, cells := 0, slots := 0, locals := 50 } : Room) s m args below meth c H locs 0 0 Q (F0 m 59 ls []) := by
      intro f0_5 ls H locs hl hP hD hS h
      rw [e_j59] at h
      refine lv_aload_n hx hb d_Rs_shifted_59 rfl (lv_at hl 0 rfl) ?_
      refine lv_iload_n hx hb d_Rs_shifted_60 rfl (lv_at hl 1 rfl) ?_
      refine lv_iload_n hx hb d_Rs_shifted_61 rfl (lv_at hl 2 rfl) ?_
      refine lv_iadd hx hb d_Rs_shifted_62 ?_
      refine lv_iconst hx hb d_Rs_shifted_63 ic_1 ?_
      refine lv_iload hx hb d_Rs_shifted_64 (lv_at hl 3 rfl) ?_
      refine lv_ishl hx hb d_Rs_shifted_66 ?_
      refine lv_iconst hx hb d_Rs_shifted_67 ic_0 ?_
      obtain ⟨x6, e_x6, h⟩ := bd_o h
      refine q_GS (D := D) (A := A) (As := [.ref x0, .int (a1 + x1), .int ((1 : Int32) <<< (x2 &&& 31)), .int (0 : Int32)]) (rest := []) (n := 4) hx hb hml hown hts (c_Rs_grow l D A cI cL cC (ws) q0 x0 f0_5 (hz0 := hz0) n (a1 + x1) ((1 : Int32) <<< (x2 &&& 31)) (0 : Int32) x6 e_x6) rfl rfl m_323 m_324 m_325 m_318 (by decide +kernel) ⟨Nat.le_of_ble_eq_true rfl, Nat.le_of_ble_eq_true rfl⟩ hNB hK hP hD hS rfl hl.1 rfl (Nat.le_of_ble_eq_true rfl) d_Rs_shifted_68 ⟨Nat.zero_le _, Nat.zero_le _⟩ (fun H locs hP hD hS => ?_)
      have hP : va_P D cls (wA ws q0 x0 cI 520 x6.2) H := hP
      have hD : va_D A (wA ws q0 x0 cI 520 x6.2) := hD
      obtain rfl := Option.some.inj h
      exact hret 71 ls _ _ _ rfl hP hD hS d_Rs_shifted_71
    have hL42 : ∀ (n : Nat) (y7 : Int32) (f0_8 : (Nat → Int32)) (ls : Array Slot) (H : Heap) (locs : List Loc), lv_has ls 6 [(0, .ref x0), (1, .int a1), (3, .int x1), (4, .int x2), (5, .int y7)] → va_P D cls (wA ws q0 x0 cI 520 f0_8) H → va_D A (wA ws q0 x0 cI 520 f0_8) → va_S A s.heap H locs → F_Rs_shifted_L42 a1 x1 x2 j59 n y7 f0_8 = some r → W p l e ({ frames := 2, cells := 0, slots := 0, locals := 50 } : Room) s m args below meth c H locs 0 0 Q (F0 m 42 ls []) := by
      intro n
      induction n with
      | zero => intro y7 f0_8 ls H locs hl hP hD hS h; exact no_s h
      | succ n ih =>
        intro y7 f0_8 ls H locs hl hP hD hS h
        have h : (if x1 ≤ y7 then (j59 f0_8) else (gz_ (y7 < 0 ∨ 520 ≤ (y7).toNatClampNeg) <| lt_ (upd f0_8 (y7).toNatClampNeg (0 : Int32)) fun f0_9 => lt_ (y7 + Int32.ofInt 1) fun x10 => F_Rs_shifted_L42 a1 x1 x2 j59 n x10 f0_9)) = some r := h
        refine lv_iload hx hb d_Rs_shifted_42 (lv_at hl 4 rfl) ?_
        refine lv_iload_n hx hb d_Rs_shifted_44 rfl (lv_at hl 2 rfl) ?_
        refine lv_icmp_ge (tgt := 59) hx hb d_Rs_shifted_45 rfl (fun hc => ?_) (fun hc => ?_)
        · have h := ite_t hc h
          exact hJ59 _ ls _ _ (lv_sub hl [0, 1, 2, 3] rfl) hP hD hS h
        · have h := ite_f hc h
          refine lv_aload_n hx hb d_Rs_shifted_48 rfl (lv_at hl 0 rfl) ?_
          refine lv_iload hx hb d_Rs_shifted_49 (lv_at hl 4 rfl) ?_
          refine lv_iconst hx hb d_Rs_shifted_51 ic_0 ?_
          have hi := gz_n h
          have h := gz_h h
          refine va_iast hx hb hK hP hD hS q0 0 (hg0 _) rfl hi d_Rs_shifted_52 (fun H locs hP hD hS => ?_)
          rw [wA_set] at hP hD
          have hP : va_P D cls (wA ws q0 x0 cI 520 (upd f0_8 (y7).toNatClampNeg (0 : Int32))) H := hP
          have hD : va_D A (wA ws q0 x0 cI 520 (upd f0_8 (y7).toNatClampNeg (0 : Int32))) := hD
          obtain ⟨f0_9, e_f0_9, h⟩ := lt_o h
          rw [← e_f0_9] at hP hD
          obtain ⟨x10, e_x10⟩ : ∃ z, z = y7 + Int32.ofInt 1 := ⟨_, rfl⟩
          have h := lt_h e_x10 h
          refine lv_iinc (k := 4) hx hb d_Rs_shifted_53 hl rfl e_x10.symm (by decide) rfl (fun ls hl => ?_)
          have hl : lv_has ls 6 [(5, .int x10), (0, .ref x0), (1, .int a1), (3, .int x1), (4, .int x2)] := hl
          refine lv_goto (tgt := 42) hx hb d_Rs_shifted_56 rfl ?_
          exact ih _ _ ls _ _ (lv_sub hl [1, 2, 3, 4, 0] rfl) hP hD hS h
    exact hL42 n _ _ ls _ _ (lv_sub hl [1, 2, 3, 4, 0] rfl) hP hD hS h
  have hL18 : ∀ (n : Nat) (y11 : Int32) (f0_12 : (Nat → Int32)) (ls : Array Slot) (H : Heap) (locs : List Loc), lv_has ls 6 [(0, .ref x0), (1, .int a1), (3, .int x1), (4, .int x2), (5, .int y11)] → va_P D cls (wA ws q0 x0 cI 520 f0_12) H → va_D A (wA ws q0 x0 cI 520 f0_12) → va_S A s.heap H locs → F_Rs_shifted_L18 a1 x1 x2 j39 n y11 f0_12 = some r → W p l e ({ frames := 2, cells := 0, slots := 0, locals := 50 } : Room) s m args below meth c H locs 0 0 Q (F0 m 18 ls []) := by
    intro n
    induction n with
    | zero => intro y11 f0_12 ls H locs hl hP hD hS h; exact no_s h
    | succ n ih =>
      intro y11 f0_12 ls H locs hl hP hD hS h
      have h : (if y11 < 0 then (j39 f0_12) else (gz_ (y11 < 0 ∨ 520 ≤ (y11).toNatClampNeg) <| gz_ (y11 + x1 < 0 ∨ 520 ≤ (y11 + x1).toNatClampNeg) <| lt_ (upd f0_12 (y11 + x1).toNatClampNeg (f0_12 (y11).toNatClampNeg)) fun f0_13 => lt_ (y11 + Int32.ofInt (-1)) fun x14 => F_Rs_shifted_L18 a1 x1 x2 j39 n x14 f0_13)) = some r := h
      refine lv_iload hx hb d_Rs_shifted_18 (lv_at hl 4 rfl) ?_
      refine lv_if_lt (tgt := 39) hx hb d_Rs_shifted_20 rfl (fun hc => ?_) (fun hc => ?_)
      · have h := ite_t hc h
        exact hJ39 _ ls _ _ (lv_sub hl [0, 1, 2, 3] rfl) hP hD hS h
      · have h := ite_f hc h
        refine lv_aload_n hx hb d_Rs_shifted_23 rfl (lv_at hl 0 rfl) ?_
        refine lv_iload hx hb d_Rs_shifted_24 (lv_at hl 4 rfl) ?_
        refine lv_iload_n hx hb d_Rs_shifted_26 rfl (lv_at hl 2 rfl) ?_
        refine lv_iadd hx hb d_Rs_shifted_27 ?_
        refine lv_aload_n hx hb d_Rs_shifted_28 rfl (lv_at hl 0 rfl) ?_
        refine lv_iload hx hb d_Rs_shifted_29 (lv_at hl 4 rfl) ?_
        have hi := gz_n h
        have h := gz_h h
        refine va_iald hx hb hK hP q0 0 (hg0 _) rfl hi d_Rs_shifted_31 ?_
        have hi := gz_n h
        have h := gz_h h
        refine va_iast hx hb hK hP hD hS q0 0 (hg0 _) rfl hi d_Rs_shifted_32 (fun H locs hP hD hS => ?_)
        rw [wA_set] at hP hD
        have hP : va_P D cls (wA ws q0 x0 cI 520 (upd f0_12 (y11 + x1).toNatClampNeg (f0_12 (y11).toNatClampNeg))) H := hP
        have hD : va_D A (wA ws q0 x0 cI 520 (upd f0_12 (y11 + x1).toNatClampNeg (f0_12 (y11).toNatClampNeg))) := hD
        obtain ⟨f0_13, e_f0_13, h⟩ := lt_o h
        rw [← e_f0_13] at hP hD
        obtain ⟨x14, e_x14⟩ : ∃ z, z = y11 + Int32.ofInt (-1) := ⟨_, rfl⟩
        have h := lt_h e_x14 h
        refine lv_iinc (k := 4) hx hb d_Rs_shifted_33 hl rfl e_x14.symm (by decide) rfl (fun ls hl => ?_)
        have hl : lv_has ls 6 [(5, .int x14), (0, .ref x0), (1, .int a1), (3, .int x1), (4, .int x2)] := hl
        refine lv_goto (tgt := 18) hx hb d_Rs_shifted_36 rfl ?_
        exact ih _ _ ls _ _ (lv_sub hl [1, 2, 3, 4, 0] rfl) hP hD hS h
  exact hL18 n _ _ ls _ _ (lv_sub hl [3, 4, 2, 1, 0] rfl) hP hD hS h
-- Rs_compare
theorem d_Rs_compare_0 : decode b_Rs_compare 0 = .ok (.aload_n 0, 1) := by decide +kernel
theorem d_Rs_compare_1 : decode b_Rs_compare 1 = .ok (.getfield 59, 3) := by decide +kernel
theorem d_Rs_compare_4 : decode b_Rs_compare 4 = .ok (.iload_n 3, 1) := by decide +kernel
theorem d_Rs_compare_5 : decode b_Rs_compare 5 = .ok (.isub, 1) := by decide +kernel
theorem d_Rs_compare_6 : decode b_Rs_compare 6 = .ok (.istore 4, 2) := by decide +kernel
theorem d_Rs_compare_8 : decode b_Rs_compare 8 = .ok (.iconst 0, 1) := by decide +kernel
theorem d_Rs_compare_9 : decode b_Rs_compare 9 = .ok (.istore 5, 2) := by decide +kernel
theorem d_Rs_compare_11 : decode b_Rs_compare 11 = .ok (.iload 5, 2) := by decide +kernel
theorem d_Rs_compare_13 : decode b_Rs_compare 13 = .ok (.aload_n 0, 1) := by decide +kernel
theorem d_Rs_compare_14 : decode b_Rs_compare 14 = .ok (.getfield 62, 3) := by decide +kernel
theorem d_Rs_compare_17 : decode b_Rs_compare 17 = .ok (.if_icmp .ge 23, 3) := by decide +kernel
theorem d_Rs_compare_20 : decode b_Rs_compare 20 = .ok (.aload_n 0, 1) := by decide +kernel
theorem d_Rs_compare_21 : decode b_Rs_compare 21 = .ok (.getfield 25, 3) := by decide +kernel
theorem d_Rs_compare_24 : decode b_Rs_compare 24 = .ok (.iload 5, 2) := by decide +kernel
theorem d_Rs_compare_26 : decode b_Rs_compare 26 = .ok (.aload_n 0, 1) := by decide +kernel
theorem d_Rs_compare_27 : decode b_Rs_compare 27 = .ok (.getfield 16, 3) := by decide +kernel
theorem d_Rs_compare_30 : decode b_Rs_compare 30 = .ok (.iload 5, 2) := by decide +kernel
theorem d_Rs_compare_32 : decode b_Rs_compare 32 = .ok (.iaload, 1) := by decide +kernel
theorem d_Rs_compare_33 : decode b_Rs_compare 33 = .ok (.iastore, 1) := by decide +kernel
theorem d_Rs_compare_34 : decode b_Rs_compare 34 = .ok (.iinc 5 1, 3) := by decide +kernel
theorem d_Rs_compare_37 : decode b_Rs_compare 37 = .ok (.goto (-26), 3) := by decide +kernel
theorem d_Rs_compare_40 : decode b_Rs_compare 40 = .ok (.aload_n 0, 1) := by decide +kernel
theorem d_Rs_compare_41 : decode b_Rs_compare 41 = .ok (.iload 4, 2) := by decide +kernel
theorem d_Rs_compare_43 : decode b_Rs_compare 43 = .ok (.ifCond .le 26, 3) := by decide +kernel
theorem d_Rs_compare_46 : decode b_Rs_compare 46 = .ok (.aload_n 0, 1) := by decide +kernel
theorem d_Rs_compare_47 : decode b_Rs_compare 47 = .ok (.getfield 62, 3) := by decide +kernel
theorem d_Rs_compare_50 : decode b_Rs_compare 50 = .ok (.ifCond .le 19, 3) := by decide +kernel
theorem d_Rs_compare_53 : decode b_Rs_compare 53 = .ok (.aload_n 0, 1) := by decide +kernel
theorem d_Rs_compare_54 : decode b_Rs_compare 54 = .ok (.getfield 25, 3) := by decide +kernel
theorem d_Rs_compare_57 : decode b_Rs_compare 57 = .ok (.aload_n 0, 1) := by decide +kernel
theorem d_Rs_compare_58 : decode b_Rs_compare 58 = .ok (.getfield 62, 3) := by decide +kernel
theorem d_Rs_compare_61 : decode b_Rs_compare 61 = .ok (.iload 4, 2) := by decide +kernel
theorem d_Rs_compare_63 : decode b_Rs_compare 63 = .ok (.invokestatic 65, 3) := by decide +kernel
theorem d_Rs_compare_66 : decode b_Rs_compare 66 = .ok (.goto 7, 3) := by decide +kernel
theorem d_Rs_compare_69 : decode b_Rs_compare 69 = .ok (.aload_n 0, 1) := by decide +kernel
theorem d_Rs_compare_70 : decode b_Rs_compare 70 = .ok (.getfield 62, 3) := by decide +kernel
theorem d_Rs_compare_73 : decode b_Rs_compare 73 = .ok (.putfield 69, 3) := by decide +kernel
theorem d_Rs_compare_76 : decode b_Rs_compare 76 = .ok (.aload_n 0, 1) := by decide +kernel
theorem d_Rs_compare_77 : decode b_Rs_compare 77 = .ok (.aload_n 0, 1) := by decide +kernel
theorem d_Rs_compare_78 : decode b_Rs_compare 78 = .ok (.aload_n 0, 1) := by decide +kernel
theorem d_Rs_compare_79 : decode b_Rs_compare 79 = .ok (.getfield 19, 3) := by decide +kernel
theorem d_Rs_compare_82 : decode b_Rs_compare 82 = .ok (.aload_n 0, 1) := by decide +kernel
theorem d_Rs_compare_83 : decode b_Rs_compare 83 = .ok (.getfield 72, 3) := by decide +kernel
theorem d_Rs_compare_86 : decode b_Rs_compare 86 = .ok (.lload_n 1, 1) := by decide +kernel
theorem d_Rs_compare_87 : decode b_Rs_compare 87 = .ok (.aload_n 0, 1) := by decide +kernel
theorem d_Rs_compare_88 : decode b_Rs_compare 88 = .ok (.getfield 28, 3) := by decide +kernel
theorem d_Rs_compare_91 : decode b_Rs_compare 91 = .ok (.invokevirtual 75, 3) := by decide +kernel
theorem d_Rs_compare_94 : decode b_Rs_compare 94 = .ok (.putfield 79, 3) := by decide +kernel
theorem d_Rs_compare_97 : decode b_Rs_compare 97 = .ok (.iload 4, 2) := by decide +kernel
theorem d_Rs_compare_99 : decode b_Rs_compare 99 = .ok (.ifCond .ge 28, 3) := by decide +kernel
theorem d_Rs_compare_102 : decode b_Rs_compare 102 = .ok (.aload_n 0, 1) := by decide +kernel
theorem d_Rs_compare_103 : decode b_Rs_compare 103 = .ok (.getfield 79, 3) := by decide +kernel
theorem d_Rs_compare_106 : decode b_Rs_compare 106 = .ok (.ifCond .le 21, 3) := by decide +kernel
theorem d_Rs_compare_109 : decode b_Rs_compare 109 = .ok (.aload_n 0, 1) := by decide +kernel
theorem d_Rs_compare_110 : decode b_Rs_compare 110 = .ok (.aload_n 0, 1) := by decide +kernel
theorem d_Rs_compare_111 : decode b_Rs_compare 111 = .ok (.getfield 28, 3) := by decide +kernel
theorem d_Rs_compare_114 : decode b_Rs_compare 114 = .ok (.aload_n 0, 1) := by decide +kernel
theorem d_Rs_compare_115 : decode b_Rs_compare 115 = .ok (.getfield 79, 3) := by decide +kernel
theorem d_Rs_compare_118 : decode b_Rs_compare 118 = .ok (.iload 4, 2) := by decide +kernel
theorem d_Rs_compare_120 : decode b_Rs_compare 120 = .ok (.ineg, 1) := by decide +kernel
theorem d_Rs_compare_121 : decode b_Rs_compare 121 = .ok (.invokestatic 65, 3) := by decide +kernel
theorem d_Rs_compare_124 : decode b_Rs_compare 124 = .ok (.putfield 79, 3) := by decide +kernel
theorem d_Rs_compare_127 : decode b_Rs_compare 127 = .ok (.aload_n 0, 1) := by decide +kernel
theorem d_Rs_compare_128 : decode b_Rs_compare 128 = .ok (.getfield 69, 3) := by decide +kernel
theorem d_Rs_compare_131 : decode b_Rs_compare 131 = .ok (.aload_n 0, 1) := by decide +kernel
theorem d_Rs_compare_132 : decode b_Rs_compare 132 = .ok (.getfield 79, 3) := by decide +kernel
theorem d_Rs_compare_135 : decode b_Rs_compare 135 = .ok (.if_icmp .eq 13, 3) := by decide +kernel
theorem d_Rs_compare_138 : decode b_Rs_compare 138 = .ok (.aload_n 0, 1) := by decide +kernel
theorem d_Rs_compare_139 : decode b_Rs_compare 139 = .ok (.getfield 69, 3) := by decide +kernel
theorem d_Rs_compare_142 : decode b_Rs_compare 142 = .ok (.aload_n 0, 1) := by decide +kernel
theorem d_Rs_compare_143 : decode b_Rs_compare 143 = .ok (.getfield 79, 3) := by decide +kernel
theorem d_Rs_compare_146 : decode b_Rs_compare 146 = .ok (.isub, 1) := by decide +kernel
theorem d_Rs_compare_147 : decode b_Rs_compare 147 = .ok (.ireturn, 1) := by decide +kernel
theorem d_Rs_compare_148 : decode b_Rs_compare 148 = .ok (.aload_n 0, 1) := by decide +kernel
theorem d_Rs_compare_149 : decode b_Rs_compare 149 = .ok (.getfield 69, 3) := by decide +kernel
theorem d_Rs_compare_152 : decode b_Rs_compare 152 = .ok (.iconst 1, 1) := by decide +kernel
theorem d_Rs_compare_153 : decode b_Rs_compare 153 = .ok (.isub, 1) := by decide +kernel
theorem d_Rs_compare_154 : decode b_Rs_compare 154 = .ok (.istore 5, 2) := by decide +kernel
theorem d_Rs_compare_156 : decode b_Rs_compare 156 = .ok (.iload 5, 2) := by decide +kernel
theorem d_Rs_compare_158 : decode b_Rs_compare 158 = .ok (.ifCond .lt 42, 3) := by decide +kernel
theorem d_Rs_compare_161 : decode b_Rs_compare 161 = .ok (.aload_n 0, 1) := by decide +kernel
theorem d_Rs_compare_162 : decode b_Rs_compare 162 = .ok (.getfield 25, 3) := by decide +kernel
theorem d_Rs_compare_165 : decode b_Rs_compare 165 = .ok (.iload 5, 2) := by decide +kernel
theorem d_Rs_compare_167 : decode b_Rs_compare 167 = .ok (.iaload, 1) := by decide +kernel
theorem d_Rs_compare_168 : decode b_Rs_compare 168 = .ok (.aload_n 0, 1) := by decide +kernel
theorem d_Rs_compare_169 : decode b_Rs_compare 169 = .ok (.getfield 28, 3) := by decide +kernel
theorem d_Rs_compare_172 : decode b_Rs_compare 172 = .ok (.iload 5, 2) := by decide +kernel
theorem d_Rs_compare_174 : decode b_Rs_compare 174 = .ok (.iaload, 1) := by decide +kernel
theorem d_Rs_compare_175 : decode b_Rs_compare 175 = .ok (.if_icmp .eq 19, 3) := by decide +kernel
theorem d_Rs_compare_178 : decode b_Rs_compare 178 = .ok (.aload_n 0, 1) := by decide +kernel
theorem d_Rs_compare_179 : decode b_Rs_compare 179 = .ok (.getfield 25, 3) := by decide +kernel
theorem d_Rs_compare_182 : decode b_Rs_compare 182 = .ok (.iload 5, 2) := by decide +kernel
theorem d_Rs_compare_184 : decode b_Rs_compare 184 = .ok (.iaload, 1) := by decide +kernel
theorem d_Rs_compare_185 : decode b_Rs_compare 185 = .ok (.aload_n 0, 1) := by decide +kernel
theorem d_Rs_compare_186 : decode b_Rs_compare 186 = .ok (.getfield 28, 3) := by decide +kernel
theorem d_Rs_compare_189 : decode b_Rs_compare 189 = .ok (.iload 5, 2) := by decide +kernel
theorem d_Rs_compare_191 : decode b_Rs_compare 191 = .ok (.iaload, 1) := by decide +kernel
theorem d_Rs_compare_192 : decode b_Rs_compare 192 = .ok (.isub, 1) := by decide +kernel
theorem d_Rs_compare_193 : decode b_Rs_compare 193 = .ok (.ireturn, 1) := by decide +kernel
theorem d_Rs_compare_194 : decode b_Rs_compare 194 = .ok (.iinc 5 (-1), 3) := by decide +kernel
theorem d_Rs_compare_197 : decode b_Rs_compare 197 = .ok (.goto (-41), 3) := by decide +kernel
theorem d_Rs_compare_200 : decode b_Rs_compare 200 = .ok (.iconst 0, 1) := by decide +kernel
theorem d_Rs_compare_201 : decode b_Rs_compare 201 = .ok (.ireturn, 1) := by decide +kernel
def F_Rs_compare_L156 (aN : Int32) (bN : Int32) (twos : Int32) (ra : Nat → Int32) (rb : Nat → Int32) (j200 : (Int32 → Int32 → (Nat → Int32) → (Nat → Int32) → Option (Int32 × Int32 × Int32 × (Nat → Int32) × (Nat → Int32)))) (j178 : (Int32 → Int32 → Int32 → (Nat → Int32) → (Nat → Int32) → Option (Int32 × Int32 × Int32 × (Nat → Int32) × (Nat → Int32)))) : Nat → Int32 → Int32 → Int32 → (Nat → Int32) → (Nat → Int32) → Option (Int32 × Int32 × Int32 × (Nat → Int32) × (Nat → Int32))
  | 0, _, _, _, _, _ => none
  | n+1, y26, lN__27, rN_28, rleft_29, rright_30 => if y26 < 0 then (j200 lN__27 rN_28 rleft_29 rright_30) else (gz_ (y26 < 0 ∨ 520 ≤ (y26).toNatClampNeg) <| gz_ (y26 < 0 ∨ 520 ≤ (y26).toNatClampNeg) <| if (rleft_29 (y26).toNatClampNeg) = (rright_30 (y26).toNatClampNeg) then (lt_ (y26 + Int32.ofInt (-1)) fun x31 => F_Rs_compare_L156 aN bN twos ra rb j200 j178 n x31 lN__27 rN_28 rleft_29 rright_30) else (j178 y26 lN__27 rN_28 rleft_29 rright_30))
def F_Rs_compare_L11 (aN : Int32) (bN : Int32) (twos : Int32) (ra : Nat → Int32) (rb : Nat → Int32) (a1 : Int64) (x1 : Int32) (j40 : (Int32 → Int32 → (Nat → Int32) → (Nat → Int32) → Option (Int32 × Int32 × Int32 × (Nat → Int32) × (Nat → Int32)))) : Nat → Int32 → Int32 → Int32 → (Nat → Int32) → (Nat → Int32) → Option (Int32 × Int32 × Int32 × (Nat → Int32) × (Nat → Int32))
  | 0, _, _, _, _, _ => none
  | n+1, y38, lN__39, rN_40, rleft_41, rright_42 => if aN ≤ y38 then (j40 lN__39 rN_40 rleft_41 rright_42) else (gz_ (y38 < 0 ∨ 520 ≤ (y38).toNatClampNeg) <| gz_ (y38 < 0 ∨ 520 ≤ (y38).toNatClampNeg) <| lt_ (upd rleft_41 (y38).toNatClampNeg (ra (y38).toNatClampNeg)) fun rleft_43 => lt_ (y38 + Int32.ofInt 1) fun x44 => F_Rs_compare_L11 aN bN twos ra rb a1 x1 j40 n x44 lN__39 rN_40 rleft_43 rright_42)
def F_Rs_compare (n : Nat) (aN : Int32) (bN : Int32) (lN_ : Int32) (rN : Int32) (twos : Int32) (ra : Nat → Int32) (rb : Nat → Int32) (rleft : Nat → Int32) (rright : Nat → Int32) (a1 : Int64) (a2 : Int32) : Option (Int32 × Int32 × Int32 × (Nat → Int32) × (Nat → Int32)) := lt_ (twos - a2) fun x1 => lt_ (fun (lN__2 : Int32) (rN_3 : Int32) (rleft_4 : (Nat → Int32)) (rright_5 : (Nat → Int32)) => lt_ (fun (y6 : Int32) (lN__7 : Int32) (rN_8 : Int32) (rleft_9 : (Nat → Int32)) (rright_10 : (Nat → Int32)) => (F_Rs_times n rb rright_10 bN a1).bind fun x11 => lt_ (fun (lN__12 : Int32) (rN_13 : Int32) (rleft_14 : (Nat → Int32)) (rright_15 : (Nat → Int32)) => if lN__12 = rN_13 then (lt_ (lN__12 - (1 : Int32)) fun x16 => lt_ (fun (lN__17 : Int32) (rN_18 : Int32) (rleft_19 : (Nat → Int32)) (rright_20 : (Nat → Int32)) => some ((0 : Int32), lN__17, rN_18, rleft_19, rright_20)) fun j200 => lt_ (fun (y21 : Int32) (lN__22 : Int32) (rN_23 : Int32) (rleft_24 : (Nat → Int32)) (rright_25 : (Nat → Int32)) => gz_ (y21 < 0 ∨ 520 ≤ (y21).toNatClampNeg) <| gz_ (y21 < 0 ∨ 520 ≤ (y21).toNatClampNeg) <| some ((rleft_24 (y21).toNatClampNeg) - (rright_25 (y21).toNatClampNeg), lN__22, rN_23, rleft_24, rright_25)) fun j178 => F_Rs_compare_L156 aN bN twos ra rb j200 j178 n x16 lN__12 rN_13 rleft_14 rright_15) else (some (lN__12 - rN_13, lN__12, rN_13, rleft_14, rright_15))) fun j127 => if 0 ≤ x1 then (j127 y6 x11.1 rleft_9 x11.2) else (if x11.1 ≤ 0 then (j127 y6 x11.1 rleft_9 x11.2) else ((F_Rs_shifted n x11.2 x11.1 (-x1)).bind fun x32 => j127 y6 x32.1 rleft_9 x32.2))) fun j73 => lt_ (fun (lN__33 : Int32) (rN_34 : Int32) (rleft_35 : (Nat → Int32)) (rright_36 : (Nat → Int32)) => j73 aN lN__33 rN_34 rleft_35 rright_36) fun j69 => if x1 ≤ 0 then (j69 lN__2 rN_3 rleft_4 rright_5) else (if aN ≤ 0 then (j69 lN__2 rN_3 rleft_4 rright_5) else ((F_Rs_shifted n rleft_4 aN x1).bind fun x37 => j73 x37.1 lN__2 rN_3 x37.2 rright_5))) fun j40 => F_Rs_compare_L11 aN bN twos ra rb a1 x1 j40 n (0 : Int32) lN_ rN rleft rright
set_option maxHeartbeats 4000000 in
set_option maxRecDepth 100000 in
theorem c_Rs_compare (l : Launch) (D : va_G) (A : Nat → Prop) (cI cL cC : ClassId) (ad : Nat → Nat) (X : va_W) (laid : Int32) (gone : Int32) (thr : Int32) (m1 : Int64) (m2 : Int64) (e1 : Int32) (e2 : Int32) (mi1 : Int32) (mi2 : Int32) (na1 : Int32) (na2 : Int32) (fa1 : Int32) (fa2 : Int32) (lets : Nat → Int32) (rlen : Int32) (rlaid : Int32) (rgone : Int32) (rthr : Int32) (were : Int32) (none_ : Int32) (beyo : Int32) (aN : Int32) (bN : Int32) (fN : Int32) (lN_ : Int32) (rN : Int32) (pN : Int32) (twos : Int32) (at_ : Int32) (rdig : Int32) (rpow : Int32) (good : Int32) (txt : Nat → Int32) (wri : Nat → Int32) (ra : Nat → Int32) (rb : Nat → Int32) (rfive : Nat → Int32) (rleft : Nat → Int32) (rright : Nat → Int32) (rpart : Nat → Int32) (n : Nat) (a1 : Int64) (a2 : Int32) (r : Int32 × Int32 × Int32 × (Nat → Int32) × (Nat → Int32)) (h : F_Rs_compare n aN bN lN_ rN twos ra rb rleft rright a1 a2 = some r) : Met l y_Rs_compare (.code y_Rs_compare b_Rs_compare 6 (some .int) :: BIG) ({ frames := 3, cells := 0, slots := 0, locals := 75 } : Room) (va_Pc [.ref (ad 2), .long a1, .int a2] (gPre D A (tysV cI cL cC) (gM cI cL cC ad X laid gone thr m1 m2 e1 e2 mi1 mi2 na1 na2 fa1 fa2 lets rlen rlaid rgone rthr were none_ beyo aN bN fN lN_ rN pN twos at_ rdig rpow good txt wri ra rb rfive rleft rright rpart))) (gQ D A (some (.int r.1)) (gM cI cL cC ad X laid gone thr m1 m2 e1 e2 mi1 mi2 na1 na2 fa1 fa2 lets rlen rlaid rgone rthr were none_ beyo aN bN fN r.2.1 r.2.2.1 pN twos at_ rdig rpow good txt wri ra rb rfive r.2.2.2.1 r.2.2.2.2 rpart)) 0 0 A := by
  refine gOpen_i rfl (Nat.le_of_ble_eq_true rfl) ?_
  intro p e s m args below meth c Q ls hx hb hml hown hts hT hNB hP hK hD hl hret
  have hown : s.vm.findClass R_Rs = some m.cls := hown
  have hS : va_S A s.heap s.heap [] := va_S.rf
  have hl : lv_has ls 6 [(0, .ref (ad 2)), (1, .long a1), (3, .int a2)] := hl
  have h : (lt_ (twos - a2) fun x1 => lt_ (fun (lN__2 : Int32) (rN_3 : Int32) (rleft_4 : (Nat → Int32)) (rright_5 : (Nat → Int32)) => lt_ (fun (y6 : Int32) (lN__7 : Int32) (rN_8 : Int32) (rleft_9 : (Nat → Int32)) (rright_10 : (Nat → Int32)) => (F_Rs_times n rb rright_10 bN a1).bind fun x11 => lt_ (fun (lN__12 : Int32) (rN_13 : Int32) (rleft_14 : (Nat → Int32)) (rright_15 : (Nat → Int32)) => if lN__12 = rN_13 then (lt_ (lN__12 - (1 : Int32)) fun x16 => lt_ (fun (lN__17 : Int32) (rN_18 : Int32) (rleft_19 : (Nat → Int32)) (rright_20 : (Nat → Int32)) => some ((0 : Int32), lN__17, rN_18, rleft_19, rright_20)) fun j200 => lt_ (fun (y21 : Int32) (lN__22 : Int32) (rN_23 : Int32) (rleft_24 : (Nat → Int32)) (rright_25 : (Nat → Int32)) => gz_ (y21 < 0 ∨ 520 ≤ (y21).toNatClampNeg) <| gz_ (y21 < 0 ∨ 520 ≤ (y21).toNatClampNeg) <| some ((rleft_24 (y21).toNatClampNeg) - (rright_25 (y21).toNatClampNeg), lN__22, rN_23, rleft_24, rright_25)) fun j178 => F_Rs_compare_L156 aN bN twos ra rb j200 j178 n x16 lN__12 rN_13 rleft_14 rright_15) else (some (lN__12 - rN_13, lN__12, rN_13, rleft_14, rright_15))) fun j127 => if 0 ≤ x1 then (j127 y6 x11.1 rleft_9 x11.2) else (if x11.1 ≤ 0 then (j127 y6 x11.1 rleft_9 x11.2) else ((F_Rs_shifted n x11.2 x11.1 (-x1)).bind fun x32 => j127 y6 x32.1 rleft_9 x32.2))) fun j73 => lt_ (fun (lN__33 : Int32) (rN_34 : Int32) (rleft_35 : (Nat → Int32)) (rright_36 : (Nat → Int32)) => j73 aN lN__33 rN_34 rleft_35 rright_36) fun j69 => if x1 ≤ 0 then (j69 lN__2 rN_3 rleft_4 rright_5) else (if aN ≤ 0 then (j69 lN__2 rN_3 rleft_4 rright_5) else ((F_Rs_shifted n rleft_4 aN x1).bind fun x37 => j73 x37.1 lN__2 rN_3 x37.2 rright_5))) fun j40 => F_Rs_compare_L11 aN bN twos ra rb a1 x1 j40 n (0 : Int32) lN_ rN rleft rright) = some r := h
  refine lv_aload_n hx hb d_Rs_compare_0 rfl (lv_at hl 0 rfl) ?_
  refine va_get (D := D) (ci := 5) (C := R_Rs) (T := T_Rs) (N := 26) hx hb hT in_Rs hown hK hP 2 rfl rfl 21 (by decide) (hT _ m_333) (fun _ h9 => h9) rfl d_Rs_compare_1 ?_
  refine lv_iload_n hx hb d_Rs_compare_4 rfl (lv_at hl 2 rfl) ?_
  refine lv_isub hx hb d_Rs_compare_5 ?_
  refine lv_topi (fun x1 e_x1 => ?_)
  have h := lt_h e_x1 h
  refine lv_istore hx hb d_Rs_compare_6 hl (by decide) rfl (fun ls hl => ?_)
  have hl : lv_has ls 6 [(4, .int x1), (0, .ref (ad 2)), (1, .long a1), (3, .int a2)] := hl
  refine lv_iconst hx hb d_Rs_compare_8 ic_0 ?_
  refine lv_istore hx hb d_Rs_compare_9 hl (by decide) rfl (fun ls hl => ?_)
  have hl : lv_has ls 6 [(5, .int (0 : Int32)), (4, .int x1), (0, .ref (ad 2)), (1, .long a1), (3, .int a2)] := hl
  obtain ⟨j40, e_j40, h⟩ := lt_o h
  have hJ40 : ∀ (lN__2 : Int32) (rN_3 : Int32) (rleft_4 : (Nat → Int32)) (rright_5 : (Nat → Int32)) (ls : Array Slot) (H : Heap) (locs : List Loc), lv_has ls 6 [(0, .ref (ad 2)), (1, .long a1), (4, .int x1)] → va_P D cls (gM cI cL cC ad X laid gone thr m1 m2 e1 e2 mi1 mi2 na1 na2 fa1 fa2 lets rlen rlaid rgone rthr were none_ beyo aN bN fN lN__2 rN_3 pN twos at_ rdig rpow good txt wri ra rb rfive rleft_4 rright_5 rpart) H → va_D A (gM cI cL cC ad X laid gone thr m1 m2 e1 e2 mi1 mi2 na1 na2 fa1 fa2 lets rlen rlaid rgone rthr were none_ beyo aN bN fN lN__2 rN_3 pN twos at_ rdig rpow good txt wri ra rb rfive rleft_4 rright_5 rpart) → va_S A s.heap H locs → j40 lN__2 rN_3 rleft_4 rright_5 = some r → W p l e ({ frames := 3, cells := 0, slots := 0, locals := 75 } : Room) s m args below meth c H locs 0 0 Q (F0 m 40 ls []) := by
    intro lN__2 rN_3 rleft_4 rright_5 ls H locs hl hP hD hS h
    rw [e_j40] at h
    refine lv_aload_n hx hb d_Rs_compare_40 rfl (lv_at hl 0 rfl) ?_
    refine lv_iload hx hb d_Rs_compare_41 (lv_at hl 2 rfl) ?_
    obtain ⟨j73, e_j73, h⟩ := lt_o h
    have hJ73 : ∀ (y6 : Int32) (lN__7 : Int32) (rN_8 : Int32) (rleft_9 : (Nat → Int32)) (rright_10 : (Nat → Int32)) (ls : Array Slot) (H : Heap) (locs : List Loc), lv_has ls 6 [(0, .ref (ad 2)), (1, .long a1), (4, .int x1)] → va_P D cls (gM cI cL cC ad X laid gone thr m1 m2 e1 e2 mi1 mi2 na1 na2 fa1 fa2 lets rlen rlaid rgone rthr were none_ beyo aN bN fN lN__7 rN_8 pN twos at_ rdig rpow good txt wri ra rb rfive rleft_9 rright_10 rpart) H → va_D A (gM cI cL cC ad X laid gone thr m1 m2 e1 e2 mi1 mi2 na1 na2 fa1 fa2 lets rlen rlaid rgone rthr were none_ beyo aN bN fN lN__7 rN_8 pN twos at_ rdig rpow good txt wri ra rb rfive rleft_9 rright_10 rpart) → va_S A s.heap H locs → j73 y6 lN__7 rN_8 rleft_9 rright_10 = some r → W p l e ({ frames := 3, cells := 0, slots := 0, locals := 75 } : Room) s m args below meth c H locs 0 0 Q (F0 m 73 ls [.int y6, .ref (ad 2)]) := by
      intro y6 lN__7 rN_8 rleft_9 rright_10 ls H locs hl hP hD hS h
      rw [e_j73] at h
      refine va_put (D := D) (ci := 5) (C := R_Rs) (T := T_Rs) (N := 26) hx hb hT in_Rs ty_Rs tyok_Rs nm_Rs hown hK hP hD hS 2 rfl rfl 18 (by decide) (hT _ m_337) (fun _ h9 => h9) rfl (ty := .int) (by decide +kernel) rfl rfl (by decide : 18 < 26) d_Rs_compare_73 (fun H locs hP hD hS => ?_)
      have hP : va_P D cls (gM cI cL cC ad X laid gone thr m1 m2 e1 e2 mi1 mi2 na1 na2 fa1 fa2 lets rlen rlaid rgone rthr were none_ beyo aN bN fN y6 rN_8 pN twos at_ rdig rpow good txt wri ra rb rfive rleft_9 rright_10 rpart) H := hP
      have hD : va_D A (gM cI cL cC ad X laid gone thr m1 m2 e1 e2 mi1 mi2 na1 na2 fa1 fa2 lets rlen rlaid rgone rthr were none_ beyo aN bN fN y6 rN_8 pN twos at_ rdig rpow good txt wri ra rb rfive rleft_9 rright_10 rpart) := hD
      refine lv_aload_n hx hb d_Rs_compare_76 rfl (lv_at hl 0 rfl) ?_
      refine lv_aload_n hx hb d_Rs_compare_77 rfl (lv_at hl 0 rfl) ?_
      refine lv_aload_n hx hb d_Rs_compare_78 rfl (lv_at hl 0 rfl) ?_
      refine va_get (D := D) (ci := 5) (C := R_Rs) (T := T_Rs) (N := 26) hx hb hT in_Rs hown hK hP 2 rfl rfl 10 (by decide) (hT _ m_331) (fun _ h9 => h9) rfl d_Rs_compare_79 ?_
      refine lv_aload_n hx hb d_Rs_compare_82 rfl (lv_at hl 0 rfl) ?_
      refine va_get (D := D) (ci := 5) (C := R_Rs) (T := T_Rs) (N := 26) hx hb hT in_Rs hown hK hP 2 rfl rfl 16 (by decide) (hT _ m_332) (fun _ h9 => h9) rfl d_Rs_compare_83 ?_
      refine lv_lload_n hx hb d_Rs_compare_86 rfl (lv_at hl 1 rfl) ?_
      refine lv_aload_n hx hb d_Rs_compare_87 rfl (lv_at hl 0 rfl) ?_
      refine va_get (D := D) (ci := 5) (C := R_Rs) (T := T_Rs) (N := 26) hx hb hT in_Rs hown hK hP 2 rfl rfl 13 (by decide) (hT _ m_338) (fun _ h9 => h9) rfl d_Rs_compare_88 ?_
      obtain ⟨x11, e_x11, h⟩ := bd_o h
      refine q_GV (D := D) (A := A) (C := R_Rs) (b := ad 2) (As := [.ref (ad 6), .int bN, .long a1, .ref (ad 9)]) (rest := [.ref (ad 2)]) (n := 4) hx hb hml hown hts (c_Rs_times l D A cI cL cC (gM cI cL cC ad X laid gone thr m1 m2 e1 e2 mi1 mi2 na1 na2 fa1 fa2 lets rlen rlaid rgone rthr were none_ beyo aN bN fN y6 rN_8 pN twos at_ rdig rpow good txt wri ra rb rfive rleft_9 rright_10 rpart) 6 (ad 6) rb (hz1 := rfl) 9 (ad 9) rright_10 (hz4 := rfl) (hne := by decide) (ad 2) n bN a1 x11 e_x11) rfl rfl m_339 m_340 m_341 m_342 m_318 (by decide +kernel) ⟨Nat.le_of_ble_eq_true rfl, Nat.le_of_ble_eq_true rfl⟩ (va_recv hK hP (ci := 5) rfl (q0 := 2) rfl) hNB hK hP hD hS rfl hl.1 rfl (Nat.le_of_ble_eq_true rfl) d_Rs_compare_91 ⟨Nat.zero_le _, Nat.zero_le _⟩ (fun H locs hP hD hS => ?_)
      have hP : va_P D cls (gM cI cL cC ad X laid gone thr m1 m2 e1 e2 mi1 mi2 na1 na2 fa1 fa2 lets rlen rlaid rgone rthr were none_ beyo aN bN fN y6 rN_8 pN twos at_ rdig rpow good txt wri ra rb rfive rleft_9 x11.2 rpart) H := hP
      have hD : va_D A (gM cI cL cC ad X laid gone thr m1 m2 e1 e2 mi1 mi2 na1 na2 fa1 fa2 lets rlen rlaid rgone rthr were none_ beyo aN bN fN y6 rN_8 pN twos at_ rdig rpow good txt wri ra rb rfive rleft_9 x11.2 rpart) := hD
      refine va_put (D := D) (ci := 5) (C := R_Rs) (T := T_Rs) (N := 26) hx hb hT in_Rs ty_Rs tyok_Rs nm_Rs hown hK hP hD hS 2 rfl rfl 19 (by decide) (hT _ m_343) (fun _ h9 => h9) rfl (ty := .int) (by decide +kernel) rfl rfl (by decide : 19 < 26) d_Rs_compare_94 (fun H locs hP hD hS => ?_)
      have hP : va_P D cls (gM cI cL cC ad X laid gone thr m1 m2 e1 e2 mi1 mi2 na1 na2 fa1 fa2 lets rlen rlaid rgone rthr were none_ beyo aN bN fN y6 x11.1 pN twos at_ rdig rpow good txt wri ra rb rfive rleft_9 x11.2 rpart) H := hP
      have hD : va_D A (gM cI cL cC ad X laid gone thr m1 m2 e1 e2 mi1 mi2 na1 na2 fa1 fa2 lets rlen rlaid rgone rthr were none_ beyo aN bN fN y6 x11.1 pN twos at_ rdig rpow good txt wri ra rb rfive rleft_9 x11.2 rpart) := hD
      refine lv_iload hx hb d_Rs_compare_97 (lv_at hl 2 rfl) ?_
      obtain ⟨j127, e_j127, h⟩ := lt_o h
      have hJ127 : ∀ (lN__12 : Int32) (rN_13 : Int32) (rleft_14 : (Nat → Int32)) (rright_15 : (Nat → Int32)) (ls : Array Slot) (H : Heap) (locs : List Loc), lv_has ls 6 [(0, .ref (ad 2))] → va_P D cls (gM cI cL cC ad X laid gone thr m1 m2 e1 e2 mi1 mi2 na1 na2 fa1 fa2 lets rlen rlaid rgone rthr were none_ beyo aN bN fN lN__12 rN_13 pN twos at_ rdig rpow good txt wri ra rb rfive rleft_14 rright_15 rpart) H → va_D A (gM cI cL cC ad X laid gone thr m1 m2 e1 e2 mi1 mi2 na1 na2 fa1 fa2 lets rlen rlaid rgone rthr were none_ beyo aN bN fN lN__12 rN_13 pN twos at_ rdig rpow good txt wri ra rb rfive rleft_14 rright_15 rpart) → va_S A s.heap H locs → j127 lN__12 rN_13 rleft_14 rright_15 = some r → W p l e ({ frames := 3, cells := 0, slots := 0, locals := 75 } : Room) s m args below meth c H locs 0 0 Q (F0 m 127 ls []) := by
        intro lN__12 rN_13 rleft_14 rright_15 ls H locs hl hP hD hS h
        rw [e_j127] at h
        refine lv_aload_n hx hb d_Rs_compare_127 rfl (lv_at hl 0 rfl) ?_
        refine va_get (D := D) (ci := 5) (C := R_Rs) (T := T_Rs) (N := 26) hx hb hT in_Rs hown hK hP 2 rfl rfl 18 (by decide) (hT _ m_337) (fun _ h9 => h9) rfl d_Rs_compare_128 ?_
        refine lv_aload_n hx hb d_Rs_compare_131 rfl (lv_at hl 0 rfl) ?_
        refine va_get (D := D) (ci := 5) (C := R_Rs) (T := T_Rs) (N := 26) hx hb hT in_Rs hown hK hP 2 rfl rfl 19 (by decide) (hT _ m_343) (fun _ h9 => h9) rfl d_Rs_compare_132 ?_
        refine lv_icmp_eq (tgt := 148) hx hb d_Rs_compare_135 rfl (fun hc => ?_) (fun hc => ?_)
        · have h := ite_t hc h
          refine lv_aload_n hx hb d_Rs_compare_148 rfl (lv_at hl 0 rfl) ?_
          refine va_get (D := D) (ci := 5) (C := R_Rs) (T := T_Rs) (N := 26) hx hb hT in_Rs hown hK hP 2 rfl rfl 18 (by decide) (hT _ m_337) (fun _ h9 => h9) rfl d_Rs_compare_149 ?_
          refine lv_iconst hx hb d_Rs_compare_152 ic_1 ?_
          refine lv_isub hx hb d_Rs_compare_153 ?_
          refine lv_topi (fun x16 e_x16 => ?_)
          have h := lt_h e_x16 h
          refine lv_istore hx hb d_Rs_compare_154 hl (by decide) rfl (fun ls hl => ?_)
          have hl : lv_has ls 6 [(5, .int x16), (0, .ref (ad 2))] := hl
          obtain ⟨j200, e_j200, h⟩ := lt_o h
          have hJ200 : ∀ (lN__17 : Int32) (rN_18 : Int32) (rleft_19 : (Nat → Int32)) (rright_20 : (Nat → Int32)) (ls : Array Slot) (H : Heap) (locs : List Loc), lv_has ls 6 [] → va_P D cls (gM cI cL cC ad X laid gone thr m1 m2 e1 e2 mi1 mi2 na1 na2 fa1 fa2 lets rlen rlaid rgone rthr were none_ beyo aN bN fN lN__17 rN_18 pN twos at_ rdig rpow good txt wri ra rb rfive rleft_19 rright_20 rpart) H → va_D A (gM cI cL cC ad X laid gone thr m1 m2 e1 e2 mi1 mi2 na1 na2 fa1 fa2 lets rlen rlaid rgone rthr were none_ beyo aN bN fN lN__17 rN_18 pN twos at_ rdig rpow good txt wri ra rb rfive rleft_19 rright_20 rpart) → va_S A s.heap H locs → j200 lN__17 rN_18 rleft_19 rright_20 = some r → W p l e ({ frames := 3, cells := 0, slots := 0, locals := 75 } : Room) s m args below meth c H locs 0 0 Q (F0 m 200 ls []) := by
            intro lN__17 rN_18 rleft_19 rright_20 ls H locs hl hP hD hS h
            rw [e_j200] at h
            refine lv_iconst hx hb d_Rs_compare_200 ic_0 ?_
            obtain rfl := Option.some.inj h
            exact hret 201 ls _ _ _ rfl hP hD hS d_Rs_compare_201
          obtain ⟨j178, e_j178, h⟩ := lt_o h
          have hJ178 : ∀ (y21 : Int32) (lN__22 : Int32) (rN_23 : Int32) (rleft_24 : (Nat → Int32)) (rright_25 : (Nat → Int32)) (ls : Array Slot) (H : Heap) (locs : List Loc), lv_has ls 6 [(0, .ref (ad 2)), (5, .int y21)] → va_P D cls (gM cI cL cC ad X laid gone thr m1 m2 e1 e2 mi1 mi2 na1 na2 fa1 fa2 lets rlen rlaid rgone rthr were none_ beyo aN bN fN lN__22 rN_23 pN twos at_ rdig rpow good txt wri ra rb rfive rleft_24 rright_25 rpart) H → va_D A (gM cI cL cC ad X laid gone thr m1 m2 e1 e2 mi1 mi2 na1 na2 fa1 fa2 lets rlen rlaid rgone rthr were none_ beyo aN bN fN lN__22 rN_23 pN twos at_ rdig rpow good txt wri ra rb rfive rleft_24 rright_25 rpart) → va_S A s.heap H locs → j178 y21 lN__22 rN_23 rleft_24 rright_25 = some r → W p l e ({ frames := 3, cells := 0, slots := 0, locals := 75 } : Room) s m args below meth c H locs 0 0 Q (F0 m 178 ls []) := by
            intro y21 lN__22 rN_23 rleft_24 rright_25 ls H locs hl hP hD hS h
            rw [e_j178] at h
            refine lv_aload_n hx hb d_Rs_compare_178 rfl (lv_at hl 0 rfl) ?_
            refine va_get (D := D) (ci := 5) (C := R_Rs) (T := T_Rs) (N := 26) hx hb hT in_Rs hown hK hP 2 rfl rfl 12 (by decide) (hT _ m_344) (fun _ h9 => h9) rfl d_Rs_compare_179 ?_
            refine lv_iload hx hb d_Rs_compare_182 (lv_at hl 1 rfl) ?_
            have hi := gz_n h
            have h := gz_h h
            refine va_iald hx hb hK hP 8 0 rfl rfl hi d_Rs_compare_184 ?_
            refine lv_aload_n hx hb d_Rs_compare_185 rfl (lv_at hl 0 rfl) ?_
            refine va_get (D := D) (ci := 5) (C := R_Rs) (T := T_Rs) (N := 26) hx hb hT in_Rs hown hK hP 2 rfl rfl 13 (by decide) (hT _ m_338) (fun _ h9 => h9) rfl d_Rs_compare_186 ?_
            refine lv_iload hx hb d_Rs_compare_189 (lv_at hl 1 rfl) ?_
            have hi := gz_n h
            have h := gz_h h
            refine va_iald hx hb hK hP 9 0 rfl rfl hi d_Rs_compare_191 ?_
            refine lv_isub hx hb d_Rs_compare_192 ?_
            obtain rfl := Option.some.inj h
            exact hret 193 ls _ _ _ rfl hP hD hS d_Rs_compare_193
          have hL156 : ∀ (n : Nat) (y26 : Int32) (lN__27 : Int32) (rN_28 : Int32) (rleft_29 : (Nat → Int32)) (rright_30 : (Nat → Int32)) (ls : Array Slot) (H : Heap) (locs : List Loc), lv_has ls 6 [(0, .ref (ad 2)), (5, .int y26)] → va_P D cls (gM cI cL cC ad X laid gone thr m1 m2 e1 e2 mi1 mi2 na1 na2 fa1 fa2 lets rlen rlaid rgone rthr were none_ beyo aN bN fN lN__27 rN_28 pN twos at_ rdig rpow good txt wri ra rb rfive rleft_29 rright_30 rpart) H → va_D A (gM cI cL cC ad X laid gone thr m1 m2 e1 e2 mi1 mi2 na1 na2 fa1 fa2 lets rlen rlaid rgone rthr were none_ beyo aN bN fN lN__27 rN_28 pN twos at_ rdig rpow good txt wri ra rb rfive rleft_29 rright_30 rpart) → va_S A s.heap H locs → F_Rs_compare_L156 aN bN twos ra rb j200 j178 n y26 lN__27 rN_28 rleft_29 rright_30 = some r → W p l e ({ frames := 3, cells := 0, slots := 0, locals := 75 } : Room) s m args below meth c H locs 0 0 Q (F0 m 156 ls []) := by
            intro n
            induction n with
            | zero => intro y26 lN__27 rN_28 rleft_29 rright_30 ls H locs hl hP hD hS h; exact no_s h
            | succ n ih =>
              intro y26 lN__27 rN_28 rleft_29 rright_30 ls H locs hl hP hD hS h
              have h : (if y26 < 0 then (j200 lN__27 rN_28 rleft_29 rright_30) else (gz_ (y26 < 0 ∨ 520 ≤ (y26).toNatClampNeg) <| gz_ (y26 < 0 ∨ 520 ≤ (y26).toNatClampNeg) <| if (rleft_29 (y26).toNatClampNeg) = (rright_30 (y26).toNatClampNeg) then (lt_ (y26 + Int32.ofInt (-1)) fun x31 => F_Rs_compare_L156 aN bN twos ra rb j200 j178 n x31 lN__27 rN_28 rleft_29 rright_30) else (j178 y26 lN__27 rN_28 rleft_29 rright_30))) = some r := h
              refine lv_iload hx hb d_Rs_compare_156 (lv_at hl 1 rfl) ?_
              refine lv_if_lt (tgt := 200) hx hb d_Rs_compare_158 rfl (fun hc => ?_) (fun hc => ?_)
              · have h := ite_t hc h
                exact hJ200 _ _ _ _ ls _ _ (lv_sub hl [] rfl) hP hD hS h
              · have h := ite_f hc h
                refine lv_aload_n hx hb d_Rs_compare_161 rfl (lv_at hl 0 rfl) ?_
                refine va_get (D := D) (ci := 5) (C := R_Rs) (T := T_Rs) (N := 26) hx hb hT in_Rs hown hK hP 2 rfl rfl 12 (by decide) (hT _ m_344) (fun _ h9 => h9) rfl d_Rs_compare_162 ?_
                refine lv_iload hx hb d_Rs_compare_165 (lv_at hl 1 rfl) ?_
                have hi := gz_n h
                have h := gz_h h
                refine va_iald hx hb hK hP 8 0 rfl rfl hi d_Rs_compare_167 ?_
                refine lv_aload_n hx hb d_Rs_compare_168 rfl (lv_at hl 0 rfl) ?_
                refine va_get (D := D) (ci := 5) (C := R_Rs) (T := T_Rs) (N := 26) hx hb hT in_Rs hown hK hP 2 rfl rfl 13 (by decide) (hT _ m_338) (fun _ h9 => h9) rfl d_Rs_compare_169 ?_
                refine lv_iload hx hb d_Rs_compare_172 (lv_at hl 1 rfl) ?_
                have hi := gz_n h
                have h := gz_h h
                refine va_iald hx hb hK hP 9 0 rfl rfl hi d_Rs_compare_174 ?_
                refine lv_icmp_eq (tgt := 194) hx hb d_Rs_compare_175 rfl (fun hc => ?_) (fun hc => ?_)
                · have h := ite_t hc h
                  obtain ⟨x31, e_x31⟩ : ∃ z, z = y26 + Int32.ofInt (-1) := ⟨_, rfl⟩
                  have h := lt_h e_x31 h
                  refine lv_iinc (k := 1) hx hb d_Rs_compare_194 hl rfl e_x31.symm (by decide) rfl (fun ls hl => ?_)
                  have hl : lv_has ls 6 [(5, .int x31), (0, .ref (ad 2))] := hl
                  refine lv_goto (tgt := 156) hx hb d_Rs_compare_197 rfl ?_
                  exact ih _ _ _ _ _ ls _ _ (lv_sub hl [1, 0] rfl) hP hD hS h
                · have h := ite_f hc h
                  exact hJ178 _ _ _ _ _ ls _ _ (lv_sub hl [0, 1] rfl) hP hD hS h
          exact hL156 n _ _ _ _ _ ls _ _ (lv_sub hl [1, 0] rfl) hP hD hS h
        · have h := ite_f hc h
          refine lv_aload_n hx hb d_Rs_compare_138 rfl (lv_at hl 0 rfl) ?_
          refine va_get (D := D) (ci := 5) (C := R_Rs) (T := T_Rs) (N := 26) hx hb hT in_Rs hown hK hP 2 rfl rfl 18 (by decide) (hT _ m_337) (fun _ h9 => h9) rfl d_Rs_compare_139 ?_
          refine lv_aload_n hx hb d_Rs_compare_142 rfl (lv_at hl 0 rfl) ?_
          refine va_get (D := D) (ci := 5) (C := R_Rs) (T := T_Rs) (N := 26) hx hb hT in_Rs hown hK hP 2 rfl rfl 19 (by decide) (hT _ m_343) (fun _ h9 => h9) rfl d_Rs_compare_143 ?_
          refine lv_isub hx hb d_Rs_compare_146 ?_
          obtain rfl := Option.some.inj h
          exact hret 147 ls _ _ _ rfl hP hD hS d_Rs_compare_147
      refine lv_if_ge (tgt := 127) hx hb d_Rs_compare_99 rfl (fun hc => ?_) (fun hc => ?_)
      · have h := ite_t hc h
        exact hJ127 _ _ _ _ ls _ _ (lv_sub hl [0] rfl) hP hD hS h
      · have h := ite_f hc h
        refine lv_aload_n hx hb d_Rs_compare_102 rfl (lv_at hl 0 rfl) ?_
        refine va_get (D := D) (ci := 5) (C := R_Rs) (T := T_Rs) (N := 26) hx hb hT in_Rs hown hK hP 2 rfl rfl 19 (by decide) (hT _ m_343) (fun _ h9 => h9) rfl d_Rs_compare_103 ?_
        refine lv_if_le (tgt := 127) hx hb d_Rs_compare_106 rfl (fun hc => ?_) (fun hc => ?_)
        · have h := ite_t hc h
          exact hJ127 _ _ _ _ ls _ _ (lv_sub hl [0] rfl) hP hD hS h
        · have h := ite_f hc h
          refine lv_aload_n hx hb d_Rs_compare_109 rfl (lv_at hl 0 rfl) ?_
          refine lv_aload_n hx hb d_Rs_compare_110 rfl (lv_at hl 0 rfl) ?_
          refine va_get (D := D) (ci := 5) (C := R_Rs) (T := T_Rs) (N := 26) hx hb hT in_Rs hown hK hP 2 rfl rfl 13 (by decide) (hT _ m_338) (fun _ h9 => h9) rfl d_Rs_compare_111 ?_
          refine lv_aload_n hx hb d_Rs_compare_114 rfl (lv_at hl 0 rfl) ?_
          refine va_get (D := D) (ci := 5) (C := R_Rs) (T := T_Rs) (N := 26) hx hb hT in_Rs hown hK hP 2 rfl rfl 19 (by decide) (hT _ m_343) (fun _ h9 => h9) rfl d_Rs_compare_115 ?_
          refine lv_iload hx hb d_Rs_compare_118 (lv_at hl 2 rfl) ?_
          refine lv_ineg hx hb d_Rs_compare_120 ?_
          obtain ⟨x32, e_x32, h⟩ := bd_o h
          refine q_GS (D := D) (A := A) (As := [.ref (ad 9), .int x11.1, .int (-x1)]) (rest := [.ref (ad 2)]) (n := 3) hx hb hml hown hts (c_Rs_shifted l D A cI cL cC (gM cI cL cC ad X laid gone thr m1 m2 e1 e2 mi1 mi2 na1 na2 fa1 fa2 lets rlen rlaid rgone rthr were none_ beyo aN bN fN y6 x11.1 pN twos at_ rdig rpow good txt wri ra rb rfive rleft_9 x11.2 rpart) 9 (ad 9) x11.2 (hz0 := rfl) n x11.1 (-x1) x32 e_x32) rfl rfl m_345 m_346 m_347 m_318 (by decide +kernel) ⟨Nat.le_of_ble_eq_true rfl, Nat.le_of_ble_eq_true rfl⟩ hNB hK hP hD hS rfl hl.1 rfl (Nat.le_of_ble_eq_true rfl) d_Rs_compare_121 ⟨Nat.zero_le _, Nat.zero_le _⟩ (fun H locs hP hD hS => ?_)
          have hP : va_P D cls (gM cI cL cC ad X laid gone thr m1 m2 e1 e2 mi1 mi2 na1 na2 fa1 fa2 lets rlen rlaid rgone rthr were none_ beyo aN bN fN y6 x11.1 pN twos at_ rdig rpow good txt wri ra rb rfive rleft_9 x32.2 rpart) H := hP
          have hD : va_D A (gM cI cL cC ad X laid gone thr m1 m2 e1 e2 mi1 mi2 na1 na2 fa1 fa2 lets rlen rlaid rgone rthr were none_ beyo aN bN fN y6 x11.1 pN twos at_ rdig rpow good txt wri ra rb rfive rleft_9 x32.2 rpart) := hD
          refine va_put (D := D) (ci := 5) (C := R_Rs) (T := T_Rs) (N := 26) hx hb hT in_Rs ty_Rs tyok_Rs nm_Rs hown hK hP hD hS 2 rfl rfl 19 (by decide) (hT _ m_343) (fun _ h9 => h9) rfl (ty := .int) (by decide +kernel) rfl rfl (by decide : 19 < 26) d_Rs_compare_124 (fun H locs hP hD hS => ?_)
          have hP : va_P D cls (gM cI cL cC ad X laid gone thr m1 m2 e1 e2 mi1 mi2 na1 na2 fa1 fa2 lets rlen rlaid rgone rthr were none_ beyo aN bN fN y6 x32.1 pN twos at_ rdig rpow good txt wri ra rb rfive rleft_9 x32.2 rpart) H := hP
          have hD : va_D A (gM cI cL cC ad X laid gone thr m1 m2 e1 e2 mi1 mi2 na1 na2 fa1 fa2 lets rlen rlaid rgone rthr were none_ beyo aN bN fN y6 x32.1 pN twos at_ rdig rpow good txt wri ra rb rfive rleft_9 x32.2 rpart) := hD
          exact hJ127 _ _ _ _ ls _ _ (lv_sub hl [0] rfl) hP hD hS h
    obtain ⟨j69, e_j69, h⟩ := lt_o h
    have hJ69 : ∀ (lN__33 : Int32) (rN_34 : Int32) (rleft_35 : (Nat → Int32)) (rright_36 : (Nat → Int32)) (ls : Array Slot) (H : Heap) (locs : List Loc), lv_has ls 6 [(0, .ref (ad 2)), (1, .long a1), (4, .int x1)] → va_P D cls (gM cI cL cC ad X laid gone thr m1 m2 e1 e2 mi1 mi2 na1 na2 fa1 fa2 lets rlen rlaid rgone rthr were none_ beyo aN bN fN lN__33 rN_34 pN twos at_ rdig rpow good txt wri ra rb rfive rleft_35 rright_36 rpart) H → va_D A (gM cI cL cC ad X laid gone thr m1 m2 e1 e2 mi1 mi2 na1 na2 fa1 fa2 lets rlen rlaid rgone rthr were none_ beyo aN bN fN lN__33 rN_34 pN twos at_ rdig rpow good txt wri ra rb rfive rleft_35 rright_36 rpart) → va_S A s.heap H locs → j69 lN__33 rN_34 rleft_35 rright_36 = some r → W p l e ({ frames := 3, cells := 0, slots := 0, locals := 75 } : Room) s m args below meth c H locs 0 0 Q (F0 m 69 ls [.ref (ad 2)]) := by
      intro lN__33 rN_34 rleft_35 rright_36 ls H locs hl hP hD hS h
      rw [e_j69] at h
      refine lv_aload_n hx hb d_Rs_compare_69 rfl (lv_at hl 0 rfl) ?_
      refine va_get (D := D) (ci := 5) (C := R_Rs) (T := T_Rs) (N := 26) hx hb hT in_Rs hown hK hP 2 rfl rfl 15 (by decide) (hT _ m_348) (fun _ h9 => h9) rfl d_Rs_compare_70 ?_
      exact hJ73 _ _ _ _ _ ls _ _ (lv_sub hl [0, 1, 2] rfl) hP hD hS h
    refine lv_if_le (tgt := 69) hx hb d_Rs_compare_43 rfl (fun hc => ?_) (fun hc => ?_)
    · have h := ite_t hc h
      exact hJ69 _ _ _ _ ls _ _ (lv_sub hl [0, 1, 2] rfl) hP hD hS h
    · have h := ite_f hc h
      refine lv_aload_n hx hb d_Rs_compare_46 rfl (lv_at hl 0 rfl) ?_
      refine va_get (D := D) (ci := 5) (C := R_Rs) (T := T_Rs) (N := 26) hx hb hT in_Rs hown hK hP 2 rfl rfl 15 (by decide) (hT _ m_348) (fun _ h9 => h9) rfl d_Rs_compare_47 ?_
      refine lv_if_le (tgt := 69) hx hb d_Rs_compare_50 rfl (fun hc => ?_) (fun hc => ?_)
      · have h := ite_t hc h
        exact hJ69 _ _ _ _ ls _ _ (lv_sub hl [0, 1, 2] rfl) hP hD hS h
      · have h := ite_f hc h
        refine lv_aload_n hx hb d_Rs_compare_53 rfl (lv_at hl 0 rfl) ?_
        refine va_get (D := D) (ci := 5) (C := R_Rs) (T := T_Rs) (N := 26) hx hb hT in_Rs hown hK hP 2 rfl rfl 12 (by decide) (hT _ m_344) (fun _ h9 => h9) rfl d_Rs_compare_54 ?_
        refine lv_aload_n hx hb d_Rs_compare_57 rfl (lv_at hl 0 rfl) ?_
        refine va_get (D := D) (ci := 5) (C := R_Rs) (T := T_Rs) (N := 26) hx hb hT in_Rs hown hK hP 2 rfl rfl 15 (by decide) (hT _ m_348) (fun _ h9 => h9) rfl d_Rs_compare_58 ?_
        refine lv_iload hx hb d_Rs_compare_61 (lv_at hl 2 rfl) ?_
        obtain ⟨x37, e_x37, h⟩ := bd_o h
        refine q_GS (D := D) (A := A) (As := [.ref (ad 8), .int aN, .int x1]) (rest := [.ref (ad 2)]) (n := 3) hx hb hml hown hts (c_Rs_shifted l D A cI cL cC (gM cI cL cC ad X laid gone thr m1 m2 e1 e2 mi1 mi2 na1 na2 fa1 fa2 lets rlen rlaid rgone rthr were none_ beyo aN bN fN lN__2 rN_3 pN twos at_ rdig rpow good txt wri ra rb rfive rleft_4 rright_5 rpart) 8 (ad 8) rleft_4 (hz0 := rfl) n aN x1 x37 e_x37) rfl rfl m_345 m_346 m_347 m_318 (by decide +kernel) ⟨Nat.le_of_ble_eq_true rfl, Nat.le_of_ble_eq_true rfl⟩ hNB hK hP hD hS rfl hl.1 rfl (Nat.le_of_ble_eq_true rfl) d_Rs_compare_63 ⟨Nat.zero_le _, Nat.zero_le _⟩ (fun H locs hP hD hS => ?_)
        have hP : va_P D cls (gM cI cL cC ad X laid gone thr m1 m2 e1 e2 mi1 mi2 na1 na2 fa1 fa2 lets rlen rlaid rgone rthr were none_ beyo aN bN fN lN__2 rN_3 pN twos at_ rdig rpow good txt wri ra rb rfive x37.2 rright_5 rpart) H := hP
        have hD : va_D A (gM cI cL cC ad X laid gone thr m1 m2 e1 e2 mi1 mi2 na1 na2 fa1 fa2 lets rlen rlaid rgone rthr were none_ beyo aN bN fN lN__2 rN_3 pN twos at_ rdig rpow good txt wri ra rb rfive x37.2 rright_5 rpart) := hD
        refine lv_goto (tgt := 73) hx hb d_Rs_compare_66 rfl ?_
        exact hJ73 _ _ _ _ _ ls _ _ (lv_sub hl [0, 1, 2] rfl) hP hD hS h
  have hL11 : ∀ (n : Nat) (y38 : Int32) (lN__39 : Int32) (rN_40 : Int32) (rleft_41 : (Nat → Int32)) (rright_42 : (Nat → Int32)) (ls : Array Slot) (H : Heap) (locs : List Loc), lv_has ls 6 [(0, .ref (ad 2)), (1, .long a1), (4, .int x1), (5, .int y38)] → va_P D cls (gM cI cL cC ad X laid gone thr m1 m2 e1 e2 mi1 mi2 na1 na2 fa1 fa2 lets rlen rlaid rgone rthr were none_ beyo aN bN fN lN__39 rN_40 pN twos at_ rdig rpow good txt wri ra rb rfive rleft_41 rright_42 rpart) H → va_D A (gM cI cL cC ad X laid gone thr m1 m2 e1 e2 mi1 mi2 na1 na2 fa1 fa2 lets rlen rlaid rgone rthr were none_ beyo aN bN fN lN__39 rN_40 pN twos at_ rdig rpow good txt wri ra rb rfive rleft_41 rright_42 rpart) → va_S A s.heap H locs → F_Rs_compare_L11 aN bN twos ra rb a1 x1 j40 n y38 lN__39 rN_40 rleft_41 rright_42 = some r → W p l e ({ frames := 3, cells := 0, slots := 0, locals := 75 } : Room) s m args below meth c H locs 0 0 Q (F0 m 11 ls []) := by
    intro n
    induction n with
    | zero => intro y38 lN__39 rN_40 rleft_41 rright_42 ls H locs hl hP hD hS h; exact no_s h
    | succ n ih =>
      intro y38 lN__39 rN_40 rleft_41 rright_42 ls H locs hl hP hD hS h
      have h : (if aN ≤ y38 then (j40 lN__39 rN_40 rleft_41 rright_42) else (gz_ (y38 < 0 ∨ 520 ≤ (y38).toNatClampNeg) <| gz_ (y38 < 0 ∨ 520 ≤ (y38).toNatClampNeg) <| lt_ (upd rleft_41 (y38).toNatClampNeg (ra (y38).toNatClampNeg)) fun rleft_43 => lt_ (y38 + Int32.ofInt 1) fun x44 => F_Rs_compare_L11 aN bN twos ra rb a1 x1 j40 n x44 lN__39 rN_40 rleft_43 rright_42)) = some r := h
      refine lv_iload hx hb d_Rs_compare_11 (lv_at hl 3 rfl) ?_
      refine lv_aload_n hx hb d_Rs_compare_13 rfl (lv_at hl 0 rfl) ?_
      refine va_get (D := D) (ci := 5) (C := R_Rs) (T := T_Rs) (N := 26) hx hb hT in_Rs hown hK hP 2 rfl rfl 15 (by decide) (hT _ m_348) (fun _ h9 => h9) rfl d_Rs_compare_14 ?_
      refine lv_icmp_ge (tgt := 40) hx hb d_Rs_compare_17 rfl (fun hc => ?_) (fun hc => ?_)
      · have h := ite_t hc h
        exact hJ40 _ _ _ _ ls _ _ (lv_sub hl [0, 1, 2] rfl) hP hD hS h
      · have h := ite_f hc h
        refine lv_aload_n hx hb d_Rs_compare_20 rfl (lv_at hl 0 rfl) ?_
        refine va_get (D := D) (ci := 5) (C := R_Rs) (T := T_Rs) (N := 26) hx hb hT in_Rs hown hK hP 2 rfl rfl 12 (by decide) (hT _ m_344) (fun _ h9 => h9) rfl d_Rs_compare_21 ?_
        refine lv_iload hx hb d_Rs_compare_24 (lv_at hl 3 rfl) ?_
        refine lv_aload_n hx hb d_Rs_compare_26 rfl (lv_at hl 0 rfl) ?_
        refine va_get (D := D) (ci := 5) (C := R_Rs) (T := T_Rs) (N := 26) hx hb hT in_Rs hown hK hP 2 rfl rfl 9 (by decide) (hT _ m_349) (fun _ h9 => h9) rfl d_Rs_compare_27 ?_
        refine lv_iload hx hb d_Rs_compare_30 (lv_at hl 3 rfl) ?_
        have hi := gz_n h
        have h := gz_h h
        refine va_iald hx hb hK hP 5 0 rfl rfl hi d_Rs_compare_32 ?_
        have hi := gz_n h
        have h := gz_h h
        refine va_iast hx hb hK hP hD hS 8 0 rfl rfl hi d_Rs_compare_33 (fun H locs hP hD hS => ?_)
        have hP : va_P D cls (gM cI cL cC ad X laid gone thr m1 m2 e1 e2 mi1 mi2 na1 na2 fa1 fa2 lets rlen rlaid rgone rthr were none_ beyo aN bN fN lN__39 rN_40 pN twos at_ rdig rpow good txt wri ra rb rfive (upd rleft_41 (y38).toNatClampNeg (ra (y38).toNatClampNeg)) rright_42 rpart) H := hP
        have hD : va_D A (gM cI cL cC ad X laid gone thr m1 m2 e1 e2 mi1 mi2 na1 na2 fa1 fa2 lets rlen rlaid rgone rthr were none_ beyo aN bN fN lN__39 rN_40 pN twos at_ rdig rpow good txt wri ra rb rfive (upd rleft_41 (y38).toNatClampNeg (ra (y38).toNatClampNeg)) rright_42 rpart) := hD
        obtain ⟨rleft_43, e_rleft_43, h⟩ := lt_o h
        rw [← e_rleft_43] at hP hD
        obtain ⟨x44, e_x44⟩ : ∃ z, z = y38 + Int32.ofInt 1 := ⟨_, rfl⟩
        have h := lt_h e_x44 h
        refine lv_iinc (k := 3) hx hb d_Rs_compare_34 hl rfl e_x44.symm (by decide) rfl (fun ls hl => ?_)
        have hl : lv_has ls 6 [(5, .int x44), (0, .ref (ad 2)), (1, .long a1), (4, .int x1)] := hl
        refine lv_goto (tgt := 11) hx hb d_Rs_compare_37 rfl ?_
        exact ih _ _ _ _ _ ls _ _ (lv_sub hl [1, 2, 3, 0] rfl) hP hD hS h
  exact hL11 n _ _ _ _ _ ls _ _ (lv_sub hl [2, 3, 1, 0] rfl) hP hD hS h
