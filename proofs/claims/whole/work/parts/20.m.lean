-- Rs_compareDigits
theorem d_Rs_compareDigits_0 : decode b_Rs_compareDigits 0 = .ok (.aload_n 0, 1) := by decide +kernel
theorem d_Rs_compareDigits_1 : decode b_Rs_compareDigits 1 = .ok (.aload_n 0, 1) := by decide +kernel
theorem d_Rs_compareDigits_2 : decode b_Rs_compareDigits 2 = .ok (.aload_n 0, 1) := by decide +kernel
theorem d_Rs_compareDigits_3 : decode b_Rs_compareDigits 3 = .ok (.getfield 22, 3) := by decide +kernel
theorem d_Rs_compareDigits_6 : decode b_Rs_compareDigits 6 = .ok (.aload_n 0, 1) := by decide +kernel
theorem d_Rs_compareDigits_7 : decode b_Rs_compareDigits 7 = .ok (.getfield 171, 3) := by decide +kernel
theorem d_Rs_compareDigits_10 : decode b_Rs_compareDigits 10 = .ok (.lload_n 1, 1) := by decide +kernel
theorem d_Rs_compareDigits_11 : decode b_Rs_compareDigits 11 = .ok (.aload_n 0, 1) := by decide +kernel
theorem d_Rs_compareDigits_12 : decode b_Rs_compareDigits 12 = .ok (.getfield 16, 3) := by decide +kernel
theorem d_Rs_compareDigits_15 : decode b_Rs_compareDigits 15 = .ok (.invokevirtual 75, 3) := by decide +kernel
theorem d_Rs_compareDigits_18 : decode b_Rs_compareDigits 18 = .ok (.putfield 62, 3) := by decide +kernel
theorem d_Rs_compareDigits_21 : decode b_Rs_compareDigits 21 = .ok (.aload_n 0, 1) := by decide +kernel
theorem d_Rs_compareDigits_22 : decode b_Rs_compareDigits 22 = .ok (.lload_n 3, 1) := by decide +kernel
theorem d_Rs_compareDigits_23 : decode b_Rs_compareDigits 23 = .ok (.iload 5, 2) := by decide +kernel
theorem d_Rs_compareDigits_25 : decode b_Rs_compareDigits 25 = .ok (.invokevirtual 96, 3) := by decide +kernel
theorem d_Rs_compareDigits_28 : decode b_Rs_compareDigits 28 = .ok (.ireturn, 1) := by decide +kernel
def F_Rs_compareDigits (n : Nat) (aN : Int32) (bN : Int32) (fN : Int32) (lN_ : Int32) (rN : Int32) (twos : Int32) (ra : Nat → Int32) (rb : Nat → Int32) (rfive : Nat → Int32) (rleft : Nat → Int32) (rright : Nat → Int32) (a1 : Int64) (a2 : Int64) (a3 : Int32) : Option (Int32 × Int32 × Int32 × Int32 × (Nat → Int32) × (Nat → Int32) × (Nat → Int32)) := (F_Rs_times n rfive ra fN a1).bind fun x1 => (F_Rs_compare n x1.1 bN lN_ rN twos x1.2 rb rleft rright a2 a3).bind fun x2 => some (x2.1, x1.1, x2.2.1, x2.2.2.1, x1.2, x2.2.2.2.1, x2.2.2.2.2)
set_option maxHeartbeats 4000000 in
set_option maxRecDepth 100000 in
theorem c_Rs_compareDigits (l : Launch) (D : va_G) (A : Nat → Prop) (cI cL cC : ClassId) (ad : Nat → Nat) (X : va_W) (laid : Int32) (gone : Int32) (thr : Int32) (m1 : Int64) (m2 : Int64) (e1 : Int32) (e2 : Int32) (mi1 : Int32) (mi2 : Int32) (na1 : Int32) (na2 : Int32) (fa1 : Int32) (fa2 : Int32) (lets : Nat → Int32) (rlen : Int32) (rlaid : Int32) (rgone : Int32) (rthr : Int32) (were : Int32) (none_ : Int32) (beyo : Int32) (aN : Int32) (bN : Int32) (fN : Int32) (lN_ : Int32) (rN : Int32) (pN : Int32) (twos : Int32) (at_ : Int32) (rdig : Int32) (rpow : Int32) (good : Int32) (txt : Nat → Int32) (wri : Nat → Int32) (ra : Nat → Int32) (rb : Nat → Int32) (rfive : Nat → Int32) (rleft : Nat → Int32) (rright : Nat → Int32) (rpart : Nat → Int32) (n : Nat) (a1 : Int64) (a2 : Int64) (a3 : Int32) (r : Int32 × Int32 × Int32 × Int32 × (Nat → Int32) × (Nat → Int32) × (Nat → Int32)) (h : F_Rs_compareDigits n aN bN fN lN_ rN twos ra rb rfive rleft rright a1 a2 a3 = some r) : Met l y_Rs_compareDigits (.code y_Rs_compareDigits b_Rs_compareDigits 6 (some .int) :: BIG) ({ frames := 4, cells := 0, slots := 0, locals := 100 } : Room) (va_Pc [.ref (ad 2), .long a1, .long a2, .int a3] (gPre D A (tysV cI cL cC) (gM cI cL cC ad X laid gone thr m1 m2 e1 e2 mi1 mi2 na1 na2 fa1 fa2 lets rlen rlaid rgone rthr were none_ beyo aN bN fN lN_ rN pN twos at_ rdig rpow good txt wri ra rb rfive rleft rright rpart))) (gQ D A (some (.int r.1)) (gM cI cL cC ad X laid gone thr m1 m2 e1 e2 mi1 mi2 na1 na2 fa1 fa2 lets rlen rlaid rgone rthr were none_ beyo r.2.1 bN fN r.2.2.1 r.2.2.2.1 pN twos at_ rdig rpow good txt wri r.2.2.2.2.1 rb rfive r.2.2.2.2.2.1 r.2.2.2.2.2.2 rpart)) 0 0 A := by
  refine gOpen_i rfl (Nat.le_of_ble_eq_true rfl) ?_
  intro p e s m args below meth c Q ls hx hb hml hown hts hT hNB hP hK hD hl hret
  have hown : s.vm.findClass R_Rs = some m.cls := hown
  have hS : va_S A s.heap s.heap [] := va_S.rf
  have hl : lv_has ls 6 [(0, .ref (ad 2)), (1, .long a1), (3, .long a2), (5, .int a3)] := hl
  have h : ((F_Rs_times n rfive ra fN a1).bind fun x1 => (F_Rs_compare n x1.1 bN lN_ rN twos x1.2 rb rleft rright a2 a3).bind fun x2 => some (x2.1, x1.1, x2.2.1, x2.2.2.1, x1.2, x2.2.2.2.1, x2.2.2.2.2)) = some r := h
  refine lv_aload_n hx hb d_Rs_compareDigits_0 rfl (lv_at hl 0 rfl) ?_
  refine lv_aload_n hx hb d_Rs_compareDigits_1 rfl (lv_at hl 0 rfl) ?_
  refine lv_aload_n hx hb d_Rs_compareDigits_2 rfl (lv_at hl 0 rfl) ?_
  refine va_get (D := D) (ci := 5) (C := R_Rs) (T := T_Rs) (N := 26) hx hb hT in_Rs hown hK hP 2 rfl rfl 11 (by decide) (hT _ m_326) (fun _ h9 => h9) rfl d_Rs_compareDigits_3 ?_
  refine lv_aload_n hx hb d_Rs_compareDigits_6 rfl (lv_at hl 0 rfl) ?_
  refine va_get (D := D) (ci := 5) (C := R_Rs) (T := T_Rs) (N := 26) hx hb hT in_Rs hown hK hP 2 rfl rfl 17 (by decide) (hT _ m_330) (fun _ h9 => h9) rfl d_Rs_compareDigits_7 ?_
  refine lv_lload_n hx hb d_Rs_compareDigits_10 rfl (lv_at hl 1 rfl) ?_
  refine lv_aload_n hx hb d_Rs_compareDigits_11 rfl (lv_at hl 0 rfl) ?_
  refine va_get (D := D) (ci := 5) (C := R_Rs) (T := T_Rs) (N := 26) hx hb hT in_Rs hown hK hP 2 rfl rfl 9 (by decide) (hT _ m_349) (fun _ h9 => h9) rfl d_Rs_compareDigits_12 ?_
  obtain ⟨x1, e_x1, h⟩ := bd_o h
  refine q_GV (D := D) (A := A) (C := R_Rs) (b := ad 2) (As := [.ref (ad 7), .int fN, .long a1, .ref (ad 5)]) (rest := [.ref (ad 2)]) (n := 4) hx hb hml hown hts (c_Rs_times l D A cI cL cC (gM cI cL cC ad X laid gone thr m1 m2 e1 e2 mi1 mi2 na1 na2 fa1 fa2 lets rlen rlaid rgone rthr were none_ beyo aN bN fN lN_ rN pN twos at_ rdig rpow good txt wri ra rb rfive rleft rright rpart) 7 (ad 7) rfive (hz1 := rfl) 5 (ad 5) ra (hz4 := rfl) (hne := by decide) (ad 2) n fN a1 x1 e_x1) rfl rfl m_339 m_340 m_341 m_342 m_318 (by decide +kernel) ⟨Nat.le_of_ble_eq_true rfl, Nat.le_of_ble_eq_true rfl⟩ (va_recv hK hP (ci := 5) rfl (q0 := 2) rfl) hNB hK hP hD hS rfl hl.1 rfl (Nat.le_of_ble_eq_true rfl) d_Rs_compareDigits_15 ⟨Nat.zero_le _, Nat.zero_le _⟩ (fun H locs hP hD hS => ?_)
  have hP : va_P D cls (gM cI cL cC ad X laid gone thr m1 m2 e1 e2 mi1 mi2 na1 na2 fa1 fa2 lets rlen rlaid rgone rthr were none_ beyo aN bN fN lN_ rN pN twos at_ rdig rpow good txt wri x1.2 rb rfive rleft rright rpart) H := hP
  have hD : va_D A (gM cI cL cC ad X laid gone thr m1 m2 e1 e2 mi1 mi2 na1 na2 fa1 fa2 lets rlen rlaid rgone rthr were none_ beyo aN bN fN lN_ rN pN twos at_ rdig rpow good txt wri x1.2 rb rfive rleft rright rpart) := hD
  refine va_put (D := D) (ci := 5) (C := R_Rs) (T := T_Rs) (N := 26) hx hb hT in_Rs ty_Rs tyok_Rs nm_Rs hown hK hP hD hS 2 rfl rfl 15 (by decide) (hT _ m_348) (fun _ h9 => h9) rfl (ty := .int) (by decide +kernel) rfl rfl (by decide : 15 < 26) d_Rs_compareDigits_18 (fun H locs hP hD hS => ?_)
  have hP : va_P D cls (gM cI cL cC ad X laid gone thr m1 m2 e1 e2 mi1 mi2 na1 na2 fa1 fa2 lets rlen rlaid rgone rthr were none_ beyo x1.1 bN fN lN_ rN pN twos at_ rdig rpow good txt wri x1.2 rb rfive rleft rright rpart) H := hP
  have hD : va_D A (gM cI cL cC ad X laid gone thr m1 m2 e1 e2 mi1 mi2 na1 na2 fa1 fa2 lets rlen rlaid rgone rthr were none_ beyo x1.1 bN fN lN_ rN pN twos at_ rdig rpow good txt wri x1.2 rb rfive rleft rright rpart) := hD
  refine lv_aload_n hx hb d_Rs_compareDigits_21 rfl (lv_at hl 0 rfl) ?_
  refine lv_lload_n hx hb d_Rs_compareDigits_22 rfl (lv_at hl 2 rfl) ?_
  refine lv_iload hx hb d_Rs_compareDigits_23 (lv_at hl 3 rfl) ?_
  obtain ⟨x2, e_x2, h⟩ := bd_o h
  refine q_GV (D := D) (A := A) (C := R_Rs) (b := ad 2) (As := [.long a2, .int a3]) (rest := []) (n := 2) hx hb hml hown hts (c_Rs_compare l D A cI cL cC ad X laid gone thr m1 m2 e1 e2 mi1 mi2 na1 na2 fa1 fa2 lets rlen rlaid rgone rthr were none_ beyo x1.1 bN fN lN_ rN pN twos at_ rdig rpow good txt wri x1.2 rb rfive rleft rright rpart n a2 a3 x2 e_x2) rfl rfl m_350 m_351 m_352 m_353 m_318 (by decide +kernel) ⟨Nat.le_of_ble_eq_true rfl, Nat.le_of_ble_eq_true rfl⟩ (va_recv hK hP (ci := 5) rfl (q0 := 2) rfl) hNB hK hP hD hS rfl hl.1 rfl (Nat.le_of_ble_eq_true rfl) d_Rs_compareDigits_25 ⟨Nat.zero_le _, Nat.zero_le _⟩ (fun H locs hP hD hS => ?_)
  have hP : va_P D cls (gM cI cL cC ad X laid gone thr m1 m2 e1 e2 mi1 mi2 na1 na2 fa1 fa2 lets rlen rlaid rgone rthr were none_ beyo x1.1 bN fN x2.2.1 x2.2.2.1 pN twos at_ rdig rpow good txt wri x1.2 rb rfive x2.2.2.2.1 x2.2.2.2.2 rpart) H := hP
  have hD : va_D A (gM cI cL cC ad X laid gone thr m1 m2 e1 e2 mi1 mi2 na1 na2 fa1 fa2 lets rlen rlaid rgone rthr were none_ beyo x1.1 bN fN x2.2.1 x2.2.2.1 pN twos at_ rdig rpow good txt wri x1.2 rb rfive x2.2.2.2.1 x2.2.2.2.2 rpart) := hD
  obtain rfl := Option.some.inj h
  exact hret 28 ls _ _ _ rfl hP hD hS d_Rs_compareDigits_28
-- Rs_tens
theorem d_Rs_tens_0 : decode b_Rs_tens 0 = .ok (.sipush (-330), 3) := by decide +kernel
theorem d_Rs_tens_3 : decode b_Rs_tens 3 = .ok (.istore 4, 2) := by decide +kernel
theorem d_Rs_tens_5 : decode b_Rs_tens 5 = .ok (.sipush 310, 3) := by decide +kernel
theorem d_Rs_tens_8 : decode b_Rs_tens 8 = .ok (.istore 5, 2) := by decide +kernel
theorem d_Rs_tens_10 : decode b_Rs_tens 10 = .ok (.iload 4, 2) := by decide +kernel
theorem d_Rs_tens_12 : decode b_Rs_tens 12 = .ok (.iload 5, 2) := by decide +kernel
theorem d_Rs_tens_14 : decode b_Rs_tens 14 = .ok (.if_icmp .ge 49, 3) := by decide +kernel
theorem d_Rs_tens_17 : decode b_Rs_tens 17 = .ok (.iload 4, 2) := by decide +kernel
theorem d_Rs_tens_19 : decode b_Rs_tens 19 = .ok (.iload 5, 2) := by decide +kernel
theorem d_Rs_tens_21 : decode b_Rs_tens 21 = .ok (.iload 4, 2) := by decide +kernel
theorem d_Rs_tens_23 : decode b_Rs_tens 23 = .ok (.isub, 1) := by decide +kernel
theorem d_Rs_tens_24 : decode b_Rs_tens 24 = .ok (.iconst 1, 1) := by decide +kernel
theorem d_Rs_tens_25 : decode b_Rs_tens 25 = .ok (.iadd, 1) := by decide +kernel
theorem d_Rs_tens_26 : decode b_Rs_tens 26 = .ok (.iconst 2, 1) := by decide +kernel
theorem d_Rs_tens_27 : decode b_Rs_tens 27 = .ok (.idiv, 1) := by decide +kernel
theorem d_Rs_tens_28 : decode b_Rs_tens 28 = .ok (.iadd, 1) := by decide +kernel
theorem d_Rs_tens_29 : decode b_Rs_tens 29 = .ok (.istore 6, 2) := by decide +kernel
theorem d_Rs_tens_31 : decode b_Rs_tens 31 = .ok (.aload_n 0, 1) := by decide +kernel
theorem d_Rs_tens_32 : decode b_Rs_tens 32 = .ok (.iload 6, 2) := by decide +kernel
theorem d_Rs_tens_34 : decode b_Rs_tens 34 = .ok (.invokevirtual 174, 3) := by decide +kernel
theorem d_Rs_tens_37 : decode b_Rs_tens 37 = .ok (.aload_n 0, 1) := by decide +kernel
theorem d_Rs_tens_38 : decode b_Rs_tens 38 = .ok (.lconst 1, 1) := by decide +kernel
theorem d_Rs_tens_39 : decode b_Rs_tens 39 = .ok (.lload_n 1, 1) := by decide +kernel
theorem d_Rs_tens_40 : decode b_Rs_tens 40 = .ok (.iload_n 3, 1) := by decide +kernel
theorem d_Rs_tens_41 : decode b_Rs_tens 41 = .ok (.invokevirtual 178, 3) := by decide +kernel
theorem d_Rs_tens_44 : decode b_Rs_tens 44 = .ok (.ifCond .gt 10, 3) := by decide +kernel
theorem d_Rs_tens_47 : decode b_Rs_tens 47 = .ok (.iload 6, 2) := by decide +kernel
theorem d_Rs_tens_49 : decode b_Rs_tens 49 = .ok (.istore 4, 2) := by decide +kernel
theorem d_Rs_tens_51 : decode b_Rs_tens 51 = .ok (.goto 9, 3) := by decide +kernel
theorem d_Rs_tens_54 : decode b_Rs_tens 54 = .ok (.iload 6, 2) := by decide +kernel
theorem d_Rs_tens_56 : decode b_Rs_tens 56 = .ok (.iconst 1, 1) := by decide +kernel
theorem d_Rs_tens_57 : decode b_Rs_tens 57 = .ok (.isub, 1) := by decide +kernel
theorem d_Rs_tens_58 : decode b_Rs_tens 58 = .ok (.istore 5, 2) := by decide +kernel
theorem d_Rs_tens_60 : decode b_Rs_tens 60 = .ok (.goto (-50), 3) := by decide +kernel
theorem d_Rs_tens_63 : decode b_Rs_tens 63 = .ok (.iload 4, 2) := by decide +kernel
theorem d_Rs_tens_65 : decode b_Rs_tens 65 = .ok (.ireturn, 1) := by decide +kernel
def F_Rs_tens_L10 (a1 : Int64) (a2 : Int32) (j63 : (Int32 → Int32 → Int32 → Int32 → Int32 → Int32 → Int32 → (Nat → Int32) → (Nat → Int32) → (Nat → Int32) → (Nat → Int32) → (Nat → Int32) → Option (Int32 × Int32 × Int32 × Int32 × Int32 × Int32 × Int32 × (Nat → Int32) × (Nat → Int32) × (Nat → Int32) × (Nat → Int32) × (Nat → Int32)))) : Nat → Int32 → Int32 → Int32 → Int32 → Int32 → Int32 → Int32 → Int32 → (Nat → Int32) → (Nat → Int32) → (Nat → Int32) → (Nat → Int32) → (Nat → Int32) → Option (Int32 × Int32 × Int32 × Int32 × Int32 × Int32 × Int32 × (Nat → Int32) × (Nat → Int32) × (Nat → Int32) × (Nat → Int32) × (Nat → Int32))
  | 0, _, _, _, _, _, _, _, _, _, _, _, _, _ => none
  | n+1, y13, y14, aN_15, bN_16, fN_17, lN__18, rN_19, twos_20, ra_21, rb_22, rfive_23, rleft_24, rright_25 => if y14 ≤ y13 then (j63 y13 aN_15 bN_16 fN_17 lN__18 rN_19 twos_20 ra_21 rb_22 rfive_23 rleft_24 rright_25) else (lt_ (y13 + (((y14 - y13) + (1 : Int32)) / (2 : Int32))) fun x26 => (F_Rs_scale n bN_16 fN_17 twos_20 rb_22 rfive_23 x26).bind fun x27 => (F_Rs_compareDigits n aN_15 x27.1 x27.2.1 lN__18 rN_19 x27.2.2.1 ra_21 x27.2.2.2.1 x27.2.2.2.2 rleft_24 rright_25 (1 : Int64) a1 a2).bind fun x28 => lt_ (if 0 < x28.1 then y13 else x26) fun x29 => lt_ (if 0 < x28.1 then x26 - (1 : Int32) else y14) fun x30 => F_Rs_tens_L10 a1 a2 j63 n x29 x30 x28.2.1 x27.1 x27.2.1 x28.2.2.1 x28.2.2.2.1 x27.2.2.1 x28.2.2.2.2.1 x27.2.2.2.1 x27.2.2.2.2 x28.2.2.2.2.2.1 x28.2.2.2.2.2.2)
def F_Rs_tens (n : Nat) (aN : Int32) (bN : Int32) (fN : Int32) (lN_ : Int32) (rN : Int32) (twos : Int32) (ra : Nat → Int32) (rb : Nat → Int32) (rfive : Nat → Int32) (rleft : Nat → Int32) (rright : Nat → Int32) (a1 : Int64) (a2 : Int32) : Option (Int32 × Int32 × Int32 × Int32 × Int32 × Int32 × Int32 × (Nat → Int32) × (Nat → Int32) × (Nat → Int32) × (Nat → Int32) × (Nat → Int32)) := lt_ (fun (y1 : Int32) (aN_2 : Int32) (bN_3 : Int32) (fN_4 : Int32) (lN__5 : Int32) (rN_6 : Int32) (twos_7 : Int32) (ra_8 : (Nat → Int32)) (rb_9 : (Nat → Int32)) (rfive_10 : (Nat → Int32)) (rleft_11 : (Nat → Int32)) (rright_12 : (Nat → Int32)) => some (y1, aN_2, bN_3, fN_4, lN__5, rN_6, twos_7, ra_8, rb_9, rfive_10, rleft_11, rright_12)) fun j63 => F_Rs_tens_L10 a1 a2 j63 n (-330 : Int32) (310 : Int32) aN bN fN lN_ rN twos ra rb rfive rleft rright
set_option maxHeartbeats 4000000 in
set_option maxRecDepth 100000 in
theorem c_Rs_tens (l : Launch) (D : va_G) (A : Nat → Prop) (cI cL cC : ClassId) (ad : Nat → Nat) (X : va_W) (laid : Int32) (gone : Int32) (thr : Int32) (m1 : Int64) (m2 : Int64) (e1 : Int32) (e2 : Int32) (mi1 : Int32) (mi2 : Int32) (na1 : Int32) (na2 : Int32) (fa1 : Int32) (fa2 : Int32) (lets : Nat → Int32) (rlen : Int32) (rlaid : Int32) (rgone : Int32) (rthr : Int32) (were : Int32) (none_ : Int32) (beyo : Int32) (aN : Int32) (bN : Int32) (fN : Int32) (lN_ : Int32) (rN : Int32) (pN : Int32) (twos : Int32) (at_ : Int32) (rdig : Int32) (rpow : Int32) (good : Int32) (txt : Nat → Int32) (wri : Nat → Int32) (ra : Nat → Int32) (rb : Nat → Int32) (rfive : Nat → Int32) (rleft : Nat → Int32) (rright : Nat → Int32) (rpart : Nat → Int32) (n : Nat) (a1 : Int64) (a2 : Int32) (r : Int32 × Int32 × Int32 × Int32 × Int32 × Int32 × Int32 × (Nat → Int32) × (Nat → Int32) × (Nat → Int32) × (Nat → Int32) × (Nat → Int32)) (h : F_Rs_tens n aN bN fN lN_ rN twos ra rb rfive rleft rright a1 a2 = some r) : Met l y_Rs_tens (.code y_Rs_tens b_Rs_tens 7 (some .int) :: BIG) ({ frames := 5, cells := 0, slots := 0, locals := 125 } : Room) (va_Pc [.ref (ad 2), .long a1, .int a2] (gPre D A (tysV cI cL cC) (gM cI cL cC ad X laid gone thr m1 m2 e1 e2 mi1 mi2 na1 na2 fa1 fa2 lets rlen rlaid rgone rthr were none_ beyo aN bN fN lN_ rN pN twos at_ rdig rpow good txt wri ra rb rfive rleft rright rpart))) (gQ D A (some (.int r.1)) (gM cI cL cC ad X laid gone thr m1 m2 e1 e2 mi1 mi2 na1 na2 fa1 fa2 lets rlen rlaid rgone rthr were none_ beyo r.2.1 r.2.2.1 r.2.2.2.1 r.2.2.2.2.1 r.2.2.2.2.2.1 pN r.2.2.2.2.2.2.1 at_ rdig rpow good txt wri r.2.2.2.2.2.2.2.1 r.2.2.2.2.2.2.2.2.1 r.2.2.2.2.2.2.2.2.2.1 r.2.2.2.2.2.2.2.2.2.2.1 r.2.2.2.2.2.2.2.2.2.2.2 rpart)) 0 0 A := by
  refine gOpen_i rfl (Nat.le_of_ble_eq_true rfl) ?_
  intro p e s m args below meth c Q ls hx hb hml hown hts hT hNB hP hK hD hl hret
  have hown : s.vm.findClass R_Rs = some m.cls := hown
  have hS : va_S A s.heap s.heap [] := va_S.rf
  have hl : lv_has ls 7 [(0, .ref (ad 2)), (1, .long a1), (3, .int a2)] := hl
  have h : (lt_ (fun (y1 : Int32) (aN_2 : Int32) (bN_3 : Int32) (fN_4 : Int32) (lN__5 : Int32) (rN_6 : Int32) (twos_7 : Int32) (ra_8 : (Nat → Int32)) (rb_9 : (Nat → Int32)) (rfive_10 : (Nat → Int32)) (rleft_11 : (Nat → Int32)) (rright_12 : (Nat → Int32)) => some (y1, aN_2, bN_3, fN_4, lN__5, rN_6, twos_7, ra_8, rb_9, rfive_10, rleft_11, rright_12)) fun j63 => F_Rs_tens_L10 a1 a2 j63 n (-330 : Int32) (310 : Int32) aN bN fN lN_ rN twos ra rb rfive rleft rright) = some r := h
  refine lv_sipush hx hb d_Rs_tens_0 sp_m330 ?_
  refine lv_istore hx hb d_Rs_tens_3 hl (by decide) rfl (fun ls hl => ?_)
  have hl : lv_has ls 7 [(4, .int (-330 : Int32)), (0, .ref (ad 2)), (1, .long a1), (3, .int a2)] := hl
  refine lv_sipush hx hb d_Rs_tens_5 sp_310 ?_
  refine lv_istore hx hb d_Rs_tens_8 hl (by decide) rfl (fun ls hl => ?_)
  have hl : lv_has ls 7 [(5, .int (310 : Int32)), (4, .int (-330 : Int32)), (0, .ref (ad 2)), (1, .long a1), (3, .int a2)] := hl
  obtain ⟨j63, e_j63, h⟩ := lt_o h
  have hJ63 : ∀ (y1 : Int32) (aN_2 : Int32) (bN_3 : Int32) (fN_4 : Int32) (lN__5 : Int32) (rN_6 : Int32) (twos_7 : Int32) (ra_8 : (Nat → Int32)) (rb_9 : (Nat → Int32)) (rfive_10 : (Nat → Int32)) (rleft_11 : (Nat → Int32)) (rright_12 : (Nat → Int32)) (ls : Array Slot) (H : Heap) (locs : List Loc), lv_has ls 7 [(4, .int y1)] → va_P D cls (gM cI cL cC ad X laid gone thr m1 m2 e1 e2 mi1 mi2 na1 na2 fa1 fa2 lets rlen rlaid rgone rthr were none_ beyo aN_2 bN_3 fN_4 lN__5 rN_6 pN twos_7 at_ rdig rpow good txt wri ra_8 rb_9 rfive_10 rleft_11 rright_12 rpart) H → va_D A (gM cI cL cC ad X laid gone thr m1 m2 e1 e2 mi1 mi2 na1 na2 fa1 fa2 lets rlen rlaid rgone rthr were none_ beyo aN_2 bN_3 fN_4 lN__5 rN_6 pN twos_7 at_ rdig rpow good txt wri ra_8 rb_9 rfive_10 rleft_11 rright_12 rpart) → va_S A s.heap H locs → j63 y1 aN_2 bN_3 fN_4 lN__5 rN_6 twos_7 ra_8 rb_9 rfive_10 rleft_11 rright_12 = some r → W p l e ({ frames := 5, cells := 0, slots := 0, locals := 125 } : Room) s m args below meth c H locs 0 0 Q (F0 m 63 ls []) := by
    intro y1 aN_2 bN_3 fN_4 lN__5 rN_6 twos_7 ra_8 rb_9 rfive_10 rleft_11 rright_12 ls H locs hl hP hD hS h
    rw [e_j63] at h
    refine lv_iload hx hb d_Rs_tens_63 (lv_at hl 0 rfl) ?_
    obtain rfl := Option.some.inj h
    exact hret 65 ls _ _ _ rfl hP hD hS d_Rs_tens_65
  have hL10 : ∀ (n : Nat) (y13 : Int32) (y14 : Int32) (aN_15 : Int32) (bN_16 : Int32) (fN_17 : Int32) (lN__18 : Int32) (rN_19 : Int32) (twos_20 : Int32) (ra_21 : (Nat → Int32)) (rb_22 : (Nat → Int32)) (rfive_23 : (Nat → Int32)) (rleft_24 : (Nat → Int32)) (rright_25 : (Nat → Int32)) (ls : Array Slot) (H : Heap) (locs : List Loc), lv_has ls 7 [(0, .ref (ad 2)), (1, .long a1), (3, .int a2), (4, .int y13), (5, .int y14)] → va_P D cls (gM cI cL cC ad X laid gone thr m1 m2 e1 e2 mi1 mi2 na1 na2 fa1 fa2 lets rlen rlaid rgone rthr were none_ beyo aN_15 bN_16 fN_17 lN__18 rN_19 pN twos_20 at_ rdig rpow good txt wri ra_21 rb_22 rfive_23 rleft_24 rright_25 rpart) H → va_D A (gM cI cL cC ad X laid gone thr m1 m2 e1 e2 mi1 mi2 na1 na2 fa1 fa2 lets rlen rlaid rgone rthr were none_ beyo aN_15 bN_16 fN_17 lN__18 rN_19 pN twos_20 at_ rdig rpow good txt wri ra_21 rb_22 rfive_23 rleft_24 rright_25 rpart) → va_S A s.heap H locs → F_Rs_tens_L10 a1 a2 j63 n y13 y14 aN_15 bN_16 fN_17 lN__18 rN_19 twos_20 ra_21 rb_22 rfive_23 rleft_24 rright_25 = some r → W p l e ({ frames := 5, cells := 0, slots := 0, locals := 125 } : Room) s m args below meth c H locs 0 0 Q (F0 m 10 ls []) := by
    intro n
    induction n with
    | zero => intro y13 y14 aN_15 bN_16 fN_17 lN__18 rN_19 twos_20 ra_21 rb_22 rfive_23 rleft_24 rright_25 ls H locs hl hP hD hS h; exact no_s h
    | succ n ih =>
      intro y13 y14 aN_15 bN_16 fN_17 lN__18 rN_19 twos_20 ra_21 rb_22 rfive_23 rleft_24 rright_25 ls H locs hl hP hD hS h
      have h : (if y14 ≤ y13 then (j63 y13 aN_15 bN_16 fN_17 lN__18 rN_19 twos_20 ra_21 rb_22 rfive_23 rleft_24 rright_25) else (lt_ (y13 + (((y14 - y13) + (1 : Int32)) / (2 : Int32))) fun x26 => (F_Rs_scale n bN_16 fN_17 twos_20 rb_22 rfive_23 x26).bind fun x27 => (F_Rs_compareDigits n aN_15 x27.1 x27.2.1 lN__18 rN_19 x27.2.2.1 ra_21 x27.2.2.2.1 x27.2.2.2.2 rleft_24 rright_25 (1 : Int64) a1 a2).bind fun x28 => lt_ (if 0 < x28.1 then y13 else x26) fun x29 => lt_ (if 0 < x28.1 then x26 - (1 : Int32) else y14) fun x30 => F_Rs_tens_L10 a1 a2 j63 n x29 x30 x28.2.1 x27.1 x27.2.1 x28.2.2.1 x28.2.2.2.1 x27.2.2.1 x28.2.2.2.2.1 x27.2.2.2.1 x27.2.2.2.2 x28.2.2.2.2.2.1 x28.2.2.2.2.2.2)) = some r := h
      refine lv_iload hx hb d_Rs_tens_10 (lv_at hl 3 rfl) ?_
      refine lv_iload hx hb d_Rs_tens_12 (lv_at hl 4 rfl) ?_
      refine lv_icmp_ge (tgt := 63) hx hb d_Rs_tens_14 rfl (fun hc => ?_) (fun hc => ?_)
      · have h := ite_t hc h
        exact hJ63 _ _ _ _ _ _ _ _ _ _ _ _ ls _ _ (lv_sub hl [3] rfl) hP hD hS h
      · have h := ite_f hc h
        refine lv_iload hx hb d_Rs_tens_17 (lv_at hl 3 rfl) ?_
        refine lv_iload hx hb d_Rs_tens_19 (lv_at hl 4 rfl) ?_
        refine lv_iload hx hb d_Rs_tens_21 (lv_at hl 3 rfl) ?_
        refine lv_isub hx hb d_Rs_tens_23 ?_
        refine lv_iconst hx hb d_Rs_tens_24 ic_1 ?_
        refine lv_iadd hx hb d_Rs_tens_25 ?_
        refine lv_iconst hx hb d_Rs_tens_26 ic_2 ?_
        refine lv_idiv hx hb d_Rs_tens_27 (by decide) ?_
        refine lv_iadd hx hb d_Rs_tens_28 ?_
        refine lv_topi (fun x26 e_x26 => ?_)
        have h := lt_h e_x26 h
        refine lv_istore hx hb d_Rs_tens_29 hl (by decide) rfl (fun ls hl => ?_)
        have hl : lv_has ls 7 [(6, .int x26), (0, .ref (ad 2)), (1, .long a1), (3, .int a2), (4, .int y13), (5, .int y14)] := hl
        refine lv_aload_n hx hb d_Rs_tens_31 rfl (lv_at hl 1 rfl) ?_
        refine lv_iload hx hb d_Rs_tens_32 (lv_at hl 0 rfl) ?_
        obtain ⟨x27, e_x27, h⟩ := bd_o h
        refine q_GV (D := D) (A := A) (C := R_Rs) (b := ad 2) (As := [.int x26]) (rest := []) (n := 1) hx hb hml hown hts (c_Rs_scale l D A cI cL cC ad X laid gone thr m1 m2 e1 e2 mi1 mi2 na1 na2 fa1 fa2 lets rlen rlaid rgone rthr were none_ beyo aN_15 bN_16 fN_17 lN__18 rN_19 pN twos_20 at_ rdig rpow good txt wri ra_21 rb_22 rfive_23 rleft_24 rright_25 rpart n x26 x27 e_x27) rfl rfl m_354 m_355 m_356 m_357 m_318 (by decide +kernel) ⟨Nat.le_of_ble_eq_true rfl, Nat.le_of_ble_eq_true rfl⟩ (va_recv hK hP (ci := 5) rfl (q0 := 2) rfl) hNB hK hP hD hS rfl hl.1 rfl (Nat.le_of_ble_eq_true rfl) d_Rs_tens_34 ⟨Nat.zero_le _, Nat.zero_le _⟩ (fun H locs hP hD hS => ?_)
        have hP : va_P D cls (gM cI cL cC ad X laid gone thr m1 m2 e1 e2 mi1 mi2 na1 na2 fa1 fa2 lets rlen rlaid rgone rthr were none_ beyo aN_15 x27.1 x27.2.1 lN__18 rN_19 pN x27.2.2.1 at_ rdig rpow good txt wri ra_21 x27.2.2.2.1 x27.2.2.2.2 rleft_24 rright_25 rpart) H := hP
        have hD : va_D A (gM cI cL cC ad X laid gone thr m1 m2 e1 e2 mi1 mi2 na1 na2 fa1 fa2 lets rlen rlaid rgone rthr were none_ beyo aN_15 x27.1 x27.2.1 lN__18 rN_19 pN x27.2.2.1 at_ rdig rpow good txt wri ra_21 x27.2.2.2.1 x27.2.2.2.2 rleft_24 rright_25 rpart) := hD
        refine lv_aload_n hx hb d_Rs_tens_37 rfl (lv_at hl 1 rfl) ?_
        refine lv_lconst hx hb d_Rs_tens_38 lc_1 ?_
        refine lv_lload_n hx hb d_Rs_tens_39 rfl (lv_at hl 2 rfl) ?_
        refine lv_iload_n hx hb d_Rs_tens_40 rfl (lv_at hl 3 rfl) ?_
        obtain ⟨x28, e_x28, h⟩ := bd_o h
        refine q_GV (D := D) (A := A) (C := R_Rs) (b := ad 2) (As := [.long (1 : Int64), .long a1, .int a2]) (rest := []) (n := 3) hx hb hml hown hts (c_Rs_compareDigits l D A cI cL cC ad X laid gone thr m1 m2 e1 e2 mi1 mi2 na1 na2 fa1 fa2 lets rlen rlaid rgone rthr were none_ beyo aN_15 x27.1 x27.2.1 lN__18 rN_19 pN x27.2.2.1 at_ rdig rpow good txt wri ra_21 x27.2.2.2.1 x27.2.2.2.2 rleft_24 rright_25 rpart n (1 : Int64) a1 a2 x28 e_x28) rfl rfl m_358 m_359 m_360 m_361 m_318 (by decide +kernel) ⟨Nat.le_of_ble_eq_true rfl, Nat.le_of_ble_eq_true rfl⟩ (va_recv hK hP (ci := 5) rfl (q0 := 2) rfl) hNB hK hP hD hS rfl hl.1 rfl (Nat.le_of_ble_eq_true rfl) d_Rs_tens_41 ⟨Nat.zero_le _, Nat.zero_le _⟩ (fun H locs hP hD hS => ?_)
        have hP : va_P D cls (gM cI cL cC ad X laid gone thr m1 m2 e1 e2 mi1 mi2 na1 na2 fa1 fa2 lets rlen rlaid rgone rthr were none_ beyo x28.2.1 x27.1 x27.2.1 x28.2.2.1 x28.2.2.2.1 pN x27.2.2.1 at_ rdig rpow good txt wri x28.2.2.2.2.1 x27.2.2.2.1 x27.2.2.2.2 x28.2.2.2.2.2.1 x28.2.2.2.2.2.2 rpart) H := hP
        have hD : va_D A (gM cI cL cC ad X laid gone thr m1 m2 e1 e2 mi1 mi2 na1 na2 fa1 fa2 lets rlen rlaid rgone rthr were none_ beyo x28.2.1 x27.1 x27.2.1 x28.2.2.1 x28.2.2.2.1 pN x27.2.2.1 at_ rdig rpow good txt wri x28.2.2.2.2.1 x27.2.2.2.1 x27.2.2.2.2 x28.2.2.2.2.2.1 x28.2.2.2.2.2.2 rpart) := hD
        obtain ⟨x29, e_x29, h⟩ := lt_o h
        obtain ⟨x30, e_x30, h⟩ := lt_o h
        have hJ60 : ∀ (x29' : Int32) (x30' : Int32) (ls : Array Slot), x29 = x29' → x30 = x30' → lv_has ls 7 [(0, .ref (ad 2)), (1, .long a1), (3, .int a2), (4, .int x29'), (5, .int x30')] → W p l e ({ frames := 5, cells := 0, slots := 0, locals := 125 } : Room) s m args below meth c H locs 0 0 Q (F0 m 60 ls []) := by
          intro x29' x30' ls q_x29 q_x30 hl
          subst q_x29
          subst q_x30
          refine lv_goto (tgt := 10) hx hb d_Rs_tens_60 rfl ?_
          exact ih _ _ _ _ _ _ _ _ _ _ _ _ _ ls _ _ (lv_sub hl [0, 1, 2, 3, 4] rfl) hP hD hS h
        refine lv_if_gt (tgt := 54) hx hb d_Rs_tens_44 rfl (fun hc => ?_) (fun hc => ?_)
        · have e_x29 := e_x29.trans (if_pos hc)
          have e_x30 := e_x30.trans (if_pos hc)
          refine lv_iload hx hb d_Rs_tens_54 (lv_at hl 0 rfl) ?_
          refine lv_iconst hx hb d_Rs_tens_56 ic_1 ?_
          refine lv_isub hx hb d_Rs_tens_57 ?_
          refine lv_istore hx hb d_Rs_tens_58 hl (by decide) rfl (fun ls hl => ?_)
          have hl : lv_has ls 7 [(5, .int (x26 - (1 : Int32))), (6, .int x26), (0, .ref (ad 2)), (1, .long a1), (3, .int a2), (4, .int y13)] := hl
          exact hJ60 _ _ ls e_x29 e_x30 (lv_sub hl [2, 3, 4, 5, 0] rfl)
        · have e_x29 := e_x29.trans (if_neg hc)
          have e_x30 := e_x30.trans (if_neg hc)
          refine lv_iload hx hb d_Rs_tens_47 (lv_at hl 0 rfl) ?_
          refine lv_istore hx hb d_Rs_tens_49 hl (by decide) rfl (fun ls hl => ?_)
          have hl : lv_has ls 7 [(4, .int x26), (6, .int x26), (0, .ref (ad 2)), (1, .long a1), (3, .int a2), (5, .int y14)] := hl
          refine lv_goto (tgt := 60) hx hb d_Rs_tens_51 rfl ?_
          exact hJ60 _ _ ls e_x29 e_x30 (lv_sub hl [2, 3, 4, 0, 5] rfl)
  exact hL10 n _ _ _ _ _ _ _ _ _ _ _ _ _ ls _ _ (lv_sub hl [2, 3, 4, 1, 0] rfl) hP hD hS h
-- Rs_most
theorem d_Rs_most_0 : decode b_Rs_most 0 = .ok (.lconst 0, 1) := by decide +kernel
theorem d_Rs_most_1 : decode b_Rs_most 1 = .ok (.lstore 6, 2) := by decide +kernel
theorem d_Rs_most_3 : decode b_Rs_most 3 = .ok (.lload 4, 2) := by decide +kernel
theorem d_Rs_most_5 : decode b_Rs_most 5 = .ok (.lstore 8, 2) := by decide +kernel
theorem d_Rs_most_7 : decode b_Rs_most 7 = .ok (.lload 6, 2) := by decide +kernel
theorem d_Rs_most_9 : decode b_Rs_most 9 = .ok (.lload 8, 2) := by decide +kernel
theorem d_Rs_most_11 : decode b_Rs_most 11 = .ok (.lcmp, 1) := by decide +kernel
theorem d_Rs_most_12 : decode b_Rs_most 12 = .ok (.ifCond .ge 46, 3) := by decide +kernel
theorem d_Rs_most_15 : decode b_Rs_most 15 = .ok (.lload 6, 2) := by decide +kernel
theorem d_Rs_most_17 : decode b_Rs_most 17 = .ok (.lload 8, 2) := by decide +kernel
theorem d_Rs_most_19 : decode b_Rs_most 19 = .ok (.lload 6, 2) := by decide +kernel
theorem d_Rs_most_21 : decode b_Rs_most 21 = .ok (.lsub, 1) := by decide +kernel
theorem d_Rs_most_22 : decode b_Rs_most 22 = .ok (.lconst 1, 1) := by decide +kernel
theorem d_Rs_most_23 : decode b_Rs_most 23 = .ok (.ladd, 1) := by decide +kernel
theorem d_Rs_most_24 : decode b_Rs_most 24 = .ok (.ldc2_w 86, 3) := by decide +kernel
theorem d_Rs_most_27 : decode b_Rs_most 27 = .ok (.ldiv, 1) := by decide +kernel
theorem d_Rs_most_28 : decode b_Rs_most 28 = .ok (.ladd, 1) := by decide +kernel
theorem d_Rs_most_29 : decode b_Rs_most 29 = .ok (.lstore 10, 2) := by decide +kernel
theorem d_Rs_most_31 : decode b_Rs_most 31 = .ok (.aload_n 0, 1) := by decide +kernel
theorem d_Rs_most_32 : decode b_Rs_most 32 = .ok (.lload 10, 2) := by decide +kernel
theorem d_Rs_most_34 : decode b_Rs_most 34 = .ok (.lload_n 1, 1) := by decide +kernel
theorem d_Rs_most_35 : decode b_Rs_most 35 = .ok (.iload_n 3, 1) := by decide +kernel
theorem d_Rs_most_36 : decode b_Rs_most 36 = .ok (.invokevirtual 178, 3) := by decide +kernel
theorem d_Rs_most_39 : decode b_Rs_most 39 = .ok (.ifCond .gt 10, 3) := by decide +kernel
theorem d_Rs_most_42 : decode b_Rs_most 42 = .ok (.lload 10, 2) := by decide +kernel
theorem d_Rs_most_44 : decode b_Rs_most 44 = .ok (.lstore 6, 2) := by decide +kernel
theorem d_Rs_most_46 : decode b_Rs_most 46 = .ok (.goto 9, 3) := by decide +kernel
theorem d_Rs_most_49 : decode b_Rs_most 49 = .ok (.lload 10, 2) := by decide +kernel
theorem d_Rs_most_51 : decode b_Rs_most 51 = .ok (.lconst 1, 1) := by decide +kernel
theorem d_Rs_most_52 : decode b_Rs_most 52 = .ok (.lsub, 1) := by decide +kernel
theorem d_Rs_most_53 : decode b_Rs_most 53 = .ok (.lstore 8, 2) := by decide +kernel
theorem d_Rs_most_55 : decode b_Rs_most 55 = .ok (.goto (-48), 3) := by decide +kernel
theorem d_Rs_most_58 : decode b_Rs_most 58 = .ok (.lload 6, 2) := by decide +kernel
theorem d_Rs_most_60 : decode b_Rs_most 60 = .ok (.lreturn, 1) := by decide +kernel
def F_Rs_most_L7 (bN : Int32) (fN : Int32) (twos : Int32) (rb : Nat → Int32) (rfive : Nat → Int32) (a1 : Int64) (a2 : Int32) (j58 : (Int64 → Int32 → Int32 → Int32 → (Nat → Int32) → (Nat → Int32) → (Nat → Int32) → Option (Int64 × Int32 × Int32 × Int32 × (Nat → Int32) × (Nat → Int32) × (Nat → Int32)))) : Nat → Int64 → Int64 → Int32 → Int32 → Int32 → (Nat → Int32) → (Nat → Int32) → (Nat → Int32) → Option (Int64 × Int32 × Int32 × Int32 × (Nat → Int32) × (Nat → Int32) × (Nat → Int32))
  | 0, _, _, _, _, _, _, _, _ => none
  | n+1, y8, y9, aN_10, lN__11, rN_12, ra_13, rleft_14, rright_15 => if y9 ≤ y8 then (j58 y8 aN_10 lN__11 rN_12 ra_13 rleft_14 rright_15) else (lt_ (y8 + (((y9 - y8) + (1 : Int64)) / (2 : Int64))) fun x16 => (F_Rs_compareDigits n aN_10 bN fN lN__11 rN_12 twos ra_13 rb rfive rleft_14 rright_15 x16 a1 a2).bind fun x17 => lt_ (if 0 < x17.1 then y8 else x16) fun x18 => lt_ (if 0 < x17.1 then x16 - (1 : Int64) else y9) fun x19 => F_Rs_most_L7 bN fN twos rb rfive a1 a2 j58 n x18 x19 x17.2.1 x17.2.2.1 x17.2.2.2.1 x17.2.2.2.2.1 x17.2.2.2.2.2.1 x17.2.2.2.2.2.2)
def F_Rs_most (n : Nat) (aN : Int32) (bN : Int32) (fN : Int32) (lN_ : Int32) (rN : Int32) (twos : Int32) (ra : Nat → Int32) (rb : Nat → Int32) (rfive : Nat → Int32) (rleft : Nat → Int32) (rright : Nat → Int32) (a1 : Int64) (a2 : Int32) (a3 : Int64) : Option (Int64 × Int32 × Int32 × Int32 × (Nat → Int32) × (Nat → Int32) × (Nat → Int32)) := lt_ (fun (y1 : Int64) (aN_2 : Int32) (lN__3 : Int32) (rN_4 : Int32) (ra_5 : (Nat → Int32)) (rleft_6 : (Nat → Int32)) (rright_7 : (Nat → Int32)) => some (y1, aN_2, lN__3, rN_4, ra_5, rleft_6, rright_7)) fun j58 => F_Rs_most_L7 bN fN twos rb rfive a1 a2 j58 n (0 : Int64) a3 aN lN_ rN ra rleft rright
set_option maxHeartbeats 4000000 in
set_option maxRecDepth 100000 in
theorem c_Rs_most (l : Launch) (D : va_G) (A : Nat → Prop) (cI cL cC : ClassId) (ad : Nat → Nat) (X : va_W) (laid : Int32) (gone : Int32) (thr : Int32) (m1 : Int64) (m2 : Int64) (e1 : Int32) (e2 : Int32) (mi1 : Int32) (mi2 : Int32) (na1 : Int32) (na2 : Int32) (fa1 : Int32) (fa2 : Int32) (lets : Nat → Int32) (rlen : Int32) (rlaid : Int32) (rgone : Int32) (rthr : Int32) (were : Int32) (none_ : Int32) (beyo : Int32) (aN : Int32) (bN : Int32) (fN : Int32) (lN_ : Int32) (rN : Int32) (pN : Int32) (twos : Int32) (at_ : Int32) (rdig : Int32) (rpow : Int32) (good : Int32) (txt : Nat → Int32) (wri : Nat → Int32) (ra : Nat → Int32) (rb : Nat → Int32) (rfive : Nat → Int32) (rleft : Nat → Int32) (rright : Nat → Int32) (rpart : Nat → Int32) (n : Nat) (a1 : Int64) (a2 : Int32) (a3 : Int64) (r : Int64 × Int32 × Int32 × Int32 × (Nat → Int32) × (Nat → Int32) × (Nat → Int32)) (h : F_Rs_most n aN bN fN lN_ rN twos ra rb rfive rleft rright a1 a2 a3 = some r) : Met l y_Rs_most (.code y_Rs_most b_Rs_most 12 (some .long) :: BIG) ({ frames := 5, cells := 0, slots := 0, locals := 125 } : Room) (va_Pc [.ref (ad 2), .long a1, .int a2, .long a3] (gPre D A (tysV cI cL cC) (gM cI cL cC ad X laid gone thr m1 m2 e1 e2 mi1 mi2 na1 na2 fa1 fa2 lets rlen rlaid rgone rthr were none_ beyo aN bN fN lN_ rN pN twos at_ rdig rpow good txt wri ra rb rfive rleft rright rpart))) (gQ D A (some (.long r.1)) (gM cI cL cC ad X laid gone thr m1 m2 e1 e2 mi1 mi2 na1 na2 fa1 fa2 lets rlen rlaid rgone rthr were none_ beyo r.2.1 bN fN r.2.2.1 r.2.2.2.1 pN twos at_ rdig rpow good txt wri r.2.2.2.2.1 rb rfive r.2.2.2.2.2.1 r.2.2.2.2.2.2 rpart)) 0 0 A := by
  refine gOpen_l rfl (Nat.le_of_ble_eq_true rfl) ?_
  intro p e s m args below meth c Q ls hx hb hml hown hts hT hNB hP hK hD hl hret
  have hown : s.vm.findClass R_Rs = some m.cls := hown
  have hS : va_S A s.heap s.heap [] := va_S.rf
  have hl : lv_has ls 12 [(0, .ref (ad 2)), (1, .long a1), (3, .int a2), (4, .long a3)] := hl
  have h : (lt_ (fun (y1 : Int64) (aN_2 : Int32) (lN__3 : Int32) (rN_4 : Int32) (ra_5 : (Nat → Int32)) (rleft_6 : (Nat → Int32)) (rright_7 : (Nat → Int32)) => some (y1, aN_2, lN__3, rN_4, ra_5, rleft_6, rright_7)) fun j58 => F_Rs_most_L7 bN fN twos rb rfive a1 a2 j58 n (0 : Int64) a3 aN lN_ rN ra rleft rright) = some r := h
  refine lv_lconst hx hb d_Rs_most_0 lc_0 ?_
  refine lv_lstore hx hb d_Rs_most_1 hl (by decide) rfl (fun ls hl => ?_)
  have hl : lv_has ls 12 [(6, .long (0 : Int64)), (0, .ref (ad 2)), (1, .long a1), (3, .int a2), (4, .long a3)] := hl
  refine lv_lload hx hb d_Rs_most_3 (lv_at hl 4 rfl) ?_
  refine lv_lstore hx hb d_Rs_most_5 hl (by decide) rfl (fun ls hl => ?_)
  have hl : lv_has ls 12 [(8, .long a3), (6, .long (0 : Int64)), (0, .ref (ad 2)), (1, .long a1), (3, .int a2), (4, .long a3)] := hl
  obtain ⟨j58, e_j58, h⟩ := lt_o h
  have hJ58 : ∀ (y1 : Int64) (aN_2 : Int32) (lN__3 : Int32) (rN_4 : Int32) (ra_5 : (Nat → Int32)) (rleft_6 : (Nat → Int32)) (rright_7 : (Nat → Int32)) (ls : Array Slot) (H : Heap) (locs : List Loc), lv_has ls 12 [(6, .long y1)] → va_P D cls (gM cI cL cC ad X laid gone thr m1 m2 e1 e2 mi1 mi2 na1 na2 fa1 fa2 lets rlen rlaid rgone rthr were none_ beyo aN_2 bN fN lN__3 rN_4 pN twos at_ rdig rpow good txt wri ra_5 rb rfive rleft_6 rright_7 rpart) H → va_D A (gM cI cL cC ad X laid gone thr m1 m2 e1 e2 mi1 mi2 na1 na2 fa1 fa2 lets rlen rlaid rgone rthr were none_ beyo aN_2 bN fN lN__3 rN_4 pN twos at_ rdig rpow good txt wri ra_5 rb rfive rleft_6 rright_7 rpart) → va_S A s.heap H locs → j58 y1 aN_2 lN__3 rN_4 ra_5 rleft_6 rright_7 = some r → W p l e ({ frames := 5, cells := 0, slots := 0, locals := 125 } : Room) s m args below meth c H locs 0 0 Q (F0 m 58 ls []) := by
    intro y1 aN_2 lN__3 rN_4 ra_5 rleft_6 rright_7 ls H locs hl hP hD hS h
    rw [e_j58] at h
    refine lv_lload hx hb d_Rs_most_58 (lv_at hl 0 rfl) ?_
    obtain rfl := Option.some.inj h
    exact hret 60 ls _ _ _ rfl hP hD hS d_Rs_most_60
  have hL7 : ∀ (n : Nat) (y8 : Int64) (y9 : Int64) (aN_10 : Int32) (lN__11 : Int32) (rN_12 : Int32) (ra_13 : (Nat → Int32)) (rleft_14 : (Nat → Int32)) (rright_15 : (Nat → Int32)) (ls : Array Slot) (H : Heap) (locs : List Loc), lv_has ls 12 [(0, .ref (ad 2)), (1, .long a1), (3, .int a2), (6, .long y8), (8, .long y9)] → va_P D cls (gM cI cL cC ad X laid gone thr m1 m2 e1 e2 mi1 mi2 na1 na2 fa1 fa2 lets rlen rlaid rgone rthr were none_ beyo aN_10 bN fN lN__11 rN_12 pN twos at_ rdig rpow good txt wri ra_13 rb rfive rleft_14 rright_15 rpart) H → va_D A (gM cI cL cC ad X laid gone thr m1 m2 e1 e2 mi1 mi2 na1 na2 fa1 fa2 lets rlen rlaid rgone rthr were none_ beyo aN_10 bN fN lN__11 rN_12 pN twos at_ rdig rpow good txt wri ra_13 rb rfive rleft_14 rright_15 rpart) → va_S A s.heap H locs → F_Rs_most_L7 bN fN twos rb rfive a1 a2 j58 n y8 y9 aN_10 lN__11 rN_12 ra_13 rleft_14 rright_15 = some r → W p l e ({ frames := 5, cells := 0, slots := 0, locals := 125 } : Room) s m args below meth c H locs 0 0 Q (F0 m 7 ls []) := by
    intro n
    induction n with
    | zero => intro y8 y9 aN_10 lN__11 rN_12 ra_13 rleft_14 rright_15 ls H locs hl hP hD hS h; exact no_s h
    | succ n ih =>
      intro y8 y9 aN_10 lN__11 rN_12 ra_13 rleft_14 rright_15 ls H locs hl hP hD hS h
      have h : (if y9 ≤ y8 then (j58 y8 aN_10 lN__11 rN_12 ra_13 rleft_14 rright_15) else (lt_ (y8 + (((y9 - y8) + (1 : Int64)) / (2 : Int64))) fun x16 => (F_Rs_compareDigits n aN_10 bN fN lN__11 rN_12 twos ra_13 rb rfive rleft_14 rright_15 x16 a1 a2).bind fun x17 => lt_ (if 0 < x17.1 then y8 else x16) fun x18 => lt_ (if 0 < x17.1 then x16 - (1 : Int64) else y9) fun x19 => F_Rs_most_L7 bN fN twos rb rfive a1 a2 j58 n x18 x19 x17.2.1 x17.2.2.1 x17.2.2.2.1 x17.2.2.2.2.1 x17.2.2.2.2.2.1 x17.2.2.2.2.2.2)) = some r := h
      refine lv_lload hx hb d_Rs_most_7 (lv_at hl 3 rfl) ?_
      refine lv_lload hx hb d_Rs_most_9 (lv_at hl 4 rfl) ?_
      refine W.lcmp hx hb d_Rs_most_11 ?_
      refine lv_if_ge (tgt := 58) hx hb d_Rs_most_12 rfl (fun hc => ?_) (fun hc => ?_)
      · have hc := (lg_cmp_ge _ _).mp hc
        have h := ite_t hc h
        exact hJ58 _ _ _ _ _ _ _ ls _ _ (lv_sub hl [3] rfl) hP hD hS h
      · have hc := mt (lg_cmp_ge _ _).mpr hc
        have h := ite_f hc h
        refine lv_lload hx hb d_Rs_most_15 (lv_at hl 3 rfl) ?_
        refine lv_lload hx hb d_Rs_most_17 (lv_at hl 4 rfl) ?_
        refine lv_lload hx hb d_Rs_most_19 (lv_at hl 3 rfl) ?_
        refine lv_lsub hx hb d_Rs_most_21 ?_
        refine lv_lconst hx hb d_Rs_most_22 lc_1 ?_
        refine lv_ladd hx hb d_Rs_most_23 ?_
        refine lv_ldc2 hx hb hown (hT _ m_362) d_Rs_most_24 ?_
        refine lv_ldiv hx hb d_Rs_most_27 (by decide) ?_
        refine lv_ladd hx hb d_Rs_most_28 ?_
        refine lv_topl (fun x16 e_x16 => ?_)
        have h := lt_h e_x16 h
        refine lv_lstore hx hb d_Rs_most_29 hl (by decide) rfl (fun ls hl => ?_)
        have hl : lv_has ls 12 [(10, .long x16), (0, .ref (ad 2)), (1, .long a1), (3, .int a2), (6, .long y8), (8, .long y9)] := hl
        refine lv_aload_n hx hb d_Rs_most_31 rfl (lv_at hl 1 rfl) ?_
        refine lv_lload hx hb d_Rs_most_32 (lv_at hl 0 rfl) ?_
        refine lv_lload_n hx hb d_Rs_most_34 rfl (lv_at hl 2 rfl) ?_
        refine lv_iload_n hx hb d_Rs_most_35 rfl (lv_at hl 3 rfl) ?_
        obtain ⟨x17, e_x17, h⟩ := bd_o h
        refine q_GV (D := D) (A := A) (C := R_Rs) (b := ad 2) (As := [.long x16, .long a1, .int a2]) (rest := []) (n := 3) hx hb hml hown hts (c_Rs_compareDigits l D A cI cL cC ad X laid gone thr m1 m2 e1 e2 mi1 mi2 na1 na2 fa1 fa2 lets rlen rlaid rgone rthr were none_ beyo aN_10 bN fN lN__11 rN_12 pN twos at_ rdig rpow good txt wri ra_13 rb rfive rleft_14 rright_15 rpart n x16 a1 a2 x17 e_x17) rfl rfl m_358 m_359 m_360 m_361 m_318 (by decide +kernel) ⟨Nat.le_of_ble_eq_true rfl, Nat.le_of_ble_eq_true rfl⟩ (va_recv hK hP (ci := 5) rfl (q0 := 2) rfl) hNB hK hP hD hS rfl hl.1 rfl (Nat.le_of_ble_eq_true rfl) d_Rs_most_36 ⟨Nat.zero_le _, Nat.zero_le _⟩ (fun H locs hP hD hS => ?_)
        have hP : va_P D cls (gM cI cL cC ad X laid gone thr m1 m2 e1 e2 mi1 mi2 na1 na2 fa1 fa2 lets rlen rlaid rgone rthr were none_ beyo x17.2.1 bN fN x17.2.2.1 x17.2.2.2.1 pN twos at_ rdig rpow good txt wri x17.2.2.2.2.1 rb rfive x17.2.2.2.2.2.1 x17.2.2.2.2.2.2 rpart) H := hP
        have hD : va_D A (gM cI cL cC ad X laid gone thr m1 m2 e1 e2 mi1 mi2 na1 na2 fa1 fa2 lets rlen rlaid rgone rthr were none_ beyo x17.2.1 bN fN x17.2.2.1 x17.2.2.2.1 pN twos at_ rdig rpow good txt wri x17.2.2.2.2.1 rb rfive x17.2.2.2.2.2.1 x17.2.2.2.2.2.2 rpart) := hD
        obtain ⟨x18, e_x18, h⟩ := lt_o h
        obtain ⟨x19, e_x19, h⟩ := lt_o h
        have hJ55 : ∀ (x18' : Int64) (x19' : Int64) (ls : Array Slot), x18 = x18' → x19 = x19' → lv_has ls 12 [(0, .ref (ad 2)), (1, .long a1), (3, .int a2), (6, .long x18'), (8, .long x19')] → W p l e ({ frames := 5, cells := 0, slots := 0, locals := 125 } : Room) s m args below meth c H locs 0 0 Q (F0 m 55 ls []) := by
          intro x18' x19' ls q_x18 q_x19 hl
          subst q_x18
          subst q_x19
          refine lv_goto (tgt := 7) hx hb d_Rs_most_55 rfl ?_
          exact ih _ _ _ _ _ _ _ _ ls _ _ (lv_sub hl [0, 1, 2, 3, 4] rfl) hP hD hS h
        refine lv_if_gt (tgt := 49) hx hb d_Rs_most_39 rfl (fun hc => ?_) (fun hc => ?_)
        · have e_x18 := e_x18.trans (if_pos hc)
          have e_x19 := e_x19.trans (if_pos hc)
          refine lv_lload hx hb d_Rs_most_49 (lv_at hl 0 rfl) ?_
          refine lv_lconst hx hb d_Rs_most_51 lc_1 ?_
          refine lv_lsub hx hb d_Rs_most_52 ?_
          refine lv_lstore hx hb d_Rs_most_53 hl (by decide) rfl (fun ls hl => ?_)
          have hl : lv_has ls 12 [(8, .long (x16 - (1 : Int64))), (10, .long x16), (0, .ref (ad 2)), (1, .long a1), (3, .int a2), (6, .long y8)] := hl
          exact hJ55 _ _ ls e_x18 e_x19 (lv_sub hl [2, 3, 4, 5, 0] rfl)
        · have e_x18 := e_x18.trans (if_neg hc)
          have e_x19 := e_x19.trans (if_neg hc)
          refine lv_lload hx hb d_Rs_most_42 (lv_at hl 0 rfl) ?_
          refine lv_lstore hx hb d_Rs_most_44 hl (by decide) rfl (fun ls hl => ?_)
          have hl : lv_has ls 12 [(6, .long x16), (10, .long x16), (0, .ref (ad 2)), (1, .long a1), (3, .int a2), (8, .long y9)] := hl
          refine lv_goto (tgt := 55) hx hb d_Rs_most_46 rfl ?_
          exact hJ55 _ _ ls e_x18 e_x19 (lv_sub hl [2, 3, 4, 0, 5] rfl)
  exact hL7 n _ _ _ _ _ _ _ _ ls _ _ (lv_sub hl [2, 3, 4, 1, 0] rfl) hP hD hS h
-- Rs_above
theorem d_Rs_above_0 : decode b_Rs_above 0 = .ok (.aload_n 0, 1) := by decide +kernel
theorem d_Rs_above_1 : decode b_Rs_above 1 = .ok (.ldc2_w 86, 3) := by decide +kernel
theorem d_Rs_above_4 : decode b_Rs_above 4 = .ok (.lload_n 1, 1) := by decide +kernel
theorem d_Rs_above_5 : decode b_Rs_above 5 = .ok (.iload_n 3, 1) := by decide +kernel
theorem d_Rs_above_6 : decode b_Rs_above 6 = .ok (.invokestatic 88, 3) := by decide +kernel
theorem d_Rs_above_9 : decode b_Rs_above 9 = .ok (.lmul, 1) := by decide +kernel
theorem d_Rs_above_10 : decode b_Rs_above 10 = .ok (.lconst 1, 1) := by decide +kernel
theorem d_Rs_above_11 : decode b_Rs_above 11 = .ok (.ladd, 1) := by decide +kernel
theorem d_Rs_above_12 : decode b_Rs_above 12 = .ok (.lload_n 1, 1) := by decide +kernel
theorem d_Rs_above_13 : decode b_Rs_above 13 = .ok (.iload_n 3, 1) := by decide +kernel
theorem d_Rs_above_14 : decode b_Rs_above 14 = .ok (.invokestatic 92, 3) := by decide +kernel
theorem d_Rs_above_17 : decode b_Rs_above 17 = .ok (.iconst 1, 1) := by decide +kernel
theorem d_Rs_above_18 : decode b_Rs_above 18 = .ok (.isub, 1) := by decide +kernel
theorem d_Rs_above_19 : decode b_Rs_above 19 = .ok (.invokevirtual 96, 3) := by decide +kernel
theorem d_Rs_above_22 : decode b_Rs_above 22 = .ok (.ireturn, 1) := by decide +kernel
def F_Rs_above (n : Nat) (aN : Int32) (bN : Int32) (lN_ : Int32) (rN : Int32) (twos : Int32) (ra : Nat → Int32) (rb : Nat → Int32) (rleft : Nat → Int32) (rright : Nat → Int32) (a1 : Int64) (a2 : Int32) : Option (Int32 × Int32 × Int32 × (Nat → Int32) × (Nat → Int32)) := (F_Rs_compare n aN bN lN_ rN twos ra rb rleft rright (((2 : Int64) * (F_Rs_mantissa a1 a2)) + (1 : Int64)) ((F_Rs_exponent a1 a2) - (1 : Int32))).bind fun x1 => some (x1.1, x1.2.1, x1.2.2.1, x1.2.2.2.1, x1.2.2.2.2)
set_option maxHeartbeats 4000000 in
set_option maxRecDepth 100000 in
theorem c_Rs_above (l : Launch) (D : va_G) (A : Nat → Prop) (cI cL cC : ClassId) (ad : Nat → Nat) (X : va_W) (laid : Int32) (gone : Int32) (thr : Int32) (m1 : Int64) (m2 : Int64) (e1 : Int32) (e2 : Int32) (mi1 : Int32) (mi2 : Int32) (na1 : Int32) (na2 : Int32) (fa1 : Int32) (fa2 : Int32) (lets : Nat → Int32) (rlen : Int32) (rlaid : Int32) (rgone : Int32) (rthr : Int32) (were : Int32) (none_ : Int32) (beyo : Int32) (aN : Int32) (bN : Int32) (fN : Int32) (lN_ : Int32) (rN : Int32) (pN : Int32) (twos : Int32) (at_ : Int32) (rdig : Int32) (rpow : Int32) (good : Int32) (txt : Nat → Int32) (wri : Nat → Int32) (ra : Nat → Int32) (rb : Nat → Int32) (rfive : Nat → Int32) (rleft : Nat → Int32) (rright : Nat → Int32) (rpart : Nat → Int32) (n : Nat) (a1 : Int64) (a2 : Int32) (r : Int32 × Int32 × Int32 × (Nat → Int32) × (Nat → Int32)) (h : F_Rs_above n aN bN lN_ rN twos ra rb rleft rright a1 a2 = some r) : Met l y_Rs_above (.code y_Rs_above b_Rs_above 4 (some .int) :: BIG) ({ frames := 4, cells := 0, slots := 0, locals := 100 } : Room) (va_Pc [.ref (ad 2), .long a1, .int a2] (gPre D A (tysV cI cL cC) (gM cI cL cC ad X laid gone thr m1 m2 e1 e2 mi1 mi2 na1 na2 fa1 fa2 lets rlen rlaid rgone rthr were none_ beyo aN bN fN lN_ rN pN twos at_ rdig rpow good txt wri ra rb rfive rleft rright rpart))) (gQ D A (some (.int r.1)) (gM cI cL cC ad X laid gone thr m1 m2 e1 e2 mi1 mi2 na1 na2 fa1 fa2 lets rlen rlaid rgone rthr were none_ beyo aN bN fN r.2.1 r.2.2.1 pN twos at_ rdig rpow good txt wri ra rb rfive r.2.2.2.1 r.2.2.2.2 rpart)) 0 0 A := by
  refine gOpen_i rfl (Nat.le_of_ble_eq_true rfl) ?_
  intro p e s m args below meth c Q ls hx hb hml hown hts hT hNB hP hK hD hl hret
  have hown : s.vm.findClass R_Rs = some m.cls := hown
  have hS : va_S A s.heap s.heap [] := va_S.rf
  have hl : lv_has ls 4 [(0, .ref (ad 2)), (1, .long a1), (3, .int a2)] := hl
  have h : ((F_Rs_compare n aN bN lN_ rN twos ra rb rleft rright (((2 : Int64) * (F_Rs_mantissa a1 a2)) + (1 : Int64)) ((F_Rs_exponent a1 a2) - (1 : Int32))).bind fun x1 => some (x1.1, x1.2.1, x1.2.2.1, x1.2.2.2.1, x1.2.2.2.2)) = some r := h
  refine lv_aload_n hx hb d_Rs_above_0 rfl (lv_at hl 0 rfl) ?_
  refine lv_ldc2 hx hb hown (hT _ m_362) d_Rs_above_1 ?_
  refine lv_lload_n hx hb d_Rs_above_4 rfl (lv_at hl 1 rfl) ?_
  refine lv_iload_n hx hb d_Rs_above_5 rfl (lv_at hl 2 rfl) ?_
  refine q_S (As := [.long a1, .int a2]) (rest := [.long (2 : Int64), .ref (ad 2)]) (n := 2) hx hb hml hown hts (c_Rs_mantissa l a1 a2) rfl rfl m_363 m_364 m_365 m_318 (by decide +kernel) ⟨Nat.le_of_ble_eq_true rfl, Nat.le_of_ble_eq_true rfl⟩ (p0_bl) (fun U hU hW => p0_mv hU hW hNB) rfl hl.1 rfl (Nat.le_of_ble_eq_true rfl) d_Rs_above_6 ⟨Nat.zero_le _, Nat.zero_le _⟩ ?_
  refine lv_lmul hx hb d_Rs_above_9 ?_
  refine lv_lconst hx hb d_Rs_above_10 lc_1 ?_
  refine lv_ladd hx hb d_Rs_above_11 ?_
  refine lv_lload_n hx hb d_Rs_above_12 rfl (lv_at hl 1 rfl) ?_
  refine lv_iload_n hx hb d_Rs_above_13 rfl (lv_at hl 2 rfl) ?_
  refine q_S (As := [.long a1, .int a2]) (rest := [.long (((2 : Int64) * (F_Rs_mantissa a1 a2)) + (1 : Int64)), .ref (ad 2)]) (n := 2) hx hb hml hown hts (c_Rs_exponent l a1 a2) rfl rfl m_366 m_367 m_368 m_318 (by decide +kernel) ⟨Nat.le_of_ble_eq_true rfl, Nat.le_of_ble_eq_true rfl⟩ (p0_bl) (fun U hU hW => p0_mv hU hW hNB) rfl hl.1 rfl (Nat.le_of_ble_eq_true rfl) d_Rs_above_14 ⟨Nat.zero_le _, Nat.zero_le _⟩ ?_
  refine lv_iconst hx hb d_Rs_above_17 ic_1 ?_
  refine lv_isub hx hb d_Rs_above_18 ?_
  obtain ⟨x1, e_x1, h⟩ := bd_o h
  refine q_GV (D := D) (A := A) (C := R_Rs) (b := ad 2) (As := [.long (((2 : Int64) * (F_Rs_mantissa a1 a2)) + (1 : Int64)), .int ((F_Rs_exponent a1 a2) - (1 : Int32))]) (rest := []) (n := 2) hx hb hml hown hts (c_Rs_compare l D A cI cL cC ad X laid gone thr m1 m2 e1 e2 mi1 mi2 na1 na2 fa1 fa2 lets rlen rlaid rgone rthr were none_ beyo aN bN fN lN_ rN pN twos at_ rdig rpow good txt wri ra rb rfive rleft rright rpart n (((2 : Int64) * (F_Rs_mantissa a1 a2)) + (1 : Int64)) ((F_Rs_exponent a1 a2) - (1 : Int32)) x1 e_x1) rfl rfl m_350 m_351 m_352 m_353 m_318 (by decide +kernel) ⟨Nat.le_of_ble_eq_true rfl, Nat.le_of_ble_eq_true rfl⟩ (va_recv hK hP (ci := 5) rfl (q0 := 2) rfl) hNB hK hP hD hS rfl hl.1 rfl (Nat.le_of_ble_eq_true rfl) d_Rs_above_19 ⟨Nat.zero_le _, Nat.zero_le _⟩ (fun H locs hP hD hS => ?_)
  have hP : va_P D cls (gM cI cL cC ad X laid gone thr m1 m2 e1 e2 mi1 mi2 na1 na2 fa1 fa2 lets rlen rlaid rgone rthr were none_ beyo aN bN fN x1.2.1 x1.2.2.1 pN twos at_ rdig rpow good txt wri ra rb rfive x1.2.2.2.1 x1.2.2.2.2 rpart) H := hP
  have hD : va_D A (gM cI cL cC ad X laid gone thr m1 m2 e1 e2 mi1 mi2 na1 na2 fa1 fa2 lets rlen rlaid rgone rthr were none_ beyo aN bN fN x1.2.1 x1.2.2.1 pN twos at_ rdig rpow good txt wri ra rb rfive x1.2.2.2.1 x1.2.2.2.2 rpart) := hD
  obtain rfl := Option.some.inj h
  exact hret 22 ls _ _ _ rfl hP hD hS d_Rs_above_22
-- Rs_isRead
theorem d_Rs_isRead_0 : decode b_Rs_isRead 0 = .ok (.aload_n 0, 1) := by decide +kernel
theorem d_Rs_isRead_1 : decode b_Rs_isRead 1 = .ok (.aload_n 0, 1) := by decide +kernel
theorem d_Rs_isRead_2 : decode b_Rs_isRead 2 = .ok (.aload_n 0, 1) := by decide +kernel
theorem d_Rs_isRead_3 : decode b_Rs_isRead 3 = .ok (.getfield 22, 3) := by decide +kernel
theorem d_Rs_isRead_6 : decode b_Rs_isRead 6 = .ok (.aload_n 0, 1) := by decide +kernel
theorem d_Rs_isRead_7 : decode b_Rs_isRead 7 = .ok (.getfield 171, 3) := by decide +kernel
theorem d_Rs_isRead_10 : decode b_Rs_isRead 10 = .ok (.lload_n 1, 1) := by decide +kernel
theorem d_Rs_isRead_11 : decode b_Rs_isRead 11 = .ok (.aload_n 0, 1) := by decide +kernel
theorem d_Rs_isRead_12 : decode b_Rs_isRead 12 = .ok (.getfield 16, 3) := by decide +kernel
theorem d_Rs_isRead_15 : decode b_Rs_isRead 15 = .ok (.invokevirtual 75, 3) := by decide +kernel
theorem d_Rs_isRead_18 : decode b_Rs_isRead 18 = .ok (.putfield 62, 3) := by decide +kernel
theorem d_Rs_isRead_21 : decode b_Rs_isRead 21 = .ok (.aload_n 0, 1) := by decide +kernel
theorem d_Rs_isRead_22 : decode b_Rs_isRead 22 = .ok (.lload_n 3, 1) := by decide +kernel
theorem d_Rs_isRead_23 : decode b_Rs_isRead 23 = .ok (.lconst 1, 1) := by decide +kernel
theorem d_Rs_isRead_24 : decode b_Rs_isRead 24 = .ok (.lsub, 1) := by decide +kernel
theorem d_Rs_isRead_25 : decode b_Rs_isRead 25 = .ok (.iload 5, 2) := by decide +kernel
theorem d_Rs_isRead_27 : decode b_Rs_isRead 27 = .ok (.invokevirtual 104, 3) := by decide +kernel
theorem d_Rs_isRead_30 : decode b_Rs_isRead 30 = .ok (.istore 6, 2) := by decide +kernel
theorem d_Rs_isRead_32 : decode b_Rs_isRead 32 = .ok (.aload_n 0, 1) := by decide +kernel
theorem d_Rs_isRead_33 : decode b_Rs_isRead 33 = .ok (.lload_n 3, 1) := by decide +kernel
theorem d_Rs_isRead_34 : decode b_Rs_isRead 34 = .ok (.iload 5, 2) := by decide +kernel
theorem d_Rs_isRead_36 : decode b_Rs_isRead 36 = .ok (.invokevirtual 104, 3) := by decide +kernel
theorem d_Rs_isRead_39 : decode b_Rs_isRead 39 = .ok (.istore 7, 2) := by decide +kernel
theorem d_Rs_isRead_41 : decode b_Rs_isRead 41 = .ok (.lload_n 3, 1) := by decide +kernel
theorem d_Rs_isRead_42 : decode b_Rs_isRead 42 = .ok (.lconst 1, 1) := by decide +kernel
theorem d_Rs_isRead_43 : decode b_Rs_isRead 43 = .ok (.land, 1) := by decide +kernel
theorem d_Rs_isRead_44 : decode b_Rs_isRead 44 = .ok (.lconst 0, 1) := by decide +kernel
theorem d_Rs_isRead_45 : decode b_Rs_isRead 45 = .ok (.lcmp, 1) := by decide +kernel
theorem d_Rs_isRead_46 : decode b_Rs_isRead 46 = .ok (.ifCond .ne 7, 3) := by decide +kernel
theorem d_Rs_isRead_49 : decode b_Rs_isRead 49 = .ok (.iconst 1, 1) := by decide +kernel
theorem d_Rs_isRead_50 : decode b_Rs_isRead 50 = .ok (.goto 4, 3) := by decide +kernel
theorem d_Rs_isRead_53 : decode b_Rs_isRead 53 = .ok (.iconst 0, 1) := by decide +kernel
theorem d_Rs_isRead_54 : decode b_Rs_isRead 54 = .ok (.istore 8, 2) := by decide +kernel
theorem d_Rs_isRead_56 : decode b_Rs_isRead 56 = .ok (.iload 6, 2) := by decide +kernel
theorem d_Rs_isRead_58 : decode b_Rs_isRead 58 = .ok (.ifCond .gt 13, 3) := by decide +kernel
theorem d_Rs_isRead_61 : decode b_Rs_isRead 61 = .ok (.iload 6, 2) := by decide +kernel
theorem d_Rs_isRead_63 : decode b_Rs_isRead 63 = .ok (.ifCond .ne 27, 3) := by decide +kernel
theorem d_Rs_isRead_66 : decode b_Rs_isRead 66 = .ok (.iload 8, 2) := by decide +kernel
theorem d_Rs_isRead_68 : decode b_Rs_isRead 68 = .ok (.ifCond .eq 22, 3) := by decide +kernel
theorem d_Rs_isRead_71 : decode b_Rs_isRead 71 = .ok (.iload 7, 2) := by decide +kernel
theorem d_Rs_isRead_73 : decode b_Rs_isRead 73 = .ok (.ifCond .lt 13, 3) := by decide +kernel
theorem d_Rs_isRead_76 : decode b_Rs_isRead 76 = .ok (.iload 7, 2) := by decide +kernel
theorem d_Rs_isRead_78 : decode b_Rs_isRead 78 = .ok (.ifCond .ne 12, 3) := by decide +kernel
theorem d_Rs_isRead_81 : decode b_Rs_isRead 81 = .ok (.iload 8, 2) := by decide +kernel
theorem d_Rs_isRead_83 : decode b_Rs_isRead 83 = .ok (.ifCond .eq 7, 3) := by decide +kernel
theorem d_Rs_isRead_86 : decode b_Rs_isRead 86 = .ok (.iconst 1, 1) := by decide +kernel
theorem d_Rs_isRead_87 : decode b_Rs_isRead 87 = .ok (.goto 4, 3) := by decide +kernel
theorem d_Rs_isRead_90 : decode b_Rs_isRead 90 = .ok (.iconst 0, 1) := by decide +kernel
theorem d_Rs_isRead_91 : decode b_Rs_isRead 91 = .ok (.ireturn, 1) := by decide +kernel
def F_Rs_isRead (n : Nat) (aN : Int32) (bN : Int32) (fN : Int32) (lN_ : Int32) (rN : Int32) (twos : Int32) (ra : Nat → Int32) (rb : Nat → Int32) (rfive : Nat → Int32) (rleft : Nat → Int32) (rright : Nat → Int32) (a1 : Int64) (a2 : Int64) (a3 : Int32) : Option (Int32 × Int32 × Int32 × Int32 × (Nat → Int32) × (Nat → Int32) × (Nat → Int32)) := (F_Rs_times n rfive ra fN a1).bind fun x1 => (F_Rs_above n x1.1 bN lN_ rN twos x1.2 rb rleft rright (a2 - (1 : Int64)) a3).bind fun x2 => (F_Rs_above n x1.1 bN x2.2.1 x2.2.2.1 twos x1.2 rb x2.2.2.2.1 x2.2.2.2.2 a2 a3).bind fun x3 => lt_ (if ¬ (a2 &&& (1 : Int64)) = (0 : Int64) then (0 : Int32) else (1 : Int32)) fun x4 => lt_ (if 0 < x2.1 then if x3.1 < 0 then (1 : Int32) else if ¬ x3.1 = 0 then (0 : Int32) else if x4 = 0 then (0 : Int32) else (1 : Int32) else if ¬ x2.1 = 0 then (0 : Int32) else if x4 = 0 then (0 : Int32) else if x3.1 < 0 then (1 : Int32) else if ¬ x3.1 = 0 then (0 : Int32) else if x4 = 0 then (0 : Int32) else (1 : Int32)) fun x5 => some (x5, x1.1, x3.2.1, x3.2.2.1, x1.2, x3.2.2.2.1, x3.2.2.2.2)
set_option maxHeartbeats 4000000 in
set_option maxRecDepth 100000 in
theorem c_Rs_isRead (l : Launch) (D : va_G) (A : Nat → Prop) (cI cL cC : ClassId) (ad : Nat → Nat) (X : va_W) (laid : Int32) (gone : Int32) (thr : Int32) (m1 : Int64) (m2 : Int64) (e1 : Int32) (e2 : Int32) (mi1 : Int32) (mi2 : Int32) (na1 : Int32) (na2 : Int32) (fa1 : Int32) (fa2 : Int32) (lets : Nat → Int32) (rlen : Int32) (rlaid : Int32) (rgone : Int32) (rthr : Int32) (were : Int32) (none_ : Int32) (beyo : Int32) (aN : Int32) (bN : Int32) (fN : Int32) (lN_ : Int32) (rN : Int32) (pN : Int32) (twos : Int32) (at_ : Int32) (rdig : Int32) (rpow : Int32) (good : Int32) (txt : Nat → Int32) (wri : Nat → Int32) (ra : Nat → Int32) (rb : Nat → Int32) (rfive : Nat → Int32) (rleft : Nat → Int32) (rright : Nat → Int32) (rpart : Nat → Int32) (n : Nat) (a1 : Int64) (a2 : Int64) (a3 : Int32) (r : Int32 × Int32 × Int32 × Int32 × (Nat → Int32) × (Nat → Int32) × (Nat → Int32)) (h : F_Rs_isRead n aN bN fN lN_ rN twos ra rb rfive rleft rright a1 a2 a3 = some r) : Met l y_Rs_isRead (.code y_Rs_isRead b_Rs_isRead 9 (some .boolean) :: BIG) ({ frames := 5, cells := 0, slots := 0, locals := 123 } : Room) (va_Pc [.ref (ad 2), .long a1, .long a2, .int a3] (gPre D A (tysV cI cL cC) (gM cI cL cC ad X laid gone thr m1 m2 e1 e2 mi1 mi2 na1 na2 fa1 fa2 lets rlen rlaid rgone rthr were none_ beyo aN bN fN lN_ rN pN twos at_ rdig rpow good txt wri ra rb rfive rleft rright rpart))) (gQ D A (some (.int r.1)) (gM cI cL cC ad X laid gone thr m1 m2 e1 e2 mi1 mi2 na1 na2 fa1 fa2 lets rlen rlaid rgone rthr were none_ beyo r.2.1 bN fN r.2.2.1 r.2.2.2.1 pN twos at_ rdig rpow good txt wri r.2.2.2.2.1 rb rfive r.2.2.2.2.2.1 r.2.2.2.2.2.2 rpart)) 0 0 A := by
  refine gOpen_z rfl (Nat.le_of_ble_eq_true rfl) ?_
  intro p e s m args below meth c Q ls hx hb hml hown hts hT hNB hP hK hD hl hret
  have hown : s.vm.findClass R_Rs = some m.cls := hown
  have hS : va_S A s.heap s.heap [] := va_S.rf
  have hl : lv_has ls 9 [(0, .ref (ad 2)), (1, .long a1), (3, .long a2), (5, .int a3)] := hl
  have h : ((F_Rs_times n rfive ra fN a1).bind fun x1 => (F_Rs_above n x1.1 bN lN_ rN twos x1.2 rb rleft rright (a2 - (1 : Int64)) a3).bind fun x2 => (F_Rs_above n x1.1 bN x2.2.1 x2.2.2.1 twos x1.2 rb x2.2.2.2.1 x2.2.2.2.2 a2 a3).bind fun x3 => lt_ (if ¬ (a2 &&& (1 : Int64)) = (0 : Int64) then (0 : Int32) else (1 : Int32)) fun x4 => lt_ (if 0 < x2.1 then if x3.1 < 0 then (1 : Int32) else if ¬ x3.1 = 0 then (0 : Int32) else if x4 = 0 then (0 : Int32) else (1 : Int32) else if ¬ x2.1 = 0 then (0 : Int32) else if x4 = 0 then (0 : Int32) else if x3.1 < 0 then (1 : Int32) else if ¬ x3.1 = 0 then (0 : Int32) else if x4 = 0 then (0 : Int32) else (1 : Int32)) fun x5 => some (x5, x1.1, x3.2.1, x3.2.2.1, x1.2, x3.2.2.2.1, x3.2.2.2.2)) = some r := h
  refine lv_aload_n hx hb d_Rs_isRead_0 rfl (lv_at hl 0 rfl) ?_
  refine lv_aload_n hx hb d_Rs_isRead_1 rfl (lv_at hl 0 rfl) ?_
  refine lv_aload_n hx hb d_Rs_isRead_2 rfl (lv_at hl 0 rfl) ?_
  refine va_get (D := D) (ci := 5) (C := R_Rs) (T := T_Rs) (N := 26) hx hb hT in_Rs hown hK hP 2 rfl rfl 11 (by decide) (hT _ m_326) (fun _ h9 => h9) rfl d_Rs_isRead_3 ?_
  refine lv_aload_n hx hb d_Rs_isRead_6 rfl (lv_at hl 0 rfl) ?_
  refine va_get (D := D) (ci := 5) (C := R_Rs) (T := T_Rs) (N := 26) hx hb hT in_Rs hown hK hP 2 rfl rfl 17 (by decide) (hT _ m_330) (fun _ h9 => h9) rfl d_Rs_isRead_7 ?_
  refine lv_lload_n hx hb d_Rs_isRead_10 rfl (lv_at hl 1 rfl) ?_
  refine lv_aload_n hx hb d_Rs_isRead_11 rfl (lv_at hl 0 rfl) ?_
  refine va_get (D := D) (ci := 5) (C := R_Rs) (T := T_Rs) (N := 26) hx hb hT in_Rs hown hK hP 2 rfl rfl 9 (by decide) (hT _ m_349) (fun _ h9 => h9) rfl d_Rs_isRead_12 ?_
  obtain ⟨x1, e_x1, h⟩ := bd_o h
  refine q_GV (D := D) (A := A) (C := R_Rs) (b := ad 2) (As := [.ref (ad 7), .int fN, .long a1, .ref (ad 5)]) (rest := [.ref (ad 2)]) (n := 4) hx hb hml hown hts (c_Rs_times l D A cI cL cC (gM cI cL cC ad X laid gone thr m1 m2 e1 e2 mi1 mi2 na1 na2 fa1 fa2 lets rlen rlaid rgone rthr were none_ beyo aN bN fN lN_ rN pN twos at_ rdig rpow good txt wri ra rb rfive rleft rright rpart) 7 (ad 7) rfive (hz1 := rfl) 5 (ad 5) ra (hz4 := rfl) (hne := by decide) (ad 2) n fN a1 x1 e_x1) rfl rfl m_339 m_340 m_341 m_342 m_318 (by decide +kernel) ⟨Nat.le_of_ble_eq_true rfl, Nat.le_of_ble_eq_true rfl⟩ (va_recv hK hP (ci := 5) rfl (q0 := 2) rfl) hNB hK hP hD hS rfl hl.1 rfl (Nat.le_of_ble_eq_true rfl) d_Rs_isRead_15 ⟨Nat.zero_le _, Nat.zero_le _⟩ (fun H locs hP hD hS => ?_)
  have hP : va_P D cls (gM cI cL cC ad X laid gone thr m1 m2 e1 e2 mi1 mi2 na1 na2 fa1 fa2 lets rlen rlaid rgone rthr were none_ beyo aN bN fN lN_ rN pN twos at_ rdig rpow good txt wri x1.2 rb rfive rleft rright rpart) H := hP
  have hD : va_D A (gM cI cL cC ad X laid gone thr m1 m2 e1 e2 mi1 mi2 na1 na2 fa1 fa2 lets rlen rlaid rgone rthr were none_ beyo aN bN fN lN_ rN pN twos at_ rdig rpow good txt wri x1.2 rb rfive rleft rright rpart) := hD
  refine va_put (D := D) (ci := 5) (C := R_Rs) (T := T_Rs) (N := 26) hx hb hT in_Rs ty_Rs tyok_Rs nm_Rs hown hK hP hD hS 2 rfl rfl 15 (by decide) (hT _ m_348) (fun _ h9 => h9) rfl (ty := .int) (by decide +kernel) rfl rfl (by decide : 15 < 26) d_Rs_isRead_18 (fun H locs hP hD hS => ?_)
  have hP : va_P D cls (gM cI cL cC ad X laid gone thr m1 m2 e1 e2 mi1 mi2 na1 na2 fa1 fa2 lets rlen rlaid rgone rthr were none_ beyo x1.1 bN fN lN_ rN pN twos at_ rdig rpow good txt wri x1.2 rb rfive rleft rright rpart) H := hP
  have hD : va_D A (gM cI cL cC ad X laid gone thr m1 m2 e1 e2 mi1 mi2 na1 na2 fa1 fa2 lets rlen rlaid rgone rthr were none_ beyo x1.1 bN fN lN_ rN pN twos at_ rdig rpow good txt wri x1.2 rb rfive rleft rright rpart) := hD
  refine lv_aload_n hx hb d_Rs_isRead_21 rfl (lv_at hl 0 rfl) ?_
  refine lv_lload_n hx hb d_Rs_isRead_22 rfl (lv_at hl 2 rfl) ?_
  refine lv_lconst hx hb d_Rs_isRead_23 lc_1 ?_
  refine lv_lsub hx hb d_Rs_isRead_24 ?_
  refine lv_iload hx hb d_Rs_isRead_25 (lv_at hl 3 rfl) ?_
  obtain ⟨x2, e_x2, h⟩ := bd_o h
  refine q_GV (D := D) (A := A) (C := R_Rs) (b := ad 2) (As := [.long (a2 - (1 : Int64)), .int a3]) (rest := []) (n := 2) hx hb hml hown hts (c_Rs_above l D A cI cL cC ad X laid gone thr m1 m2 e1 e2 mi1 mi2 na1 na2 fa1 fa2 lets rlen rlaid rgone rthr were none_ beyo x1.1 bN fN lN_ rN pN twos at_ rdig rpow good txt wri x1.2 rb rfive rleft rright rpart n (a2 - (1 : Int64)) a3 x2 e_x2) rfl rfl m_369 m_370 m_371 m_372 m_318 (by decide +kernel) ⟨Nat.le_of_ble_eq_true rfl, Nat.le_of_ble_eq_true rfl⟩ (va_recv hK hP (ci := 5) rfl (q0 := 2) rfl) hNB hK hP hD hS rfl hl.1 rfl (Nat.le_of_ble_eq_true rfl) d_Rs_isRead_27 ⟨Nat.zero_le _, Nat.zero_le _⟩ (fun H locs hP hD hS => ?_)
  have hP : va_P D cls (gM cI cL cC ad X laid gone thr m1 m2 e1 e2 mi1 mi2 na1 na2 fa1 fa2 lets rlen rlaid rgone rthr were none_ beyo x1.1 bN fN x2.2.1 x2.2.2.1 pN twos at_ rdig rpow good txt wri x1.2 rb rfive x2.2.2.2.1 x2.2.2.2.2 rpart) H := hP
  have hD : va_D A (gM cI cL cC ad X laid gone thr m1 m2 e1 e2 mi1 mi2 na1 na2 fa1 fa2 lets rlen rlaid rgone rthr were none_ beyo x1.1 bN fN x2.2.1 x2.2.2.1 pN twos at_ rdig rpow good txt wri x1.2 rb rfive x2.2.2.2.1 x2.2.2.2.2 rpart) := hD
  refine lv_istore hx hb d_Rs_isRead_30 hl (by decide) rfl (fun ls hl => ?_)
  have hl : lv_has ls 9 [(6, .int x2.1), (0, .ref (ad 2)), (1, .long a1), (3, .long a2), (5, .int a3)] := hl
  refine lv_aload_n hx hb d_Rs_isRead_32 rfl (lv_at hl 1 rfl) ?_
  refine lv_lload_n hx hb d_Rs_isRead_33 rfl (lv_at hl 3 rfl) ?_
  refine lv_iload hx hb d_Rs_isRead_34 (lv_at hl 4 rfl) ?_
  obtain ⟨x3, e_x3, h⟩ := bd_o h
  refine q_GV (D := D) (A := A) (C := R_Rs) (b := ad 2) (As := [.long a2, .int a3]) (rest := []) (n := 2) hx hb hml hown hts (c_Rs_above l D A cI cL cC ad X laid gone thr m1 m2 e1 e2 mi1 mi2 na1 na2 fa1 fa2 lets rlen rlaid rgone rthr were none_ beyo x1.1 bN fN x2.2.1 x2.2.2.1 pN twos at_ rdig rpow good txt wri x1.2 rb rfive x2.2.2.2.1 x2.2.2.2.2 rpart n a2 a3 x3 e_x3) rfl rfl m_369 m_370 m_371 m_372 m_318 (by decide +kernel) ⟨Nat.le_of_ble_eq_true rfl, Nat.le_of_ble_eq_true rfl⟩ (va_recv hK hP (ci := 5) rfl (q0 := 2) rfl) hNB hK hP hD hS rfl hl.1 rfl (Nat.le_of_ble_eq_true rfl) d_Rs_isRead_36 ⟨Nat.zero_le _, Nat.zero_le _⟩ (fun H locs hP hD hS => ?_)
  have hP : va_P D cls (gM cI cL cC ad X laid gone thr m1 m2 e1 e2 mi1 mi2 na1 na2 fa1 fa2 lets rlen rlaid rgone rthr were none_ beyo x1.1 bN fN x3.2.1 x3.2.2.1 pN twos at_ rdig rpow good txt wri x1.2 rb rfive x3.2.2.2.1 x3.2.2.2.2 rpart) H := hP
  have hD : va_D A (gM cI cL cC ad X laid gone thr m1 m2 e1 e2 mi1 mi2 na1 na2 fa1 fa2 lets rlen rlaid rgone rthr were none_ beyo x1.1 bN fN x3.2.1 x3.2.2.1 pN twos at_ rdig rpow good txt wri x1.2 rb rfive x3.2.2.2.1 x3.2.2.2.2 rpart) := hD
  refine lv_istore hx hb d_Rs_isRead_39 hl (by decide) rfl (fun ls hl => ?_)
  have hl : lv_has ls 9 [(7, .int x3.1), (6, .int x2.1), (0, .ref (ad 2)), (1, .long a1), (3, .long a2), (5, .int a3)] := hl
  refine lv_lload_n hx hb d_Rs_isRead_41 rfl (lv_at hl 4 rfl) ?_
  refine lv_lconst hx hb d_Rs_isRead_42 lc_1 ?_
  refine lv_land hx hb d_Rs_isRead_43 ?_
  refine lv_lconst hx hb d_Rs_isRead_44 lc_0 ?_
  refine W.lcmp hx hb d_Rs_isRead_45 ?_
  obtain ⟨x4, e_x4, h⟩ := lt_o h
  have hJ54 : ∀ (x4' : Int32) (ls : Array Slot), x4 = x4' → lv_has ls 9 [(6, .int x2.1), (7, .int x3.1)] → W p l e ({ frames := 5, cells := 0, slots := 0, locals := 123 } : Room) s m args below meth c H locs 0 0 Q (F0 m 54 ls [.int x4']) := by
    intro x4' ls q_x4 hl
    subst q_x4
    refine lv_istore hx hb d_Rs_isRead_54 hl (by decide) rfl (fun ls hl => ?_)
    have hl : lv_has ls 9 [(8, .int x4), (6, .int x2.1), (7, .int x3.1)] := hl
    refine lv_iload hx hb d_Rs_isRead_56 (lv_at hl 1 rfl) ?_
    obtain ⟨x5, e_x5, h⟩ := lt_o h
    have hJ91 : ∀ (x5' : Int32) (ls : Array Slot), x5 = x5' → lv_has ls 9 [] → W p l e ({ frames := 5, cells := 0, slots := 0, locals := 123 } : Room) s m args below meth c H locs 0 0 Q (F0 m 91 ls [.int x5']) := by
      intro x5' ls q_x5 hl
      subst q_x5
      obtain rfl := Option.some.inj h
      exact hret 91 ls _ _ _ rfl hP hD hS d_Rs_isRead_91 (nb_1 ((by rw [e_x5]; exact ite01 (ite01 (Or.inr rfl) (ite01 (Or.inl rfl) (ite01 (Or.inl rfl) (Or.inr rfl)))) (ite01 (Or.inl rfl) (ite01 (Or.inl rfl) (ite01 (Or.inr rfl) (ite01 (Or.inl rfl) (ite01 (Or.inl rfl) (Or.inr rfl)))))))))
    refine lv_if_gt (tgt := 71) hx hb d_Rs_isRead_58 rfl (fun hc => ?_) (fun hc => ?_)
    · have e_x5 := e_x5.trans (if_pos hc)
      refine lv_iload hx hb d_Rs_isRead_71 (lv_at hl 2 rfl) ?_
      refine lv_if_lt (tgt := 86) hx hb d_Rs_isRead_73 rfl (fun hc => ?_) (fun hc => ?_)
      · have e_x5 := e_x5.trans (if_pos hc)
        refine lv_iconst hx hb d_Rs_isRead_86 ic_1 ?_
        refine lv_goto (tgt := 91) hx hb d_Rs_isRead_87 rfl ?_
        exact hJ91 _ ls e_x5 (lv_sub hl [] rfl)
      · have e_x5 := e_x5.trans (if_neg hc)
        refine lv_iload hx hb d_Rs_isRead_76 (lv_at hl 2 rfl) ?_
        refine lv_if_ne (tgt := 90) hx hb d_Rs_isRead_78 rfl (fun hc => ?_) (fun hc => ?_)
        · have e_x5 := e_x5.trans (if_pos hc)
          refine lv_iconst hx hb d_Rs_isRead_90 ic_0 ?_
          exact hJ91 _ ls e_x5 (lv_sub hl [] rfl)
        · have hc := not_not_intro hc
          have e_x5 := e_x5.trans (if_neg hc)
          refine lv_iload hx hb d_Rs_isRead_81 (lv_at hl 0 rfl) ?_
          refine lv_if_eq (tgt := 90) hx hb d_Rs_isRead_83 rfl (fun hc => ?_) (fun hc => ?_)
          · have e_x5 := e_x5.trans (if_pos hc)
            refine lv_iconst hx hb d_Rs_isRead_90 ic_0 ?_
            exact hJ91 _ ls e_x5 (lv_sub hl [] rfl)
          · have e_x5 := e_x5.trans (if_neg hc)
            refine lv_iconst hx hb d_Rs_isRead_86 ic_1 ?_
            refine lv_goto (tgt := 91) hx hb d_Rs_isRead_87 rfl ?_
            exact hJ91 _ ls e_x5 (lv_sub hl [] rfl)
    · have e_x5 := e_x5.trans (if_neg hc)
      refine lv_iload hx hb d_Rs_isRead_61 (lv_at hl 1 rfl) ?_
      refine lv_if_ne (tgt := 90) hx hb d_Rs_isRead_63 rfl (fun hc => ?_) (fun hc => ?_)
      · have e_x5 := e_x5.trans (if_pos hc)
        refine lv_iconst hx hb d_Rs_isRead_90 ic_0 ?_
        exact hJ91 _ ls e_x5 (lv_sub hl [] rfl)
      · have hc := not_not_intro hc
        have e_x5 := e_x5.trans (if_neg hc)
        refine lv_iload hx hb d_Rs_isRead_66 (lv_at hl 0 rfl) ?_
        refine lv_if_eq (tgt := 90) hx hb d_Rs_isRead_68 rfl (fun hc => ?_) (fun hc => ?_)
        · have e_x5 := e_x5.trans (if_pos hc)
          refine lv_iconst hx hb d_Rs_isRead_90 ic_0 ?_
          exact hJ91 _ ls e_x5 (lv_sub hl [] rfl)
        · have e_x5 := e_x5.trans (if_neg hc)
          refine lv_iload hx hb d_Rs_isRead_71 (lv_at hl 2 rfl) ?_
          refine lv_if_lt (tgt := 86) hx hb d_Rs_isRead_73 rfl (fun hc => ?_) (fun hc => ?_)
          · have e_x5 := e_x5.trans (if_pos hc)
            refine lv_iconst hx hb d_Rs_isRead_86 ic_1 ?_
            refine lv_goto (tgt := 91) hx hb d_Rs_isRead_87 rfl ?_
            exact hJ91 _ ls e_x5 (lv_sub hl [] rfl)
          · have e_x5 := e_x5.trans (if_neg hc)
            refine lv_iload hx hb d_Rs_isRead_76 (lv_at hl 2 rfl) ?_
            refine lv_if_ne (tgt := 90) hx hb d_Rs_isRead_78 rfl (fun hc => ?_) (fun hc => ?_)
            · have e_x5 := e_x5.trans (if_pos hc)
              refine lv_iconst hx hb d_Rs_isRead_90 ic_0 ?_
              exact hJ91 _ ls e_x5 (lv_sub hl [] rfl)
            · have hc := not_not_intro hc
              have e_x5 := e_x5.trans (if_neg hc)
              refine lv_iload hx hb d_Rs_isRead_81 (lv_at hl 0 rfl) ?_
              refine lv_if_eq (tgt := 90) hx hb d_Rs_isRead_83 rfl (fun hc => ?_) (fun hc => ?_)
              · have e_x5 := e_x5.trans (if_pos hc)
                refine lv_iconst hx hb d_Rs_isRead_90 ic_0 ?_
                exact hJ91 _ ls e_x5 (lv_sub hl [] rfl)
              · have e_x5 := e_x5.trans (if_neg hc)
                refine lv_iconst hx hb d_Rs_isRead_86 ic_1 ?_
                refine lv_goto (tgt := 91) hx hb d_Rs_isRead_87 rfl ?_
                exact hJ91 _ ls e_x5 (lv_sub hl [] rfl)
  refine lv_if_ne (tgt := 53) hx hb d_Rs_isRead_46 rfl (fun hc => ?_) (fun hc => ?_)
  · have hc := mt (lg_cmp_eq _ _).mpr hc
    have e_x4 := e_x4.trans (if_pos hc)
    refine lv_iconst hx hb d_Rs_isRead_53 ic_0 ?_
    exact hJ54 _ ls e_x4 (lv_sub hl [1, 0] rfl)
  · have hc := not_not_intro ((lg_cmp_eq _ _).mp hc)
    have e_x4 := e_x4.trans (if_neg hc)
    refine lv_iconst hx hb d_Rs_isRead_49 ic_1 ?_
    refine lv_goto (tgt := 54) hx hb d_Rs_isRead_50 rfl ?_
    exact hJ54 _ ls e_x4 (lv_sub hl [1, 0] rfl)
-- Rs_shortest
theorem d_Rs_shortest_0 : decode b_Rs_shortest 0 = .ok (.lload_n 1, 1) := by decide +kernel
theorem d_Rs_shortest_1 : decode b_Rs_shortest 1 = .ok (.iload_n 3, 1) := by decide +kernel
theorem d_Rs_shortest_2 : decode b_Rs_shortest 2 = .ok (.invokestatic 88, 3) := by decide +kernel
theorem d_Rs_shortest_5 : decode b_Rs_shortest 5 = .ok (.lstore 4, 2) := by decide +kernel
theorem d_Rs_shortest_7 : decode b_Rs_shortest 7 = .ok (.ldc2_w 182, 3) := by decide +kernel
theorem d_Rs_shortest_10 : decode b_Rs_shortest 10 = .ok (.lstore 6, 2) := by decide +kernel
theorem d_Rs_shortest_12 : decode b_Rs_shortest 12 = .ok (.lload_n 1, 1) := by decide +kernel
theorem d_Rs_shortest_13 : decode b_Rs_shortest 13 = .ok (.iload_n 3, 1) := by decide +kernel
theorem d_Rs_shortest_14 : decode b_Rs_shortest 14 = .ok (.invokestatic 92, 3) := by decide +kernel
theorem d_Rs_shortest_17 : decode b_Rs_shortest 17 = .ok (.istore 8, 2) := by decide +kernel
theorem d_Rs_shortest_19 : decode b_Rs_shortest 19 = .ok (.aload_n 0, 1) := by decide +kernel
theorem d_Rs_shortest_20 : decode b_Rs_shortest 20 = .ok (.lload 4, 2) := by decide +kernel
theorem d_Rs_shortest_22 : decode b_Rs_shortest 22 = .ok (.iload 8, 2) := by decide +kernel
theorem d_Rs_shortest_24 : decode b_Rs_shortest 24 = .ok (.invokevirtual 184, 3) := by decide +kernel
theorem d_Rs_shortest_27 : decode b_Rs_shortest 27 = .ok (.istore 9, 2) := by decide +kernel
theorem d_Rs_shortest_29 : decode b_Rs_shortest 29 = .ok (.iconst 2, 1) := by decide +kernel
theorem d_Rs_shortest_30 : decode b_Rs_shortest 30 = .ok (.istore 10, 2) := by decide +kernel
theorem d_Rs_shortest_32 : decode b_Rs_shortest 32 = .ok (.iload 10, 2) := by decide +kernel
theorem d_Rs_shortest_34 : decode b_Rs_shortest 34 = .ok (.bipush 20, 2) := by decide +kernel
theorem d_Rs_shortest_36 : decode b_Rs_shortest 36 = .ok (.if_icmp .ge 154, 3) := by decide +kernel
theorem d_Rs_shortest_39 : decode b_Rs_shortest 39 = .ok (.lload 6, 2) := by decide +kernel
theorem d_Rs_shortest_41 : decode b_Rs_shortest 41 = .ok (.ldc2_w 182, 3) := by decide +kernel
theorem d_Rs_shortest_44 : decode b_Rs_shortest 44 = .ok (.lmul, 1) := by decide +kernel
theorem d_Rs_shortest_45 : decode b_Rs_shortest 45 = .ok (.lstore 6, 2) := by decide +kernel
theorem d_Rs_shortest_47 : decode b_Rs_shortest 47 = .ok (.aload_n 0, 1) := by decide +kernel
theorem d_Rs_shortest_48 : decode b_Rs_shortest 48 = .ok (.iload 9, 2) := by decide +kernel
theorem d_Rs_shortest_50 : decode b_Rs_shortest 50 = .ok (.iload 10, 2) := by decide +kernel
theorem d_Rs_shortest_52 : decode b_Rs_shortest 52 = .ok (.isub, 1) := by decide +kernel
theorem d_Rs_shortest_53 : decode b_Rs_shortest 53 = .ok (.iconst 1, 1) := by decide +kernel
theorem d_Rs_shortest_54 : decode b_Rs_shortest 54 = .ok (.iadd, 1) := by decide +kernel
theorem d_Rs_shortest_55 : decode b_Rs_shortest 55 = .ok (.putfield 127, 3) := by decide +kernel
theorem d_Rs_shortest_58 : decode b_Rs_shortest 58 = .ok (.aload_n 0, 1) := by decide +kernel
theorem d_Rs_shortest_59 : decode b_Rs_shortest 59 = .ok (.aload_n 0, 1) := by decide +kernel
theorem d_Rs_shortest_60 : decode b_Rs_shortest 60 = .ok (.getfield 127, 3) := by decide +kernel
theorem d_Rs_shortest_63 : decode b_Rs_shortest 63 = .ok (.invokevirtual 174, 3) := by decide +kernel
theorem d_Rs_shortest_66 : decode b_Rs_shortest 66 = .ok (.aload_n 0, 1) := by decide +kernel
theorem d_Rs_shortest_67 : decode b_Rs_shortest 67 = .ok (.lload 4, 2) := by decide +kernel
theorem d_Rs_shortest_69 : decode b_Rs_shortest 69 = .ok (.iload 8, 2) := by decide +kernel
theorem d_Rs_shortest_71 : decode b_Rs_shortest 71 = .ok (.lload 6, 2) := by decide +kernel
theorem d_Rs_shortest_73 : decode b_Rs_shortest 73 = .ok (.invokevirtual 187, 3) := by decide +kernel
theorem d_Rs_shortest_76 : decode b_Rs_shortest 76 = .ok (.lstore 11, 2) := by decide +kernel
theorem d_Rs_shortest_78 : decode b_Rs_shortest 78 = .ok (.aload_n 0, 1) := by decide +kernel
theorem d_Rs_shortest_79 : decode b_Rs_shortest 79 = .ok (.lload 11, 2) := by decide +kernel
theorem d_Rs_shortest_81 : decode b_Rs_shortest 81 = .ok (.lload_n 1, 1) := by decide +kernel
theorem d_Rs_shortest_82 : decode b_Rs_shortest 82 = .ok (.iload_n 3, 1) := by decide +kernel
theorem d_Rs_shortest_83 : decode b_Rs_shortest 83 = .ok (.invokevirtual 191, 3) := by decide +kernel
theorem d_Rs_shortest_86 : decode b_Rs_shortest 86 = .ok (.istore 13, 2) := by decide +kernel
theorem d_Rs_shortest_88 : decode b_Rs_shortest 88 = .ok (.aload_n 0, 1) := by decide +kernel
theorem d_Rs_shortest_89 : decode b_Rs_shortest 89 = .ok (.lload 11, 2) := by decide +kernel
theorem d_Rs_shortest_91 : decode b_Rs_shortest 91 = .ok (.lconst 1, 1) := by decide +kernel
theorem d_Rs_shortest_92 : decode b_Rs_shortest 92 = .ok (.ladd, 1) := by decide +kernel
theorem d_Rs_shortest_93 : decode b_Rs_shortest 93 = .ok (.lload_n 1, 1) := by decide +kernel
theorem d_Rs_shortest_94 : decode b_Rs_shortest 94 = .ok (.iload_n 3, 1) := by decide +kernel
theorem d_Rs_shortest_95 : decode b_Rs_shortest 95 = .ok (.invokevirtual 191, 3) := by decide +kernel
theorem d_Rs_shortest_98 : decode b_Rs_shortest 98 = .ok (.istore 14, 2) := by decide +kernel
theorem d_Rs_shortest_100 : decode b_Rs_shortest 100 = .ok (.iload 13, 2) := by decide +kernel
theorem d_Rs_shortest_102 : decode b_Rs_shortest 102 = .ok (.ifCond .eq 57, 3) := by decide +kernel
theorem d_Rs_shortest_105 : decode b_Rs_shortest 105 = .ok (.iload 14, 2) := by decide +kernel
theorem d_Rs_shortest_107 : decode b_Rs_shortest 107 = .ok (.ifCond .eq 52, 3) := by decide +kernel
theorem d_Rs_shortest_110 : decode b_Rs_shortest 110 = .ok (.aload_n 0, 1) := by decide +kernel
theorem d_Rs_shortest_111 : decode b_Rs_shortest 111 = .ok (.ldc2_w 86, 3) := by decide +kernel
theorem d_Rs_shortest_114 : decode b_Rs_shortest 114 = .ok (.lload 11, 2) := by decide +kernel
theorem d_Rs_shortest_116 : decode b_Rs_shortest 116 = .ok (.lmul, 1) := by decide +kernel
theorem d_Rs_shortest_117 : decode b_Rs_shortest 117 = .ok (.lconst 1, 1) := by decide +kernel
theorem d_Rs_shortest_118 : decode b_Rs_shortest 118 = .ok (.ladd, 1) := by decide +kernel
theorem d_Rs_shortest_119 : decode b_Rs_shortest 119 = .ok (.lload 4, 2) := by decide +kernel
theorem d_Rs_shortest_121 : decode b_Rs_shortest 121 = .ok (.iload 8, 2) := by decide +kernel
theorem d_Rs_shortest_123 : decode b_Rs_shortest 123 = .ok (.iconst 1, 1) := by decide +kernel
theorem d_Rs_shortest_124 : decode b_Rs_shortest 124 = .ok (.iadd, 1) := by decide +kernel
theorem d_Rs_shortest_125 : decode b_Rs_shortest 125 = .ok (.invokevirtual 178, 3) := by decide +kernel
theorem d_Rs_shortest_128 : decode b_Rs_shortest 128 = .ok (.istore 15, 2) := by decide +kernel
theorem d_Rs_shortest_130 : decode b_Rs_shortest 130 = .ok (.iload 15, 2) := by decide +kernel
theorem d_Rs_shortest_132 : decode b_Rs_shortest 132 = .ok (.ifCond .gt 17, 3) := by decide +kernel
theorem d_Rs_shortest_135 : decode b_Rs_shortest 135 = .ok (.iload 15, 2) := by decide +kernel
theorem d_Rs_shortest_137 : decode b_Rs_shortest 137 = .ok (.ifCond .ne 17, 3) := by decide +kernel
theorem d_Rs_shortest_140 : decode b_Rs_shortest 140 = .ok (.lload 11, 2) := by decide +kernel
theorem d_Rs_shortest_142 : decode b_Rs_shortest 142 = .ok (.lconst 1, 1) := by decide +kernel
theorem d_Rs_shortest_143 : decode b_Rs_shortest 143 = .ok (.land, 1) := by decide +kernel
theorem d_Rs_shortest_144 : decode b_Rs_shortest 144 = .ok (.lconst 0, 1) := by decide +kernel
theorem d_Rs_shortest_145 : decode b_Rs_shortest 145 = .ok (.lcmp, 1) := by decide +kernel
theorem d_Rs_shortest_146 : decode b_Rs_shortest 146 = .ok (.ifCond .ne 8, 3) := by decide +kernel
theorem d_Rs_shortest_149 : decode b_Rs_shortest 149 = .ok (.lload 11, 2) := by decide +kernel
theorem d_Rs_shortest_151 : decode b_Rs_shortest 151 = .ok (.goto 7, 3) := by decide +kernel
theorem d_Rs_shortest_154 : decode b_Rs_shortest 154 = .ok (.lload 11, 2) := by decide +kernel
theorem d_Rs_shortest_156 : decode b_Rs_shortest 156 = .ok (.lconst 1, 1) := by decide +kernel
theorem d_Rs_shortest_157 : decode b_Rs_shortest 157 = .ok (.ladd, 1) := by decide +kernel
theorem d_Rs_shortest_158 : decode b_Rs_shortest 158 = .ok (.lreturn, 1) := by decide +kernel
theorem d_Rs_shortest_159 : decode b_Rs_shortest 159 = .ok (.iload 13, 2) := by decide +kernel
theorem d_Rs_shortest_161 : decode b_Rs_shortest 161 = .ok (.ifCond .ne 8, 3) := by decide +kernel
theorem d_Rs_shortest_164 : decode b_Rs_shortest 164 = .ok (.iload 14, 2) := by decide +kernel
theorem d_Rs_shortest_166 : decode b_Rs_shortest 166 = .ok (.ifCond .eq 18, 3) := by decide +kernel
theorem d_Rs_shortest_169 : decode b_Rs_shortest 169 = .ok (.iload 13, 2) := by decide +kernel
theorem d_Rs_shortest_171 : decode b_Rs_shortest 171 = .ok (.ifCond .eq 8, 3) := by decide +kernel
theorem d_Rs_shortest_174 : decode b_Rs_shortest 174 = .ok (.lload 11, 2) := by decide +kernel
theorem d_Rs_shortest_176 : decode b_Rs_shortest 176 = .ok (.goto 7, 3) := by decide +kernel
theorem d_Rs_shortest_179 : decode b_Rs_shortest 179 = .ok (.lload 11, 2) := by decide +kernel
theorem d_Rs_shortest_181 : decode b_Rs_shortest 181 = .ok (.lconst 1, 1) := by decide +kernel
theorem d_Rs_shortest_182 : decode b_Rs_shortest 182 = .ok (.ladd, 1) := by decide +kernel
theorem d_Rs_shortest_183 : decode b_Rs_shortest 183 = .ok (.lreturn, 1) := by decide +kernel
theorem d_Rs_shortest_184 : decode b_Rs_shortest 184 = .ok (.iinc 10 1, 3) := by decide +kernel
theorem d_Rs_shortest_187 : decode b_Rs_shortest 187 = .ok (.goto (-155), 3) := by decide +kernel
theorem d_Rs_shortest_190 : decode b_Rs_shortest 190 = .ok (.lconst 0, 1) := by decide +kernel
theorem d_Rs_shortest_191 : decode b_Rs_shortest 191 = .ok (.lreturn, 1) := by decide +kernel
def F_Rs_shortest_L32 (a1 : Int64) (a2 : Int32) (x1 : Int64) (x2 : Int32) (j190 : (Int32 → Int32 → Int32 → Int32 → Int32 → Int32 → Int32 → (Nat → Int32) → (Nat → Int32) → (Nat → Int32) → (Nat → Int32) → (Nat → Int32) → Option (Int64 × Int32 × Int32 × Int32 × Int32 × Int32 × Int32 × Int32 × (Nat → Int32) × (Nat → Int32) × (Nat → Int32) × (Nat → Int32) × (Nat → Int32)))) (j169 : (Int64 → Int32 → Int32 → Int32 → Int32 → Int32 → Int32 → Int32 → Int32 → (Nat → Int32) → (Nat → Int32) → (Nat → Int32) → (Nat → Int32) → (Nat → Int32) → Option (Int64 × Int32 × Int32 × Int32 × Int32 × Int32 × Int32 × Int32 × (Nat → Int32) × (Nat → Int32) × (Nat → Int32) × (Nat → Int32) × (Nat → Int32)))) (j110 : (Int64 → Int32 → Int32 → Int32 → Int32 → Int32 → Int32 → Int32 → (Nat → Int32) → (Nat → Int32) → (Nat → Int32) → (Nat → Int32) → (Nat → Int32) → Option (Int64 × Int32 × Int32 × Int32 × Int32 × Int32 × Int32 × Int32 × (Nat → Int32) × (Nat → Int32) × (Nat → Int32) × (Nat → Int32) × (Nat → Int32)))) : Nat → Int64 → Int32 → Int32 → Int32 → Int32 → Int32 → Int32 → Int32 → Int32 → Int32 → (Nat → Int32) → (Nat → Int32) → (Nat → Int32) → (Nat → Int32) → (Nat → Int32) → Option (Int64 × Int32 × Int32 × Int32 × Int32 × Int32 × Int32 × Int32 × (Nat → Int32) × (Nat → Int32) × (Nat → Int32) × (Nat → Int32) × (Nat → Int32))
  | 0, _, _, _, _, _, _, _, _, _, _, _, _, _, _, _ => none
  | n+1, y46, y47, y48, aN_49, bN_50, fN_51, lN__52, rN_53, twos_54, rpow_55, ra_56, rb_57, rfive_58, rleft_59, rright_60 => if (20 : Int32) ≤ y48 then (j190 aN_49 bN_50 fN_51 lN__52 rN_53 twos_54 rpow_55 ra_56 rb_57 rfive_58 rleft_59 rright_60) else (lt_ (y46 * (10 : Int64)) fun x61 => lt_ ((y47 - y48) + (1 : Int32)) fun x62 => (F_Rs_scale n bN_50 fN_51 twos_54 rb_57 rfive_58 x62).bind fun x63 => (F_Rs_most n aN_49 x63.1 x63.2.1 lN__52 rN_53 x63.2.2.1 ra_56 x63.2.2.2.1 x63.2.2.2.2 rleft_59 rright_60 x1 x2 x61).bind fun x64 => (F_Rs_isRead n x64.2.1 x63.1 x63.2.1 x64.2.2.1 x64.2.2.2.1 x63.2.2.1 x64.2.2.2.2.1 x63.2.2.2.1 x63.2.2.2.2 x64.2.2.2.2.2.1 x64.2.2.2.2.2.2 x64.1 a1 a2).bind fun x65 => (F_Rs_isRead n x65.2.1 x63.1 x63.2.1 x65.2.2.1 x65.2.2.2.1 x63.2.2.1 x65.2.2.2.2.1 x63.2.2.2.1 x63.2.2.2.2 x65.2.2.2.2.2.1 x65.2.2.2.2.2.2 (x64.1 + (1 : Int64)) a1 a2).bind fun x66 => lt_ (fun (aN_67 : Int32) (bN_68 : Int32) (fN_69 : Int32) (lN__70 : Int32) (rN_71 : Int32) (twos_72 : Int32) (rpow_73 : Int32) (ra_74 : (Nat → Int32)) (rb_75 : (Nat → Int32)) (rfive_76 : (Nat → Int32)) (rleft_77 : (Nat → Int32)) (rright_78 : (Nat → Int32)) => if ¬ x65.1 = 0 then (j169 x64.1 x65.1 aN_67 bN_68 fN_69 lN__70 rN_71 twos_72 rpow_73 ra_74 rb_75 rfive_76 rleft_77 rright_78) else (if x66.1 = 0 then (lt_ (y48 + Int32.ofInt 1) fun x79 => F_Rs_shortest_L32 a1 a2 x1 x2 j190 j169 j110 n x61 y47 x79 aN_67 bN_68 fN_69 lN__70 rN_71 twos_72 rpow_73 ra_74 rb_75 rfive_76 rleft_77 rright_78) else (j169 x64.1 x65.1 aN_67 bN_68 fN_69 lN__70 rN_71 twos_72 rpow_73 ra_74 rb_75 rfive_76 rleft_77 rright_78))) fun j159 => if x65.1 = 0 then (j159 x66.2.1 x63.1 x63.2.1 x66.2.2.1 x66.2.2.2.1 x63.2.2.1 x62 x66.2.2.2.2.1 x63.2.2.2.1 x63.2.2.2.2 x66.2.2.2.2.2.1 x66.2.2.2.2.2.2) else (if x66.1 = 0 then (j159 x66.2.1 x63.1 x63.2.1 x66.2.2.1 x66.2.2.2.1 x63.2.2.1 x62 x66.2.2.2.2.1 x63.2.2.2.1 x63.2.2.2.2 x66.2.2.2.2.2.1 x66.2.2.2.2.2.2) else (j110 x64.1 x66.2.1 x63.1 x63.2.1 x66.2.2.1 x66.2.2.2.1 x63.2.2.1 x62 x66.2.2.2.2.1 x63.2.2.2.1 x63.2.2.2.2 x66.2.2.2.2.2.1 x66.2.2.2.2.2.2)))
def F_Rs_shortest (n : Nat) (aN : Int32) (bN : Int32) (fN : Int32) (lN_ : Int32) (rN : Int32) (twos : Int32) (rpow : Int32) (ra : Nat → Int32) (rb : Nat → Int32) (rfive : Nat → Int32) (rleft : Nat → Int32) (rright : Nat → Int32) (a1 : Int64) (a2 : Int32) : Option (Int64 × Int32 × Int32 × Int32 × Int32 × Int32 × Int32 × Int32 × (Nat → Int32) × (Nat → Int32) × (Nat → Int32) × (Nat → Int32) × (Nat → Int32)) := lt_ (F_Rs_mantissa a1 a2) fun x1 => lt_ (F_Rs_exponent a1 a2) fun x2 => (F_Rs_tens n aN bN fN lN_ rN twos ra rb rfive rleft rright x1 x2).bind fun x3 => lt_ (fun (aN_4 : Int32) (bN_5 : Int32) (fN_6 : Int32) (lN__7 : Int32) (rN_8 : Int32) (twos_9 : Int32) (rpow_10 : Int32) (ra_11 : (Nat → Int32)) (rb_12 : (Nat → Int32)) (rfive_13 : (Nat → Int32)) (rleft_14 : (Nat → Int32)) (rright_15 : (Nat → Int32)) => some ((0 : Int64), aN_4, bN_5, fN_6, lN__7, rN_8, twos_9, rpow_10, ra_11, rb_12, rfive_13, rleft_14, rright_15)) fun j190 => lt_ (fun (y16 : Int64) (y17 : Int32) (aN_18 : Int32) (bN_19 : Int32) (fN_20 : Int32) (lN__21 : Int32) (rN_22 : Int32) (twos_23 : Int32) (rpow_24 : Int32) (ra_25 : (Nat → Int32)) (rb_26 : (Nat → Int32)) (rfive_27 : (Nat → Int32)) (rleft_28 : (Nat → Int32)) (rright_29 : (Nat → Int32)) => lt_ (if y17 = 0 then y16 + (1 : Int64) else y16) fun x30 => some (x30, aN_18, bN_19, fN_20, lN__21, rN_22, twos_23, rpow_24, ra_25, rb_26, rfive_27, rleft_28, rright_29)) fun j169 => lt_ (fun (y31 : Int64) (aN_32 : Int32) (bN_33 : Int32) (fN_34 : Int32) (lN__35 : Int32) (rN_36 : Int32) (twos_37 : Int32) (rpow_38 : Int32) (ra_39 : (Nat → Int32)) (rb_40 : (Nat → Int32)) (rfive_41 : (Nat → Int32)) (rleft_42 : (Nat → Int32)) (rright_43 : (Nat → Int32)) => (F_Rs_compareDigits n aN_32 bN_33 fN_34 lN__35 rN_36 twos_37 ra_39 rb_40 rfive_41 rleft_42 rright_43 (((2 : Int64) * y31) + (1 : Int64)) x1 (x2 + (1 : Int32))).bind fun x44 => lt_ (if 0 < x44.1 then y31 else if ¬ x44.1 = 0 then y31 + (1 : Int64) else if ¬ (y31 &&& (1 : Int64)) = (0 : Int64) then y31 + (1 : Int64) else y31) fun x45 => some (x45, x44.2.1, bN_33, fN_34, x44.2.2.1, x44.2.2.2.1, twos_37, rpow_38, x44.2.2.2.2.1, rb_40, rfive_41, x44.2.2.2.2.2.1, x44.2.2.2.2.2.2)) fun j110 => F_Rs_shortest_L32 a1 a2 x1 x2 j190 j169 j110 n (10 : Int64) x3.1 (2 : Int32) x3.2.1 x3.2.2.1 x3.2.2.2.1 x3.2.2.2.2.1 x3.2.2.2.2.2.1 x3.2.2.2.2.2.2.1 rpow x3.2.2.2.2.2.2.2.1 x3.2.2.2.2.2.2.2.2.1 x3.2.2.2.2.2.2.2.2.2.1 x3.2.2.2.2.2.2.2.2.2.2.1 x3.2.2.2.2.2.2.2.2.2.2.2
set_option maxHeartbeats 4000000 in
set_option maxRecDepth 100000 in
theorem c_Rs_shortest (l : Launch) (D : va_G) (A : Nat → Prop) (cI cL cC : ClassId) (ad : Nat → Nat) (X : va_W) (laid : Int32) (gone : Int32) (thr : Int32) (m1 : Int64) (m2 : Int64) (e1 : Int32) (e2 : Int32) (mi1 : Int32) (mi2 : Int32) (na1 : Int32) (na2 : Int32) (fa1 : Int32) (fa2 : Int32) (lets : Nat → Int32) (rlen : Int32) (rlaid : Int32) (rgone : Int32) (rthr : Int32) (were : Int32) (none_ : Int32) (beyo : Int32) (aN : Int32) (bN : Int32) (fN : Int32) (lN_ : Int32) (rN : Int32) (pN : Int32) (twos : Int32) (at_ : Int32) (rdig : Int32) (rpow : Int32) (good : Int32) (txt : Nat → Int32) (wri : Nat → Int32) (ra : Nat → Int32) (rb : Nat → Int32) (rfive : Nat → Int32) (rleft : Nat → Int32) (rright : Nat → Int32) (rpart : Nat → Int32) (n : Nat) (a1 : Int64) (a2 : Int32) (r : Int64 × Int32 × Int32 × Int32 × Int32 × Int32 × Int32 × Int32 × (Nat → Int32) × (Nat → Int32) × (Nat → Int32) × (Nat → Int32) × (Nat → Int32)) (h : F_Rs_shortest n aN bN fN lN_ rN twos rpow ra rb rfive rleft rright a1 a2 = some r) : Met l y_Rs_shortest (.code y_Rs_shortest b_Rs_shortest 16 (some .long) :: BIG) ({ frames := 6, cells := 0, slots := 0, locals := 156 } : Room) (va_Pc [.ref (ad 2), .long a1, .int a2] (gPre D A (tysV cI cL cC) (gM cI cL cC ad X laid gone thr m1 m2 e1 e2 mi1 mi2 na1 na2 fa1 fa2 lets rlen rlaid rgone rthr were none_ beyo aN bN fN lN_ rN pN twos at_ rdig rpow good txt wri ra rb rfive rleft rright rpart))) (gQ D A (some (.long r.1)) (gM cI cL cC ad X laid gone thr m1 m2 e1 e2 mi1 mi2 na1 na2 fa1 fa2 lets rlen rlaid rgone rthr were none_ beyo r.2.1 r.2.2.1 r.2.2.2.1 r.2.2.2.2.1 r.2.2.2.2.2.1 pN r.2.2.2.2.2.2.1 at_ rdig r.2.2.2.2.2.2.2.1 good txt wri r.2.2.2.2.2.2.2.2.1 r.2.2.2.2.2.2.2.2.2.1 r.2.2.2.2.2.2.2.2.2.2.1 r.2.2.2.2.2.2.2.2.2.2.2.1 r.2.2.2.2.2.2.2.2.2.2.2.2 rpart)) 0 0 A := by
  refine gOpen_l rfl (Nat.le_of_ble_eq_true rfl) ?_
  intro p e s m args below meth c Q ls hx hb hml hown hts hT hNB hP hK hD hl hret
  have hown : s.vm.findClass R_Rs = some m.cls := hown
  have hS : va_S A s.heap s.heap [] := va_S.rf
  have hl : lv_has ls 16 [(0, .ref (ad 2)), (1, .long a1), (3, .int a2)] := hl
  have h : (lt_ (F_Rs_mantissa a1 a2) fun x1 => lt_ (F_Rs_exponent a1 a2) fun x2 => (F_Rs_tens n aN bN fN lN_ rN twos ra rb rfive rleft rright x1 x2).bind fun x3 => lt_ (fun (aN_4 : Int32) (bN_5 : Int32) (fN_6 : Int32) (lN__7 : Int32) (rN_8 : Int32) (twos_9 : Int32) (rpow_10 : Int32) (ra_11 : (Nat → Int32)) (rb_12 : (Nat → Int32)) (rfive_13 : (Nat → Int32)) (rleft_14 : (Nat → Int32)) (rright_15 : (Nat → Int32)) => some ((0 : Int64), aN_4, bN_5, fN_6, lN__7, rN_8, twos_9, rpow_10, ra_11, rb_12, rfive_13, rleft_14, rright_15)) fun j190 => lt_ (fun (y16 : Int64) (y17 : Int32) (aN_18 : Int32) (bN_19 : Int32) (fN_20 : Int32) (lN__21 : Int32) (rN_22 : Int32) (twos_23 : Int32) (rpow_24 : Int32) (ra_25 : (Nat → Int32)) (rb_26 : (Nat → Int32)) (rfive_27 : (Nat → Int32)) (rleft_28 : (Nat → Int32)) (rright_29 : (Nat → Int32)) => lt_ (if y17 = 0 then y16 + (1 : Int64) else y16) fun x30 => some (x30, aN_18, bN_19, fN_20, lN__21, rN_22, twos_23, rpow_24, ra_25, rb_26, rfive_27, rleft_28, rright_29)) fun j169 => lt_ (fun (y31 : Int64) (aN_32 : Int32) (bN_33 : Int32) (fN_34 : Int32) (lN__35 : Int32) (rN_36 : Int32) (twos_37 : Int32) (rpow_38 : Int32) (ra_39 : (Nat → Int32)) (rb_40 : (Nat → Int32)) (rfive_41 : (Nat → Int32)) (rleft_42 : (Nat → Int32)) (rright_43 : (Nat → Int32)) => (F_Rs_compareDigits n aN_32 bN_33 fN_34 lN__35 rN_36 twos_37 ra_39 rb_40 rfive_41 rleft_42 rright_43 (((2 : Int64) * y31) + (1 : Int64)) x1 (x2 + (1 : Int32))).bind fun x44 => lt_ (if 0 < x44.1 then y31 else if ¬ x44.1 = 0 then y31 + (1 : Int64) else if ¬ (y31 &&& (1 : Int64)) = (0 : Int64) then y31 + (1 : Int64) else y31) fun x45 => some (x45, x44.2.1, bN_33, fN_34, x44.2.2.1, x44.2.2.2.1, twos_37, rpow_38, x44.2.2.2.2.1, rb_40, rfive_41, x44.2.2.2.2.2.1, x44.2.2.2.2.2.2)) fun j110 => F_Rs_shortest_L32 a1 a2 x1 x2 j190 j169 j110 n (10 : Int64) x3.1 (2 : Int32) x3.2.1 x3.2.2.1 x3.2.2.2.1 x3.2.2.2.2.1 x3.2.2.2.2.2.1 x3.2.2.2.2.2.2.1 rpow x3.2.2.2.2.2.2.2.1 x3.2.2.2.2.2.2.2.2.1 x3.2.2.2.2.2.2.2.2.2.1 x3.2.2.2.2.2.2.2.2.2.2.1 x3.2.2.2.2.2.2.2.2.2.2.2) = some r := h
  refine lv_lload_n hx hb d_Rs_shortest_0 rfl (lv_at hl 1 rfl) ?_
  refine lv_iload_n hx hb d_Rs_shortest_1 rfl (lv_at hl 2 rfl) ?_
  refine q_S (As := [.long a1, .int a2]) (rest := []) (n := 2) hx hb hml hown hts (c_Rs_mantissa l a1 a2) rfl rfl m_363 m_364 m_365 m_318 (by decide +kernel) ⟨Nat.le_of_ble_eq_true rfl, Nat.le_of_ble_eq_true rfl⟩ (p0_bl) (fun U hU hW => p0_mv hU hW hNB) rfl hl.1 rfl (Nat.le_of_ble_eq_true rfl) d_Rs_shortest_2 ⟨Nat.zero_le _, Nat.zero_le _⟩ ?_
  refine lv_topl (fun x1 e_x1 => ?_)
  have h := lt_h e_x1 h
  refine lv_lstore hx hb d_Rs_shortest_5 hl (by decide) rfl (fun ls hl => ?_)
  have hl : lv_has ls 16 [(4, .long x1), (0, .ref (ad 2)), (1, .long a1), (3, .int a2)] := hl
  refine lv_ldc2 hx hb hown (hT _ m_373) d_Rs_shortest_7 ?_
  refine lv_lstore hx hb d_Rs_shortest_10 hl (by decide) rfl (fun ls hl => ?_)
  have hl : lv_has ls 16 [(6, .long (10 : Int64)), (4, .long x1), (0, .ref (ad 2)), (1, .long a1), (3, .int a2)] := hl
  refine lv_lload_n hx hb d_Rs_shortest_12 rfl (lv_at hl 3 rfl) ?_
  refine lv_iload_n hx hb d_Rs_shortest_13 rfl (lv_at hl 4 rfl) ?_
  refine q_S (As := [.long a1, .int a2]) (rest := []) (n := 2) hx hb hml hown hts (c_Rs_exponent l a1 a2) rfl rfl m_366 m_367 m_368 m_318 (by decide +kernel) ⟨Nat.le_of_ble_eq_true rfl, Nat.le_of_ble_eq_true rfl⟩ (p0_bl) (fun U hU hW => p0_mv hU hW hNB) rfl hl.1 rfl (Nat.le_of_ble_eq_true rfl) d_Rs_shortest_14 ⟨Nat.zero_le _, Nat.zero_le _⟩ ?_
  refine lv_topi (fun x2 e_x2 => ?_)
  have h := lt_h e_x2 h
  refine lv_istore hx hb d_Rs_shortest_17 hl (by decide) rfl (fun ls hl => ?_)
  have hl : lv_has ls 16 [(8, .int x2), (6, .long (10 : Int64)), (4, .long x1), (0, .ref (ad 2)), (1, .long a1), (3, .int a2)] := hl
  refine lv_aload_n hx hb d_Rs_shortest_19 rfl (lv_at hl 3 rfl) ?_
  refine lv_lload hx hb d_Rs_shortest_20 (lv_at hl 2 rfl) ?_
  refine lv_iload hx hb d_Rs_shortest_22 (lv_at hl 0 rfl) ?_
  obtain ⟨x3, e_x3, h⟩ := bd_o h
  refine q_GV (D := D) (A := A) (C := R_Rs) (b := ad 2) (As := [.long x1, .int x2]) (rest := []) (n := 2) hx hb hml hown hts (c_Rs_tens l D A cI cL cC ad X laid gone thr m1 m2 e1 e2 mi1 mi2 na1 na2 fa1 fa2 lets rlen rlaid rgone rthr were none_ beyo aN bN fN lN_ rN pN twos at_ rdig rpow good txt wri ra rb rfive rleft rright rpart n x1 x2 x3 e_x3) rfl rfl m_374 m_375 m_376 m_377 m_318 (by decide +kernel) ⟨Nat.le_of_ble_eq_true rfl, Nat.le_of_ble_eq_true rfl⟩ (va_recv hK hP (ci := 5) rfl (q0 := 2) rfl) hNB hK hP hD hS rfl hl.1 rfl (Nat.le_of_ble_eq_true rfl) d_Rs_shortest_24 ⟨Nat.zero_le _, Nat.zero_le _⟩ (fun H locs hP hD hS => ?_)
  have hP : va_P D cls (gM cI cL cC ad X laid gone thr m1 m2 e1 e2 mi1 mi2 na1 na2 fa1 fa2 lets rlen rlaid rgone rthr were none_ beyo x3.2.1 x3.2.2.1 x3.2.2.2.1 x3.2.2.2.2.1 x3.2.2.2.2.2.1 pN x3.2.2.2.2.2.2.1 at_ rdig rpow good txt wri x3.2.2.2.2.2.2.2.1 x3.2.2.2.2.2.2.2.2.1 x3.2.2.2.2.2.2.2.2.2.1 x3.2.2.2.2.2.2.2.2.2.2.1 x3.2.2.2.2.2.2.2.2.2.2.2 rpart) H := hP
  have hD : va_D A (gM cI cL cC ad X laid gone thr m1 m2 e1 e2 mi1 mi2 na1 na2 fa1 fa2 lets rlen rlaid rgone rthr were none_ beyo x3.2.1 x3.2.2.1 x3.2.2.2.1 x3.2.2.2.2.1 x3.2.2.2.2.2.1 pN x3.2.2.2.2.2.2.1 at_ rdig rpow good txt wri x3.2.2.2.2.2.2.2.1 x3.2.2.2.2.2.2.2.2.1 x3.2.2.2.2.2.2.2.2.2.1 x3.2.2.2.2.2.2.2.2.2.2.1 x3.2.2.2.2.2.2.2.2.2.2.2 rpart) := hD
  refine lv_istore hx hb d_Rs_shortest_27 hl (by decide) rfl (fun ls hl => ?_)
  have hl : lv_has ls 16 [(9, .int x3.1), (8, .int x2), (6, .long (10 : Int64)), (4, .long x1), (0, .ref (ad 2)), (1, .long a1), (3, .int a2)] := hl
  refine lv_iconst hx hb d_Rs_shortest_29 ic_2 ?_
  refine lv_istore hx hb d_Rs_shortest_30 hl (by decide) rfl (fun ls hl => ?_)
  have hl : lv_has ls 16 [(10, .int (2 : Int32)), (9, .int x3.1), (8, .int x2), (6, .long (10 : Int64)), (4, .long x1), (0, .ref (ad 2)), (1, .long a1), (3, .int a2)] := hl
  obtain ⟨j190, e_j190, h⟩ := lt_o h
  have hJ190 : ∀ (aN_4 : Int32) (bN_5 : Int32) (fN_6 : Int32) (lN__7 : Int32) (rN_8 : Int32) (twos_9 : Int32) (rpow_10 : Int32) (ra_11 : (Nat → Int32)) (rb_12 : (Nat → Int32)) (rfive_13 : (Nat → Int32)) (rleft_14 : (Nat → Int32)) (rright_15 : (Nat → Int32)) (ls : Array Slot) (H : Heap) (locs : List Loc), lv_has ls 16 [] → va_P D cls (gM cI cL cC ad X laid gone thr m1 m2 e1 e2 mi1 mi2 na1 na2 fa1 fa2 lets rlen rlaid rgone rthr were none_ beyo aN_4 bN_5 fN_6 lN__7 rN_8 pN twos_9 at_ rdig rpow_10 good txt wri ra_11 rb_12 rfive_13 rleft_14 rright_15 rpart) H → va_D A (gM cI cL cC ad X laid gone thr m1 m2 e1 e2 mi1 mi2 na1 na2 fa1 fa2 lets rlen rlaid rgone rthr were none_ beyo aN_4 bN_5 fN_6 lN__7 rN_8 pN twos_9 at_ rdig rpow_10 good txt wri ra_11 rb_12 rfive_13 rleft_14 rright_15 rpart) → va_S A s.heap H locs → j190 aN_4 bN_5 fN_6 lN__7 rN_8 twos_9 rpow_10 ra_11 rb_12 rfive_13 rleft_14 rright_15 = some r → W p l e ({ frames := 6, cells := 0, slots := 0, locals := 156 } : Room) s m args below meth c H locs 0 0 Q (F0 m 190 ls []) := by
    intro aN_4 bN_5 fN_6 lN__7 rN_8 twos_9 rpow_10 ra_11 rb_12 rfive_13 rleft_14 rright_15 ls H locs hl hP hD hS h
    rw [e_j190] at h
    refine lv_lconst hx hb d_Rs_shortest_190 lc_0 ?_
    obtain rfl := Option.some.inj h
    exact hret 191 ls _ _ _ rfl hP hD hS d_Rs_shortest_191
  obtain ⟨j169, e_j169, h⟩ := lt_o h
  have hJ169 : ∀ (y16 : Int64) (y17 : Int32) (aN_18 : Int32) (bN_19 : Int32) (fN_20 : Int32) (lN__21 : Int32) (rN_22 : Int32) (twos_23 : Int32) (rpow_24 : Int32) (ra_25 : (Nat → Int32)) (rb_26 : (Nat → Int32)) (rfive_27 : (Nat → Int32)) (rleft_28 : (Nat → Int32)) (rright_29 : (Nat → Int32)) (ls : Array Slot) (H : Heap) (locs : List Loc), lv_has ls 16 [(11, .long y16), (13, .int y17)] → va_P D cls (gM cI cL cC ad X laid gone thr m1 m2 e1 e2 mi1 mi2 na1 na2 fa1 fa2 lets rlen rlaid rgone rthr were none_ beyo aN_18 bN_19 fN_20 lN__21 rN_22 pN twos_23 at_ rdig rpow_24 good txt wri ra_25 rb_26 rfive_27 rleft_28 rright_29 rpart) H → va_D A (gM cI cL cC ad X laid gone thr m1 m2 e1 e2 mi1 mi2 na1 na2 fa1 fa2 lets rlen rlaid rgone rthr were none_ beyo aN_18 bN_19 fN_20 lN__21 rN_22 pN twos_23 at_ rdig rpow_24 good txt wri ra_25 rb_26 rfive_27 rleft_28 rright_29 rpart) → va_S A s.heap H locs → j169 y16 y17 aN_18 bN_19 fN_20 lN__21 rN_22 twos_23 rpow_24 ra_25 rb_26 rfive_27 rleft_28 rright_29 = some r → W p l e ({ frames := 6, cells := 0, slots := 0, locals := 156 } : Room) s m args below meth c H locs 0 0 Q (F0 m 169 ls []) := by
    intro y16 y17 aN_18 bN_19 fN_20 lN__21 rN_22 twos_23 rpow_24 ra_25 rb_26 rfive_27 rleft_28 rright_29 ls H locs hl hP hD hS h
    rw [e_j169] at h
    refine lv_iload hx hb d_Rs_shortest_169 (lv_at hl 1 rfl) ?_
    obtain ⟨x30, e_x30, h⟩ := lt_o h
    have hJ183 : ∀ (x30' : Int64) (ls : Array Slot), x30 = x30' → lv_has ls 16 [] → W p l e ({ frames := 6, cells := 0, slots := 0, locals := 156 } : Room) s m args below meth c H locs 0 0 Q (F0 m 183 ls [.long x30']) := by
      intro x30' ls q_x30 hl
      subst q_x30
      obtain rfl := Option.some.inj h
      exact hret 183 ls _ _ _ rfl hP hD hS d_Rs_shortest_183
    refine lv_if_eq (tgt := 179) hx hb d_Rs_shortest_171 rfl (fun hc => ?_) (fun hc => ?_)
    · have e_x30 := e_x30.trans (if_pos hc)
      refine lv_lload hx hb d_Rs_shortest_179 (lv_at hl 0 rfl) ?_
      refine lv_lconst hx hb d_Rs_shortest_181 lc_1 ?_
      refine lv_ladd hx hb d_Rs_shortest_182 ?_
      exact hJ183 _ ls e_x30 (lv_sub hl [] rfl)
    · have e_x30 := e_x30.trans (if_neg hc)
      refine lv_lload hx hb d_Rs_shortest_174 (lv_at hl 0 rfl) ?_
      refine lv_goto (tgt := 183) hx hb d_Rs_shortest_176 rfl ?_
      exact hJ183 _ ls e_x30 (lv_sub hl [] rfl)
  obtain ⟨j110, e_j110, h⟩ := lt_o h
  have hJ110 : ∀ (y31 : Int64) (aN_32 : Int32) (bN_33 : Int32) (fN_34 : Int32) (lN__35 : Int32) (rN_36 : Int32) (twos_37 : Int32) (rpow_38 : Int32) (ra_39 : (Nat → Int32)) (rb_40 : (Nat → Int32)) (rfive_41 : (Nat → Int32)) (rleft_42 : (Nat → Int32)) (rright_43 : (Nat → Int32)) (ls : Array Slot) (H : Heap) (locs : List Loc), lv_has ls 16 [(0, .ref (ad 2)), (4, .long x1), (8, .int x2), (11, .long y31)] → va_P D cls (gM cI cL cC ad X laid gone thr m1 m2 e1 e2 mi1 mi2 na1 na2 fa1 fa2 lets rlen rlaid rgone rthr were none_ beyo aN_32 bN_33 fN_34 lN__35 rN_36 pN twos_37 at_ rdig rpow_38 good txt wri ra_39 rb_40 rfive_41 rleft_42 rright_43 rpart) H → va_D A (gM cI cL cC ad X laid gone thr m1 m2 e1 e2 mi1 mi2 na1 na2 fa1 fa2 lets rlen rlaid rgone rthr were none_ beyo aN_32 bN_33 fN_34 lN__35 rN_36 pN twos_37 at_ rdig rpow_38 good txt wri ra_39 rb_40 rfive_41 rleft_42 rright_43 rpart) → va_S A s.heap H locs → j110 y31 aN_32 bN_33 fN_34 lN__35 rN_36 twos_37 rpow_38 ra_39 rb_40 rfive_41 rleft_42 rright_43 = some r → W p l e ({ frames := 6, cells := 0, slots := 0, locals := 156 } : Room) s m args below meth c H locs 0 0 Q (F0 m 110 ls []) := by
    intro y31 aN_32 bN_33 fN_34 lN__35 rN_36 twos_37 rpow_38 ra_39 rb_40 rfive_41 rleft_42 rright_43 ls H locs hl hP hD hS h
    rw [e_j110] at h
    refine lv_aload_n hx hb d_Rs_shortest_110 rfl (lv_at hl 0 rfl) ?_
    refine lv_ldc2 hx hb hown (hT _ m_362) d_Rs_shortest_111 ?_
    refine lv_lload hx hb d_Rs_shortest_114 (lv_at hl 3 rfl) ?_
    refine lv_lmul hx hb d_Rs_shortest_116 ?_
    refine lv_lconst hx hb d_Rs_shortest_117 lc_1 ?_
    refine lv_ladd hx hb d_Rs_shortest_118 ?_
    refine lv_lload hx hb d_Rs_shortest_119 (lv_at hl 1 rfl) ?_
    refine lv_iload hx hb d_Rs_shortest_121 (lv_at hl 2 rfl) ?_
    refine lv_iconst hx hb d_Rs_shortest_123 ic_1 ?_
    refine lv_iadd hx hb d_Rs_shortest_124 ?_
    obtain ⟨x44, e_x44, h⟩ := bd_o h
    refine q_GV (D := D) (A := A) (C := R_Rs) (b := ad 2) (As := [.long (((2 : Int64) * y31) + (1 : Int64)), .long x1, .int (x2 + (1 : Int32))]) (rest := []) (n := 3) hx hb hml hown hts (c_Rs_compareDigits l D A cI cL cC ad X laid gone thr m1 m2 e1 e2 mi1 mi2 na1 na2 fa1 fa2 lets rlen rlaid rgone rthr were none_ beyo aN_32 bN_33 fN_34 lN__35 rN_36 pN twos_37 at_ rdig rpow_38 good txt wri ra_39 rb_40 rfive_41 rleft_42 rright_43 rpart n (((2 : Int64) * y31) + (1 : Int64)) x1 (x2 + (1 : Int32)) x44 e_x44) rfl rfl m_358 m_359 m_360 m_361 m_318 (by decide +kernel) ⟨Nat.le_of_ble_eq_true rfl, Nat.le_of_ble_eq_true rfl⟩ (va_recv hK hP (ci := 5) rfl (q0 := 2) rfl) hNB hK hP hD hS rfl hl.1 rfl (Nat.le_of_ble_eq_true rfl) d_Rs_shortest_125 ⟨Nat.zero_le _, Nat.zero_le _⟩ (fun H locs hP hD hS => ?_)
    have hP : va_P D cls (gM cI cL cC ad X laid gone thr m1 m2 e1 e2 mi1 mi2 na1 na2 fa1 fa2 lets rlen rlaid rgone rthr were none_ beyo x44.2.1 bN_33 fN_34 x44.2.2.1 x44.2.2.2.1 pN twos_37 at_ rdig rpow_38 good txt wri x44.2.2.2.2.1 rb_40 rfive_41 x44.2.2.2.2.2.1 x44.2.2.2.2.2.2 rpart) H := hP
    have hD : va_D A (gM cI cL cC ad X laid gone thr m1 m2 e1 e2 mi1 mi2 na1 na2 fa1 fa2 lets rlen rlaid rgone rthr were none_ beyo x44.2.1 bN_33 fN_34 x44.2.2.1 x44.2.2.2.1 pN twos_37 at_ rdig rpow_38 good txt wri x44.2.2.2.2.1 rb_40 rfive_41 x44.2.2.2.2.2.1 x44.2.2.2.2.2.2 rpart) := hD
    refine lv_istore hx hb d_Rs_shortest_128 hl (by decide) rfl (fun ls hl => ?_)
    have hl : lv_has ls 16 [(15, .int x44.1), (0, .ref (ad 2)), (4, .long x1), (8, .int x2), (11, .long y31)] := hl
    refine lv_iload hx hb d_Rs_shortest_130 (lv_at hl 0 rfl) ?_
    obtain ⟨x45, e_x45, h⟩ := lt_o h
    have hJ158 : ∀ (x45' : Int64) (ls : Array Slot), x45 = x45' → lv_has ls 16 [] → W p l e ({ frames := 6, cells := 0, slots := 0, locals := 156 } : Room) s m args below meth c H locs 0 0 Q (F0 m 158 ls [.long x45']) := by
      intro x45' ls q_x45 hl
      subst q_x45
      obtain rfl := Option.some.inj h
      exact hret 158 ls _ _ _ rfl hP hD hS d_Rs_shortest_158
    refine lv_if_gt (tgt := 149) hx hb d_Rs_shortest_132 rfl (fun hc => ?_) (fun hc => ?_)
    · have e_x45 := e_x45.trans (if_pos hc)
      refine lv_lload hx hb d_Rs_shortest_149 (lv_at hl 4 rfl) ?_
      refine lv_goto (tgt := 158) hx hb d_Rs_shortest_151 rfl ?_
      exact hJ158 _ ls e_x45 (lv_sub hl [] rfl)
    · have e_x45 := e_x45.trans (if_neg hc)
      refine lv_iload hx hb d_Rs_shortest_135 (lv_at hl 0 rfl) ?_
      refine lv_if_ne (tgt := 154) hx hb d_Rs_shortest_137 rfl (fun hc => ?_) (fun hc => ?_)
      · have e_x45 := e_x45.trans (if_pos hc)
        refine lv_lload hx hb d_Rs_shortest_154 (lv_at hl 4 rfl) ?_
        refine lv_lconst hx hb d_Rs_shortest_156 lc_1 ?_
        refine lv_ladd hx hb d_Rs_shortest_157 ?_
        exact hJ158 _ ls e_x45 (lv_sub hl [] rfl)
      · have hc := not_not_intro hc
        have e_x45 := e_x45.trans (if_neg hc)
        refine lv_lload hx hb d_Rs_shortest_140 (lv_at hl 4 rfl) ?_
        refine lv_lconst hx hb d_Rs_shortest_142 lc_1 ?_
        refine lv_land hx hb d_Rs_shortest_143 ?_
        refine lv_lconst hx hb d_Rs_shortest_144 lc_0 ?_
        refine W.lcmp hx hb d_Rs_shortest_145 ?_
        refine lv_if_ne (tgt := 154) hx hb d_Rs_shortest_146 rfl (fun hc => ?_) (fun hc => ?_)
        · have hc := mt (lg_cmp_eq _ _).mpr hc
          have e_x45 := e_x45.trans (if_pos hc)
          refine lv_lload hx hb d_Rs_shortest_154 (lv_at hl 4 rfl) ?_
          refine lv_lconst hx hb d_Rs_shortest_156 lc_1 ?_
          refine lv_ladd hx hb d_Rs_shortest_157 ?_
          exact hJ158 _ ls e_x45 (lv_sub hl [] rfl)
        · have hc := not_not_intro ((lg_cmp_eq _ _).mp hc)
          have e_x45 := e_x45.trans (if_neg hc)
          refine lv_lload hx hb d_Rs_shortest_149 (lv_at hl 4 rfl) ?_
          refine lv_goto (tgt := 158) hx hb d_Rs_shortest_151 rfl ?_
          exact hJ158 _ ls e_x45 (lv_sub hl [] rfl)
  have hL32 : ∀ (n : Nat) (y46 : Int64) (y47 : Int32) (y48 : Int32) (aN_49 : Int32) (bN_50 : Int32) (fN_51 : Int32) (lN__52 : Int32) (rN_53 : Int32) (twos_54 : Int32) (rpow_55 : Int32) (ra_56 : (Nat → Int32)) (rb_57 : (Nat → Int32)) (rfive_58 : (Nat → Int32)) (rleft_59 : (Nat → Int32)) (rright_60 : (Nat → Int32)) (ls : Array Slot) (H : Heap) (locs : List Loc), lv_has ls 16 [(0, .ref (ad 2)), (1, .long a1), (3, .int a2), (4, .long x1), (6, .long y46), (8, .int x2), (9, .int y47), (10, .int y48)] → va_P D cls (gM cI cL cC ad X laid gone thr m1 m2 e1 e2 mi1 mi2 na1 na2 fa1 fa2 lets rlen rlaid rgone rthr were none_ beyo aN_49 bN_50 fN_51 lN__52 rN_53 pN twos_54 at_ rdig rpow_55 good txt wri ra_56 rb_57 rfive_58 rleft_59 rright_60 rpart) H → va_D A (gM cI cL cC ad X laid gone thr m1 m2 e1 e2 mi1 mi2 na1 na2 fa1 fa2 lets rlen rlaid rgone rthr were none_ beyo aN_49 bN_50 fN_51 lN__52 rN_53 pN twos_54 at_ rdig rpow_55 good txt wri ra_56 rb_57 rfive_58 rleft_59 rright_60 rpart) → va_S A s.heap H locs → F_Rs_shortest_L32 a1 a2 x1 x2 j190 j169 j110 n y46 y47 y48 aN_49 bN_50 fN_51 lN__52 rN_53 twos_54 rpow_55 ra_56 rb_57 rfive_58 rleft_59 rright_60 = some r → W p l e ({ frames := 6, cells := 0, slots := 0, locals := 156 } : Room) s m args below meth c H locs 0 0 Q (F0 m 32 ls []) := by
    intro n
    induction n with
    | zero => intro y46 y47 y48 aN_49 bN_50 fN_51 lN__52 rN_53 twos_54 rpow_55 ra_56 rb_57 rfive_58 rleft_59 rright_60 ls H locs hl hP hD hS h; exact no_s h
    | succ n ih =>
      intro y46 y47 y48 aN_49 bN_50 fN_51 lN__52 rN_53 twos_54 rpow_55 ra_56 rb_57 rfive_58 rleft_59 rright_60 ls H locs hl hP hD hS h
      have h : (if (20 : Int32) ≤ y48 then (j190 aN_49 bN_50 fN_51 lN__52 rN_53 twos_54 rpow_55 ra_56 rb_57 rfive_58 rleft_59 rright_60) else (lt_ (y46 * (10 : Int64)) fun x61 => lt_ ((y47 - y48) + (1 : Int32)) fun x62 => (F_Rs_scale n bN_50 fN_51 twos_54 rb_57 rfive_58 x62).bind fun x63 => (F_Rs_most n aN_49 x63.1 x63.2.1 lN__52 rN_53 x63.2.2.1 ra_56 x63.2.2.2.1 x63.2.2.2.2 rleft_59 rright_60 x1 x2 x61).bind fun x64 => (F_Rs_isRead n x64.2.1 x63.1 x63.2.1 x64.2.2.1 x64.2.2.2.1 x63.2.2.1 x64.2.2.2.2.1 x63.2.2.2.1 x63.2.2.2.2 x64.2.2.2.2.2.1 x64.2.2.2.2.2.2 x64.1 a1 a2).bind fun x65 => (F_Rs_isRead n x65.2.1 x63.1 x63.2.1 x65.2.2.1 x65.2.2.2.1 x63.2.2.1 x65.2.2.2.2.1 x63.2.2.2.1 x63.2.2.2.2 x65.2.2.2.2.2.1 x65.2.2.2.2.2.2 (x64.1 + (1 : Int64)) a1 a2).bind fun x66 => lt_ (fun (aN_67 : Int32) (bN_68 : Int32) (fN_69 : Int32) (lN__70 : Int32) (rN_71 : Int32) (twos_72 : Int32) (rpow_73 : Int32) (ra_74 : (Nat → Int32)) (rb_75 : (Nat → Int32)) (rfive_76 : (Nat → Int32)) (rleft_77 : (Nat → Int32)) (rright_78 : (Nat → Int32)) => if ¬ x65.1 = 0 then (j169 x64.1 x65.1 aN_67 bN_68 fN_69 lN__70 rN_71 twos_72 rpow_73 ra_74 rb_75 rfive_76 rleft_77 rright_78) else (if x66.1 = 0 then (lt_ (y48 + Int32.ofInt 1) fun x79 => F_Rs_shortest_L32 a1 a2 x1 x2 j190 j169 j110 n x61 y47 x79 aN_67 bN_68 fN_69 lN__70 rN_71 twos_72 rpow_73 ra_74 rb_75 rfive_76 rleft_77 rright_78) else (j169 x64.1 x65.1 aN_67 bN_68 fN_69 lN__70 rN_71 twos_72 rpow_73 ra_74 rb_75 rfive_76 rleft_77 rright_78))) fun j159 => if x65.1 = 0 then (j159 x66.2.1 x63.1 x63.2.1 x66.2.2.1 x66.2.2.2.1 x63.2.2.1 x62 x66.2.2.2.2.1 x63.2.2.2.1 x63.2.2.2.2 x66.2.2.2.2.2.1 x66.2.2.2.2.2.2) else (if x66.1 = 0 then (j159 x66.2.1 x63.1 x63.2.1 x66.2.2.1 x66.2.2.2.1 x63.2.2.1 x62 x66.2.2.2.2.1 x63.2.2.2.1 x63.2.2.2.2 x66.2.2.2.2.2.1 x66.2.2.2.2.2.2) else (j110 x64.1 x66.2.1 x63.1 x63.2.1 x66.2.2.1 x66.2.2.2.1 x63.2.2.1 x62 x66.2.2.2.2.1 x63.2.2.2.1 x63.2.2.2.2 x66.2.2.2.2.2.1 x66.2.2.2.2.2.2)))) = some r := h
      refine lv_iload hx hb d_Rs_shortest_32 (lv_at hl 7 rfl) ?_
      refine lv_bipush hx hb d_Rs_shortest_34 bp_20 ?_
      refine lv_icmp_ge (tgt := 190) hx hb d_Rs_shortest_36 rfl (fun hc => ?_) (fun hc => ?_)
      · have h := ite_t hc h
        exact hJ190 _ _ _ _ _ _ _ _ _ _ _ _ ls _ _ (lv_sub hl [] rfl) hP hD hS h
      · have h := ite_f hc h
        refine lv_lload hx hb d_Rs_shortest_39 (lv_at hl 4 rfl) ?_
        refine lv_ldc2 hx hb hown (hT _ m_373) d_Rs_shortest_41 ?_
        refine lv_lmul hx hb d_Rs_shortest_44 ?_
        refine lv_topl (fun x61 e_x61 => ?_)
        have h := lt_h e_x61 h
        refine lv_lstore hx hb d_Rs_shortest_45 hl (by decide) rfl (fun ls hl => ?_)
        have hl : lv_has ls 16 [(6, .long x61), (0, .ref (ad 2)), (1, .long a1), (3, .int a2), (4, .long x1), (8, .int x2), (9, .int y47), (10, .int y48)] := hl
        refine lv_aload_n hx hb d_Rs_shortest_47 rfl (lv_at hl 1 rfl) ?_
        refine lv_iload hx hb d_Rs_shortest_48 (lv_at hl 6 rfl) ?_
        refine lv_iload hx hb d_Rs_shortest_50 (lv_at hl 7 rfl) ?_
        refine lv_isub hx hb d_Rs_shortest_52 ?_
        refine lv_iconst hx hb d_Rs_shortest_53 ic_1 ?_
        refine lv_iadd hx hb d_Rs_shortest_54 ?_
        refine lv_topi (fun x62 e_x62 => ?_)
        have h := lt_h e_x62 h
        refine va_put (D := D) (ci := 5) (C := R_Rs) (T := T_Rs) (N := 26) hx hb hT in_Rs ty_Rs tyok_Rs nm_Rs hown hK hP hD hS 2 rfl rfl 24 (by decide) (hT _ m_378) (fun _ h9 => h9) rfl (ty := .int) (by decide +kernel) rfl rfl (by decide : 24 < 26) d_Rs_shortest_55 (fun H locs hP hD hS => ?_)
        have hP : va_P D cls (gM cI cL cC ad X laid gone thr m1 m2 e1 e2 mi1 mi2 na1 na2 fa1 fa2 lets rlen rlaid rgone rthr were none_ beyo aN_49 bN_50 fN_51 lN__52 rN_53 pN twos_54 at_ rdig x62 good txt wri ra_56 rb_57 rfive_58 rleft_59 rright_60 rpart) H := hP
        have hD : va_D A (gM cI cL cC ad X laid gone thr m1 m2 e1 e2 mi1 mi2 na1 na2 fa1 fa2 lets rlen rlaid rgone rthr were none_ beyo aN_49 bN_50 fN_51 lN__52 rN_53 pN twos_54 at_ rdig x62 good txt wri ra_56 rb_57 rfive_58 rleft_59 rright_60 rpart) := hD
        refine lv_aload_n hx hb d_Rs_shortest_58 rfl (lv_at hl 1 rfl) ?_
        refine lv_aload_n hx hb d_Rs_shortest_59 rfl (lv_at hl 1 rfl) ?_
        refine va_get (D := D) (ci := 5) (C := R_Rs) (T := T_Rs) (N := 26) hx hb hT in_Rs hown hK hP 2 rfl rfl 24 (by decide) (hT _ m_378) (fun _ h9 => h9) rfl d_Rs_shortest_60 ?_
        obtain ⟨x63, e_x63, h⟩ := bd_o h
        refine q_GV (D := D) (A := A) (C := R_Rs) (b := ad 2) (As := [.int x62]) (rest := []) (n := 1) hx hb hml hown hts (c_Rs_scale l D A cI cL cC ad X laid gone thr m1 m2 e1 e2 mi1 mi2 na1 na2 fa1 fa2 lets rlen rlaid rgone rthr were none_ beyo aN_49 bN_50 fN_51 lN__52 rN_53 pN twos_54 at_ rdig x62 good txt wri ra_56 rb_57 rfive_58 rleft_59 rright_60 rpart n x62 x63 e_x63) rfl rfl m_354 m_355 m_356 m_357 m_318 (by decide +kernel) ⟨Nat.le_of_ble_eq_true rfl, Nat.le_of_ble_eq_true rfl⟩ (va_recv hK hP (ci := 5) rfl (q0 := 2) rfl) hNB hK hP hD hS rfl hl.1 rfl (Nat.le_of_ble_eq_true rfl) d_Rs_shortest_63 ⟨Nat.zero_le _, Nat.zero_le _⟩ (fun H locs hP hD hS => ?_)
        have hP : va_P D cls (gM cI cL cC ad X laid gone thr m1 m2 e1 e2 mi1 mi2 na1 na2 fa1 fa2 lets rlen rlaid rgone rthr were none_ beyo aN_49 x63.1 x63.2.1 lN__52 rN_53 pN x63.2.2.1 at_ rdig x62 good txt wri ra_56 x63.2.2.2.1 x63.2.2.2.2 rleft_59 rright_60 rpart) H := hP
        have hD : va_D A (gM cI cL cC ad X laid gone thr m1 m2 e1 e2 mi1 mi2 na1 na2 fa1 fa2 lets rlen rlaid rgone rthr were none_ beyo aN_49 x63.1 x63.2.1 lN__52 rN_53 pN x63.2.2.1 at_ rdig x62 good txt wri ra_56 x63.2.2.2.1 x63.2.2.2.2 rleft_59 rright_60 rpart) := hD
        refine lv_aload_n hx hb d_Rs_shortest_66 rfl (lv_at hl 1 rfl) ?_
        refine lv_lload hx hb d_Rs_shortest_67 (lv_at hl 4 rfl) ?_
        refine lv_iload hx hb d_Rs_shortest_69 (lv_at hl 5 rfl) ?_
        refine lv_lload hx hb d_Rs_shortest_71 (lv_at hl 0 rfl) ?_
        obtain ⟨x64, e_x64, h⟩ := bd_o h
        refine q_GV (D := D) (A := A) (C := R_Rs) (b := ad 2) (As := [.long x1, .int x2, .long x61]) (rest := []) (n := 3) hx hb hml hown hts (c_Rs_most l D A cI cL cC ad X laid gone thr m1 m2 e1 e2 mi1 mi2 na1 na2 fa1 fa2 lets rlen rlaid rgone rthr were none_ beyo aN_49 x63.1 x63.2.1 lN__52 rN_53 pN x63.2.2.1 at_ rdig x62 good txt wri ra_56 x63.2.2.2.1 x63.2.2.2.2 rleft_59 rright_60 rpart n x1 x2 x61 x64 e_x64) rfl rfl m_379 m_380 m_381 m_382 m_318 (by decide +kernel) ⟨Nat.le_of_ble_eq_true rfl, Nat.le_of_ble_eq_true rfl⟩ (va_recv hK hP (ci := 5) rfl (q0 := 2) rfl) hNB hK hP hD hS rfl hl.1 rfl (Nat.le_of_ble_eq_true rfl) d_Rs_shortest_73 ⟨Nat.zero_le _, Nat.zero_le _⟩ (fun H locs hP hD hS => ?_)
        have hP : va_P D cls (gM cI cL cC ad X laid gone thr m1 m2 e1 e2 mi1 mi2 na1 na2 fa1 fa2 lets rlen rlaid rgone rthr were none_ beyo x64.2.1 x63.1 x63.2.1 x64.2.2.1 x64.2.2.2.1 pN x63.2.2.1 at_ rdig x62 good txt wri x64.2.2.2.2.1 x63.2.2.2.1 x63.2.2.2.2 x64.2.2.2.2.2.1 x64.2.2.2.2.2.2 rpart) H := hP
        have hD : va_D A (gM cI cL cC ad X laid gone thr m1 m2 e1 e2 mi1 mi2 na1 na2 fa1 fa2 lets rlen rlaid rgone rthr were none_ beyo x64.2.1 x63.1 x63.2.1 x64.2.2.1 x64.2.2.2.1 pN x63.2.2.1 at_ rdig x62 good txt wri x64.2.2.2.2.1 x63.2.2.2.1 x63.2.2.2.2 x64.2.2.2.2.2.1 x64.2.2.2.2.2.2 rpart) := hD
        refine lv_lstore hx hb d_Rs_shortest_76 hl (by decide) rfl (fun ls hl => ?_)
        have hl : lv_has ls 16 [(11, .long x64.1), (6, .long x61), (0, .ref (ad 2)), (1, .long a1), (3, .int a2), (4, .long x1), (8, .int x2), (9, .int y47), (10, .int y48)] := hl
        refine lv_aload_n hx hb d_Rs_shortest_78 rfl (lv_at hl 2 rfl) ?_
        refine lv_lload hx hb d_Rs_shortest_79 (lv_at hl 0 rfl) ?_
        refine lv_lload_n hx hb d_Rs_shortest_81 rfl (lv_at hl 3 rfl) ?_
        refine lv_iload_n hx hb d_Rs_shortest_82 rfl (lv_at hl 4 rfl) ?_
        obtain ⟨x65, e_x65, h⟩ := bd_o h
        refine q_GV (D := D) (A := A) (C := R_Rs) (b := ad 2) (As := [.long x64.1, .long a1, .int a2]) (rest := []) (n := 3) hx hb hml hown hts (c_Rs_isRead l D A cI cL cC ad X laid gone thr m1 m2 e1 e2 mi1 mi2 na1 na2 fa1 fa2 lets rlen rlaid rgone rthr were none_ beyo x64.2.1 x63.1 x63.2.1 x64.2.2.1 x64.2.2.2.1 pN x63.2.2.1 at_ rdig x62 good txt wri x64.2.2.2.2.1 x63.2.2.2.1 x63.2.2.2.2 x64.2.2.2.2.2.1 x64.2.2.2.2.2.2 rpart n x64.1 a1 a2 x65 e_x65) rfl rfl m_383 m_384 m_385 m_386 m_318 (by decide +kernel) ⟨Nat.le_of_ble_eq_true rfl, Nat.le_of_ble_eq_true rfl⟩ (va_recv hK hP (ci := 5) rfl (q0 := 2) rfl) hNB hK hP hD hS rfl hl.1 rfl (Nat.le_of_ble_eq_true rfl) d_Rs_shortest_83 ⟨Nat.zero_le _, Nat.zero_le _⟩ (fun H locs hP hD hS => ?_)
        have hP : va_P D cls (gM cI cL cC ad X laid gone thr m1 m2 e1 e2 mi1 mi2 na1 na2 fa1 fa2 lets rlen rlaid rgone rthr were none_ beyo x65.2.1 x63.1 x63.2.1 x65.2.2.1 x65.2.2.2.1 pN x63.2.2.1 at_ rdig x62 good txt wri x65.2.2.2.2.1 x63.2.2.2.1 x63.2.2.2.2 x65.2.2.2.2.2.1 x65.2.2.2.2.2.2 rpart) H := hP
        have hD : va_D A (gM cI cL cC ad X laid gone thr m1 m2 e1 e2 mi1 mi2 na1 na2 fa1 fa2 lets rlen rlaid rgone rthr were none_ beyo x65.2.1 x63.1 x63.2.1 x65.2.2.1 x65.2.2.2.1 pN x63.2.2.1 at_ rdig x62 good txt wri x65.2.2.2.2.1 x63.2.2.2.1 x63.2.2.2.2 x65.2.2.2.2.2.1 x65.2.2.2.2.2.2 rpart) := hD
        refine lv_istore hx hb d_Rs_shortest_86 hl (by decide) rfl (fun ls hl => ?_)
        have hl : lv_has ls 16 [(13, .int x65.1), (11, .long x64.1), (6, .long x61), (0, .ref (ad 2)), (1, .long a1), (3, .int a2), (4, .long x1), (8, .int x2), (9, .int y47), (10, .int y48)] := hl
        refine lv_aload_n hx hb d_Rs_shortest_88 rfl (lv_at hl 3 rfl) ?_
        refine lv_lload hx hb d_Rs_shortest_89 (lv_at hl 1 rfl) ?_
        refine lv_lconst hx hb d_Rs_shortest_91 lc_1 ?_
        refine lv_ladd hx hb d_Rs_shortest_92 ?_
        refine lv_lload_n hx hb d_Rs_shortest_93 rfl (lv_at hl 4 rfl) ?_
        refine lv_iload_n hx hb d_Rs_shortest_94 rfl (lv_at hl 5 rfl) ?_
        obtain ⟨x66, e_x66, h⟩ := bd_o h
        refine q_GV (D := D) (A := A) (C := R_Rs) (b := ad 2) (As := [.long (x64.1 + (1 : Int64)), .long a1, .int a2]) (rest := []) (n := 3) hx hb hml hown hts (c_Rs_isRead l D A cI cL cC ad X laid gone thr m1 m2 e1 e2 mi1 mi2 na1 na2 fa1 fa2 lets rlen rlaid rgone rthr were none_ beyo x65.2.1 x63.1 x63.2.1 x65.2.2.1 x65.2.2.2.1 pN x63.2.2.1 at_ rdig x62 good txt wri x65.2.2.2.2.1 x63.2.2.2.1 x63.2.2.2.2 x65.2.2.2.2.2.1 x65.2.2.2.2.2.2 rpart n (x64.1 + (1 : Int64)) a1 a2 x66 e_x66) rfl rfl m_383 m_384 m_385 m_386 m_318 (by decide +kernel) ⟨Nat.le_of_ble_eq_true rfl, Nat.le_of_ble_eq_true rfl⟩ (va_recv hK hP (ci := 5) rfl (q0 := 2) rfl) hNB hK hP hD hS rfl hl.1 rfl (Nat.le_of_ble_eq_true rfl) d_Rs_shortest_95 ⟨Nat.zero_le _, Nat.zero_le _⟩ (fun H locs hP hD hS => ?_)
        have hP : va_P D cls (gM cI cL cC ad X laid gone thr m1 m2 e1 e2 mi1 mi2 na1 na2 fa1 fa2 lets rlen rlaid rgone rthr were none_ beyo x66.2.1 x63.1 x63.2.1 x66.2.2.1 x66.2.2.2.1 pN x63.2.2.1 at_ rdig x62 good txt wri x66.2.2.2.2.1 x63.2.2.2.1 x63.2.2.2.2 x66.2.2.2.2.2.1 x66.2.2.2.2.2.2 rpart) H := hP
        have hD : va_D A (gM cI cL cC ad X laid gone thr m1 m2 e1 e2 mi1 mi2 na1 na2 fa1 fa2 lets rlen rlaid rgone rthr were none_ beyo x66.2.1 x63.1 x63.2.1 x66.2.2.1 x66.2.2.2.1 pN x63.2.2.1 at_ rdig x62 good txt wri x66.2.2.2.2.1 x63.2.2.2.1 x63.2.2.2.2 x66.2.2.2.2.2.1 x66.2.2.2.2.2.2 rpart) := hD
        refine lv_istore hx hb d_Rs_shortest_98 hl (by decide) rfl (fun ls hl => ?_)
        have hl : lv_has ls 16 [(14, .int x66.1), (13, .int x65.1), (11, .long x64.1), (6, .long x61), (0, .ref (ad 2)), (1, .long a1), (3, .int a2), (4, .long x1), (8, .int x2), (9, .int y47), (10, .int y48)] := hl
        refine lv_iload hx hb d_Rs_shortest_100 (lv_at hl 1 rfl) ?_
        obtain ⟨j159, e_j159, h⟩ := lt_o h
        have hJ159 : ∀ (aN_67 : Int32) (bN_68 : Int32) (fN_69 : Int32) (lN__70 : Int32) (rN_71 : Int32) (twos_72 : Int32) (rpow_73 : Int32) (ra_74 : (Nat → Int32)) (rb_75 : (Nat → Int32)) (rfive_76 : (Nat → Int32)) (rleft_77 : (Nat → Int32)) (rright_78 : (Nat → Int32)) (ls : Array Slot) (H : Heap) (locs : List Loc), lv_has ls 16 [(0, .ref (ad 2)), (1, .long a1), (3, .int a2), (4, .long x1), (6, .long x61), (8, .int x2), (9, .int y47), (10, .int y48), (11, .long x64.1), (13, .int x65.1), (14, .int x66.1)] → va_P D cls (gM cI cL cC ad X laid gone thr m1 m2 e1 e2 mi1 mi2 na1 na2 fa1 fa2 lets rlen rlaid rgone rthr were none_ beyo aN_67 bN_68 fN_69 lN__70 rN_71 pN twos_72 at_ rdig rpow_73 good txt wri ra_74 rb_75 rfive_76 rleft_77 rright_78 rpart) H → va_D A (gM cI cL cC ad X laid gone thr m1 m2 e1 e2 mi1 mi2 na1 na2 fa1 fa2 lets rlen rlaid rgone rthr were none_ beyo aN_67 bN_68 fN_69 lN__70 rN_71 pN twos_72 at_ rdig rpow_73 good txt wri ra_74 rb_75 rfive_76 rleft_77 rright_78 rpart) → va_S A s.heap H locs → j159 aN_67 bN_68 fN_69 lN__70 rN_71 twos_72 rpow_73 ra_74 rb_75 rfive_76 rleft_77 rright_78 = some r → W p l e ({ frames := 6, cells := 0, slots := 0, locals := 156 } : Room) s m args below meth c H locs 0 0 Q (F0 m 159 ls []) := by
          intro aN_67 bN_68 fN_69 lN__70 rN_71 twos_72 rpow_73 ra_74 rb_75 rfive_76 rleft_77 rright_78 ls H locs hl hP hD hS h
          rw [e_j159] at h
          refine lv_iload hx hb d_Rs_shortest_159 (lv_at hl 9 rfl) ?_
          refine lv_if_ne (tgt := 169) hx hb d_Rs_shortest_161 rfl (fun hc => ?_) (fun hc => ?_)
          · have h := ite_t hc h
            exact hJ169 _ _ _ _ _ _ _ _ _ _ _ _ _ _ ls _ _ (lv_sub hl [8, 9] rfl) hP hD hS h
          · have hc := not_not_intro hc
            have h := ite_f hc h
            refine lv_iload hx hb d_Rs_shortest_164 (lv_at hl 10 rfl) ?_
            refine lv_if_eq (tgt := 184) hx hb d_Rs_shortest_166 rfl (fun hc => ?_) (fun hc => ?_)
            · have h := ite_t hc h
              obtain ⟨x79, e_x79⟩ : ∃ z, z = y48 + Int32.ofInt 1 := ⟨_, rfl⟩
              have h := lt_h e_x79 h
              refine lv_iinc (k := 7) hx hb d_Rs_shortest_184 hl rfl e_x79.symm (by decide) rfl (fun ls hl => ?_)
              have hl : lv_has ls 16 [(10, .int x79), (0, .ref (ad 2)), (1, .long a1), (3, .int a2), (4, .long x1), (6, .long x61), (8, .int x2), (9, .int y47), (11, .long x64.1), (13, .int x65.1), (14, .int x66.1)] := hl
              refine lv_goto (tgt := 32) hx hb d_Rs_shortest_187 rfl ?_
              exact ih _ _ _ _ _ _ _ _ _ _ _ _ _ _ _ ls _ _ (lv_sub hl [1, 2, 3, 4, 5, 6, 7, 0] rfl) hP hD hS h
            · have h := ite_f hc h
              exact hJ169 _ _ _ _ _ _ _ _ _ _ _ _ _ _ ls _ _ (lv_sub hl [8, 9] rfl) hP hD hS h
        refine lv_if_eq (tgt := 159) hx hb d_Rs_shortest_102 rfl (fun hc => ?_) (fun hc => ?_)
        · have h := ite_t hc h
          exact hJ159 _ _ _ _ _ _ _ _ _ _ _ _ ls _ _ (lv_sub hl [4, 5, 6, 7, 3, 8, 9, 10, 2, 1, 0] rfl) hP hD hS h
        · have h := ite_f hc h
          refine lv_iload hx hb d_Rs_shortest_105 (lv_at hl 0 rfl) ?_
          refine lv_if_eq (tgt := 159) hx hb d_Rs_shortest_107 rfl (fun hc => ?_) (fun hc => ?_)
          · have h := ite_t hc h
            exact hJ159 _ _ _ _ _ _ _ _ _ _ _ _ ls _ _ (lv_sub hl [4, 5, 6, 7, 3, 8, 9, 10, 2, 1, 0] rfl) hP hD hS h
          · have h := ite_f hc h
            exact hJ110 _ _ _ _ _ _ _ _ _ _ _ _ _ ls _ _ (lv_sub hl [4, 7, 8, 2] rfl) hP hD hS h
  exact hL32 n _ _ _ _ _ _ _ _ _ _ _ _ _ _ _ ls _ _ (lv_sub hl [5, 6, 7, 4, 3, 2, 1, 0] rfl) hP hD hS h
-- Rs_layDigits
theorem d_Rs_layDigits_0 : decode b_Rs_layDigits 0 = .ok (.iload_n 3, 1) := by decide +kernel
theorem d_Rs_layDigits_1 : decode b_Rs_layDigits 1 = .ok (.istore 6, 2) := by decide +kernel
theorem d_Rs_layDigits_3 : decode b_Rs_layDigits 3 = .ok (.iload 6, 2) := by decide +kernel
theorem d_Rs_layDigits_5 : decode b_Rs_layDigits 5 = .ok (.iload 4, 2) := by decide +kernel
theorem d_Rs_layDigits_7 : decode b_Rs_layDigits 7 = .ok (.if_icmp .ge 68, 3) := by decide +kernel
theorem d_Rs_layDigits_10 : decode b_Rs_layDigits 10 = .ok (.lconst 1, 1) := by decide +kernel
theorem d_Rs_layDigits_11 : decode b_Rs_layDigits 11 = .ok (.lstore 7, 2) := by decide +kernel
theorem d_Rs_layDigits_13 : decode b_Rs_layDigits 13 = .ok (.iload 6, 2) := by decide +kernel
theorem d_Rs_layDigits_15 : decode b_Rs_layDigits 15 = .ok (.iconst 1, 1) := by decide +kernel
theorem d_Rs_layDigits_16 : decode b_Rs_layDigits 16 = .ok (.iadd, 1) := by decide +kernel
theorem d_Rs_layDigits_17 : decode b_Rs_layDigits 17 = .ok (.istore 9, 2) := by decide +kernel
theorem d_Rs_layDigits_19 : decode b_Rs_layDigits 19 = .ok (.iload 9, 2) := by decide +kernel
theorem d_Rs_layDigits_21 : decode b_Rs_layDigits 21 = .ok (.iload 5, 2) := by decide +kernel
theorem d_Rs_layDigits_23 : decode b_Rs_layDigits 23 = .ok (.if_icmp .ge 17, 3) := by decide +kernel
theorem d_Rs_layDigits_26 : decode b_Rs_layDigits 26 = .ok (.lload 7, 2) := by decide +kernel
theorem d_Rs_layDigits_28 : decode b_Rs_layDigits 28 = .ok (.ldc2_w 182, 3) := by decide +kernel
theorem d_Rs_layDigits_31 : decode b_Rs_layDigits 31 = .ok (.lmul, 1) := by decide +kernel
theorem d_Rs_layDigits_32 : decode b_Rs_layDigits 32 = .ok (.lstore 7, 2) := by decide +kernel
theorem d_Rs_layDigits_34 : decode b_Rs_layDigits 34 = .ok (.iinc 9 1, 3) := by decide +kernel
theorem d_Rs_layDigits_37 : decode b_Rs_layDigits 37 = .ok (.goto (-18), 3) := by decide +kernel
theorem d_Rs_layDigits_40 : decode b_Rs_layDigits 40 = .ok (.aload_n 0, 1) := by decide +kernel
theorem d_Rs_layDigits_41 : decode b_Rs_layDigits 41 = .ok (.iload 6, 2) := by decide +kernel
theorem d_Rs_layDigits_43 : decode b_Rs_layDigits 43 = .ok (.iload 5, 2) := by decide +kernel
theorem d_Rs_layDigits_45 : decode b_Rs_layDigits 45 = .ok (.if_icmp .ge 19, 3) := by decide +kernel
theorem d_Rs_layDigits_48 : decode b_Rs_layDigits 48 = .ok (.ldc2_w 195, 3) := by decide +kernel
theorem d_Rs_layDigits_51 : decode b_Rs_layDigits 51 = .ok (.lload_n 1, 1) := by decide +kernel
theorem d_Rs_layDigits_52 : decode b_Rs_layDigits 52 = .ok (.lload 7, 2) := by decide +kernel
theorem d_Rs_layDigits_54 : decode b_Rs_layDigits 54 = .ok (.ldiv, 1) := by decide +kernel
theorem d_Rs_layDigits_55 : decode b_Rs_layDigits 55 = .ok (.ldc2_w 182, 3) := by decide +kernel
theorem d_Rs_layDigits_58 : decode b_Rs_layDigits 58 = .ok (.lrem, 1) := by decide +kernel
theorem d_Rs_layDigits_59 : decode b_Rs_layDigits 59 = .ok (.ladd, 1) := by decide +kernel
theorem d_Rs_layDigits_60 : decode b_Rs_layDigits 60 = .ok (.l2i, 1) := by decide +kernel
theorem d_Rs_layDigits_61 : decode b_Rs_layDigits 61 = .ok (.goto 5, 3) := by decide +kernel
theorem d_Rs_layDigits_64 : decode b_Rs_layDigits 64 = .ok (.bipush 48, 2) := by decide +kernel
theorem d_Rs_layDigits_66 : decode b_Rs_layDigits 66 = .ok (.invokevirtual 197, 3) := by decide +kernel
theorem d_Rs_layDigits_69 : decode b_Rs_layDigits 69 = .ok (.iinc 6 1, 3) := by decide +kernel
theorem d_Rs_layDigits_72 : decode b_Rs_layDigits 72 = .ok (.goto (-69), 3) := by decide +kernel
theorem d_Rs_layDigits_75 : decode b_Rs_layDigits 75 = .ok (.return_, 1) := by decide +kernel
def F_Rs_layDigits_L19 (a1 : Int64) (a3 : Int32) (a4 : Int32) (y3 : Int32) (j40 : (Int64 → Int32 → (Nat → Int32) → Option (Int32 × (Nat → Int32)))) : Nat → Int64 → Int32 → Int32 → (Nat → Int32) → Option (Int32 × (Nat → Int32))
  | 0, _, _, _, _ => none
  | n+1, y15, y16, rlaid_17, wri_18 => if a4 ≤ y16 then (j40 y15 rlaid_17 wri_18) else (lt_ (y15 * (10 : Int64)) fun x19 => lt_ (y16 + Int32.ofInt 1) fun x20 => F_Rs_layDigits_L19 a1 a3 a4 y3 j40 n x19 x20 rlaid_17 wri_18)
def F_Rs_layDigits_L3 (a1 : Int64) (a3 : Int32) (a4 : Int32) (j75 : (Int32 → (Nat → Int32) → Option (Int32 × (Nat → Int32)))) : Nat → Int32 → Int32 → (Nat → Int32) → Option (Int32 × (Nat → Int32))
  | 0, _, _, _ => none
  | n+1, y3, rlaid_4, wri_5 => if a3 ≤ y3 then (j75 rlaid_4 wri_5) else (lt_ (y3 + (1 : Int32)) fun x6 => lt_ (fun (y7 : Int64) (rlaid_8 : Int32) (wri_9 : (Nat → Int32)) => lt_ (fun (y10 : Int32) (rlaid_11 : Int32) (wri_12 : (Nat → Int32)) => (F_Rs_lay n rlaid_11 wri_12 y10).bind fun x13 => lt_ (y3 + Int32.ofInt 1) fun x14 => F_Rs_layDigits_L3 a1 a3 a4 j75 n x14 x13.1 x13.2) fun j66 => if a4 ≤ y3 then (j66 (48 : Int32) rlaid_8 wri_9) else (gz_ (y7 = 0) <| j66 (((48 : Int64) + ((a1 / y7) - (a1 / y7) / (10 : Int64) * (10 : Int64))).toInt32) rlaid_8 wri_9)) fun j40 => F_Rs_layDigits_L19 a1 a3 a4 y3 j40 n (1 : Int64) x6 rlaid_4 wri_5)
def F_Rs_layDigits (n : Nat) (rlaid : Int32) (wri : Nat → Int32) (a1 : Int64) (a2 : Int32) (a3 : Int32) (a4 : Int32) : Option (Int32 × (Nat → Int32)) := lt_ (fun (rlaid_1 : Int32) (wri_2 : (Nat → Int32)) => some (rlaid_1, wri_2)) fun j75 => F_Rs_layDigits_L3 a1 a3 a4 j75 n a2 rlaid wri
set_option maxHeartbeats 4000000 in
set_option maxRecDepth 100000 in
theorem c_Rs_layDigits (l : Launch) (D : va_G) (A : Nat → Prop) (cI cL cC : ClassId) (ad : Nat → Nat) (X : va_W) (laid : Int32) (gone : Int32) (thr : Int32) (m1 : Int64) (m2 : Int64) (e1 : Int32) (e2 : Int32) (mi1 : Int32) (mi2 : Int32) (na1 : Int32) (na2 : Int32) (fa1 : Int32) (fa2 : Int32) (lets : Nat → Int32) (rlen : Int32) (rlaid : Int32) (rgone : Int32) (rthr : Int32) (were : Int32) (none_ : Int32) (beyo : Int32) (aN : Int32) (bN : Int32) (fN : Int32) (lN_ : Int32) (rN : Int32) (pN : Int32) (twos : Int32) (at_ : Int32) (rdig : Int32) (rpow : Int32) (good : Int32) (txt : Nat → Int32) (wri : Nat → Int32) (ra : Nat → Int32) (rb : Nat → Int32) (rfive : Nat → Int32) (rleft : Nat → Int32) (rright : Nat → Int32) (rpart : Nat → Int32) (n : Nat) (a1 : Int64) (a2 : Int32) (a3 : Int32) (a4 : Int32) (r : Int32 × (Nat → Int32)) (h : F_Rs_layDigits n rlaid wri a1 a2 a3 a4 = some r) : Met l y_Rs_layDigits (.code y_Rs_layDigits b_Rs_layDigits 10 none :: BIG) ({ frames := 1, cells := 0, slots := 0, locals := 21 } : Room) (va_Pc [.ref (ad 2), .long a1, .int a2, .int a3, .int a4] (gPre D A (tysV cI cL cC) (gM cI cL cC ad X laid gone thr m1 m2 e1 e2 mi1 mi2 na1 na2 fa1 fa2 lets rlen rlaid rgone rthr were none_ beyo aN bN fN lN_ rN pN twos at_ rdig rpow good txt wri ra rb rfive rleft rright rpart))) (gQ D A none (gM cI cL cC ad X laid gone thr m1 m2 e1 e2 mi1 mi2 na1 na2 fa1 fa2 lets rlen r.1 rgone rthr were none_ beyo aN bN fN lN_ rN pN twos at_ rdig rpow good txt r.2 ra rb rfive rleft rright rpart)) 0 0 A := by
  refine gOpen_v rfl (Nat.le_of_ble_eq_true rfl) ?_
  intro p e s m args below meth c Q ls hx hb hml hown hts hT hNB hP hK hD hl hret
  have hown : s.vm.findClass R_Rs = some m.cls := hown
  have hS : va_S A s.heap s.heap [] := va_S.rf
  have hl : lv_has ls 10 [(0, .ref (ad 2)), (1, .long a1), (3, .int a2), (4, .int a3), (5, .int a4)] := hl
  have h : (lt_ (fun (rlaid_1 : Int32) (wri_2 : (Nat → Int32)) => some (rlaid_1, wri_2)) fun j75 => F_Rs_layDigits_L3 a1 a3 a4 j75 n a2 rlaid wri) = some r := h
  refine lv_iload_n hx hb d_Rs_layDigits_0 rfl (lv_at hl 2 rfl) ?_
  refine lv_istore hx hb d_Rs_layDigits_1 hl (by decide) rfl (fun ls hl => ?_)
  have hl : lv_has ls 10 [(6, .int a2), (0, .ref (ad 2)), (1, .long a1), (3, .int a2), (4, .int a3), (5, .int a4)] := hl
  obtain ⟨j75, e_j75, h⟩ := lt_o h
  have hJ75 : ∀ (rlaid_1 : Int32) (wri_2 : (Nat → Int32)) (ls : Array Slot) (H : Heap) (locs : List Loc), lv_has ls 10 [] → va_P D cls (gM cI cL cC ad X laid gone thr m1 m2 e1 e2 mi1 mi2 na1 na2 fa1 fa2 lets rlen rlaid_1 rgone rthr were none_ beyo aN bN fN lN_ rN pN twos at_ rdig rpow good txt wri_2 ra rb rfive rleft rright rpart) H → va_D A (gM cI cL cC ad X laid gone thr m1 m2 e1 e2 mi1 mi2 na1 na2 fa1 fa2 lets rlen rlaid_1 rgone rthr were none_ beyo aN bN fN lN_ rN pN twos at_ rdig rpow good txt wri_2 ra rb rfive rleft rright rpart) → va_S A s.heap H locs → j75 rlaid_1 wri_2 = some r → W p l e ({ frames := 1, cells := 0, slots := 0, locals := 21 } : Room) s m args below meth c H locs 0 0 Q (F0 m 75 ls []) := by
    intro rlaid_1 wri_2 ls H locs hl hP hD hS h
    rw [e_j75] at h
    obtain rfl := Option.some.inj h
    exact hret 75 ls _ _ hP hD hS d_Rs_layDigits_75
  have hL3 : ∀ (n : Nat) (y3 : Int32) (rlaid_4 : Int32) (wri_5 : (Nat → Int32)) (ls : Array Slot) (H : Heap) (locs : List Loc), lv_has ls 10 [(0, .ref (ad 2)), (1, .long a1), (4, .int a3), (5, .int a4), (6, .int y3)] → va_P D cls (gM cI cL cC ad X laid gone thr m1 m2 e1 e2 mi1 mi2 na1 na2 fa1 fa2 lets rlen rlaid_4 rgone rthr were none_ beyo aN bN fN lN_ rN pN twos at_ rdig rpow good txt wri_5 ra rb rfive rleft rright rpart) H → va_D A (gM cI cL cC ad X laid gone thr m1 m2 e1 e2 mi1 mi2 na1 na2 fa1 fa2 lets rlen rlaid_4 rgone rthr were none_ beyo aN bN fN lN_ rN pN twos at_ rdig rpow good txt wri_5 ra rb rfive rleft rright rpart) → va_S A s.heap H locs → F_Rs_layDigits_L3 a1 a3 a4 j75 n y3 rlaid_4 wri_5 = some r → W p l e ({ frames := 1, cells := 0, slots := 0, locals := 21 } : Room) s m args below meth c H locs 0 0 Q (F0 m 3 ls []) := by
    intro n
    induction n with
    | zero => intro y3 rlaid_4 wri_5 ls H locs hl hP hD hS h; exact no_s h
    | succ n ih =>
      intro y3 rlaid_4 wri_5 ls H locs hl hP hD hS h
      have h : (if a3 ≤ y3 then (j75 rlaid_4 wri_5) else (lt_ (y3 + (1 : Int32)) fun x6 => lt_ (fun (y7 : Int64) (rlaid_8 : Int32) (wri_9 : (Nat → Int32)) => lt_ (fun (y10 : Int32) (rlaid_11 : Int32) (wri_12 : (Nat → Int32)) => (F_Rs_lay n rlaid_11 wri_12 y10).bind fun x13 => lt_ (y3 + Int32.ofInt 1) fun x14 => F_Rs_layDigits_L3 a1 a3 a4 j75 n x14 x13.1 x13.2) fun j66 => if a4 ≤ y3 then (j66 (48 : Int32) rlaid_8 wri_9) else (gz_ (y7 = 0) <| j66 (((48 : Int64) + ((a1 / y7) - (a1 / y7) / (10 : Int64) * (10 : Int64))).toInt32) rlaid_8 wri_9)) fun j40 => F_Rs_layDigits_L19 a1 a3 a4 y3 j40 n (1 : Int64) x6 rlaid_4 wri_5)) = some r := h
      refine lv_iload hx hb d_Rs_layDigits_3 (lv_at hl 4 rfl) ?_
      refine lv_iload hx hb d_Rs_layDigits_5 (lv_at hl 2 rfl) ?_
      refine lv_icmp_ge (tgt := 75) hx hb d_Rs_layDigits_7 rfl (fun hc => ?_) (fun hc => ?_)
      · have h := ite_t hc h
        exact hJ75 _ _ ls _ _ (lv_sub hl [] rfl) hP hD hS h
      · have h := ite_f hc h
        refine lv_lconst hx hb d_Rs_layDigits_10 lc_1 ?_
        refine lv_lstore hx hb d_Rs_layDigits_11 hl (by decide) rfl (fun ls hl => ?_)
        have hl : lv_has ls 10 [(7, .long (1 : Int64)), (0, .ref (ad 2)), (1, .long a1), (4, .int a3), (5, .int a4), (6, .int y3)] := hl
        refine lv_iload hx hb d_Rs_layDigits_13 (lv_at hl 5 rfl) ?_
        refine lv_iconst hx hb d_Rs_layDigits_15 ic_1 ?_
        refine lv_iadd hx hb d_Rs_layDigits_16 ?_
        refine lv_topi (fun x6 e_x6 => ?_)
        have h := lt_h e_x6 h
        refine lv_istore hx hb d_Rs_layDigits_17 hl (by decide) rfl (fun ls hl => ?_)
        have hl : lv_has ls 10 [(9, .int x6), (7, .long (1 : Int64)), (0, .ref (ad 2)), (1, .long a1), (4, .int a3), (5, .int a4), (6, .int y3)] := hl
        obtain ⟨j40, e_j40, h⟩ := lt_o h
        have hJ40 : ∀ (y7 : Int64) (rlaid_8 : Int32) (wri_9 : (Nat → Int32)) (ls : Array Slot) (H : Heap) (locs : List Loc), lv_has ls 10 [(0, .ref (ad 2)), (1, .long a1), (4, .int a3), (5, .int a4), (6, .int y3), (7, .long y7)] → va_P D cls (gM cI cL cC ad X laid gone thr m1 m2 e1 e2 mi1 mi2 na1 na2 fa1 fa2 lets rlen rlaid_8 rgone rthr were none_ beyo aN bN fN lN_ rN pN twos at_ rdig rpow good txt wri_9 ra rb rfive rleft rright rpart) H → va_D A (gM cI cL cC ad X laid gone thr m1 m2 e1 e2 mi1 mi2 na1 na2 fa1 fa2 lets rlen rlaid_8 rgone rthr were none_ beyo aN bN fN lN_ rN pN twos at_ rdig rpow good txt wri_9 ra rb rfive rleft rright rpart) → va_S A s.heap H locs → j40 y7 rlaid_8 wri_9 = some r → W p l e ({ frames := 1, cells := 0, slots := 0, locals := 21 } : Room) s m args below meth c H locs 0 0 Q (F0 m 40 ls []) := by
          intro y7 rlaid_8 wri_9 ls H locs hl hP hD hS h
          rw [e_j40] at h
          refine lv_aload_n hx hb d_Rs_layDigits_40 rfl (lv_at hl 0 rfl) ?_
          refine lv_iload hx hb d_Rs_layDigits_41 (lv_at hl 4 rfl) ?_
          refine lv_iload hx hb d_Rs_layDigits_43 (lv_at hl 3 rfl) ?_
          obtain ⟨j66, e_j66, h⟩ := lt_o h
          have hJ66 : ∀ (y10 : Int32) (rlaid_11 : Int32) (wri_12 : (Nat → Int32)) (ls : Array Slot) (H : Heap) (locs : List Loc), lv_has ls 10 [(0, .ref (ad 2)), (1, .long a1), (4, .int a3), (5, .int a4), (6, .int y3)] → va_P D cls (gM cI cL cC ad X laid gone thr m1 m2 e1 e2 mi1 mi2 na1 na2 fa1 fa2 lets rlen rlaid_11 rgone rthr were none_ beyo aN bN fN lN_ rN pN twos at_ rdig rpow good txt wri_12 ra rb rfive rleft rright rpart) H → va_D A (gM cI cL cC ad X laid gone thr m1 m2 e1 e2 mi1 mi2 na1 na2 fa1 fa2 lets rlen rlaid_11 rgone rthr were none_ beyo aN bN fN lN_ rN pN twos at_ rdig rpow good txt wri_12 ra rb rfive rleft rright rpart) → va_S A s.heap H locs → j66 y10 rlaid_11 wri_12 = some r → W p l e ({ frames := 1, cells := 0, slots := 0, locals := 21 } : Room) s m args below meth c H locs 0 0 Q (F0 m 66 ls [.int y10, .ref (ad 2)]) := by
            intro y10 rlaid_11 wri_12 ls H locs hl hP hD hS h
            rw [e_j66] at h
            obtain ⟨x13, e_x13, h⟩ := bd_o h
            refine q_GV (D := D) (A := A) (C := R_Rs) (b := ad 2) (As := [.int y10]) (rest := []) (n := 1) hx hb hml hown hts (c_Rs_lay l D A cI cL cC ad X laid gone thr m1 m2 e1 e2 mi1 mi2 na1 na2 fa1 fa2 lets rlen rlaid_11 rgone rthr were none_ beyo aN bN fN lN_ rN pN twos at_ rdig rpow good txt wri_12 ra rb rfive rleft rright rpart n y10 x13 e_x13) rfl rfl m_314 m_315 m_316 m_317 m_318 (by decide +kernel) ⟨Nat.le_of_ble_eq_true rfl, Nat.le_of_ble_eq_true rfl⟩ (va_recv hK hP (ci := 5) rfl (q0 := 2) rfl) hNB hK hP hD hS rfl hl.1 rfl (Nat.le_of_ble_eq_true rfl) d_Rs_layDigits_66 ⟨Nat.zero_le _, Nat.zero_le _⟩ (fun H locs hP hD hS => ?_)
            have hP : va_P D cls (gM cI cL cC ad X laid gone thr m1 m2 e1 e2 mi1 mi2 na1 na2 fa1 fa2 lets rlen x13.1 rgone rthr were none_ beyo aN bN fN lN_ rN pN twos at_ rdig rpow good txt x13.2 ra rb rfive rleft rright rpart) H := hP
            have hD : va_D A (gM cI cL cC ad X laid gone thr m1 m2 e1 e2 mi1 mi2 na1 na2 fa1 fa2 lets rlen x13.1 rgone rthr were none_ beyo aN bN fN lN_ rN pN twos at_ rdig rpow good txt x13.2 ra rb rfive rleft rright rpart) := hD
            obtain ⟨x14, e_x14⟩ : ∃ z, z = y3 + Int32.ofInt 1 := ⟨_, rfl⟩
            have h := lt_h e_x14 h
            refine lv_iinc (k := 4) hx hb d_Rs_layDigits_69 hl rfl e_x14.symm (by decide) rfl (fun ls hl => ?_)
            have hl : lv_has ls 10 [(6, .int x14), (0, .ref (ad 2)), (1, .long a1), (4, .int a3), (5, .int a4)] := hl
            refine lv_goto (tgt := 3) hx hb d_Rs_layDigits_72 rfl ?_
            exact ih _ _ _ ls _ _ (lv_sub hl [1, 2, 3, 4, 0] rfl) hP hD hS h
          refine lv_icmp_ge (tgt := 64) hx hb d_Rs_layDigits_45 rfl (fun hc => ?_) (fun hc => ?_)
          · have h := ite_t hc h
            refine lv_bipush hx hb d_Rs_layDigits_64 bp_48 ?_
            exact hJ66 _ _ _ ls _ _ (lv_sub hl [0, 1, 2, 3, 4] rfl) hP hD hS h
          · have h := ite_f hc h
            refine lv_ldc2 hx hb hown (hT _ m_387) d_Rs_layDigits_48 ?_
            refine lv_lload_n hx hb d_Rs_layDigits_51 rfl (lv_at hl 1 rfl) ?_
            refine lv_lload hx hb d_Rs_layDigits_52 (lv_at hl 5 rfl) ?_
            have hz := gz_n h
            have h := gz_h h
            refine lv_ldiv hx hb d_Rs_layDigits_54 hz ?_
            refine lv_ldc2 hx hb hown (hT _ m_373) d_Rs_layDigits_55 ?_
            refine lv_lrem hx hb d_Rs_layDigits_58 (by decide) ?_
            refine lv_ladd hx hb d_Rs_layDigits_59 ?_
            refine lv_l2i hx hb d_Rs_layDigits_60 rfl ?_
            refine lv_goto (tgt := 66) hx hb d_Rs_layDigits_61 rfl ?_
            exact hJ66 _ _ _ ls _ _ (lv_sub hl [0, 1, 2, 3, 4] rfl) hP hD hS h
        have hL19 : ∀ (n : Nat) (y15 : Int64) (y16 : Int32) (rlaid_17 : Int32) (wri_18 : (Nat → Int32)) (ls : Array Slot) (H : Heap) (locs : List Loc), lv_has ls 10 [(0, .ref (ad 2)), (1, .long a1), (4, .int a3), (5, .int a4), (6, .int y3), (7, .long y15), (9, .int y16)] → va_P D cls (gM cI cL cC ad X laid gone thr m1 m2 e1 e2 mi1 mi2 na1 na2 fa1 fa2 lets rlen rlaid_17 rgone rthr were none_ beyo aN bN fN lN_ rN pN twos at_ rdig rpow good txt wri_18 ra rb rfive rleft rright rpart) H → va_D A (gM cI cL cC ad X laid gone thr m1 m2 e1 e2 mi1 mi2 na1 na2 fa1 fa2 lets rlen rlaid_17 rgone rthr were none_ beyo aN bN fN lN_ rN pN twos at_ rdig rpow good txt wri_18 ra rb rfive rleft rright rpart) → va_S A s.heap H locs → F_Rs_layDigits_L19 a1 a3 a4 y3 j40 n y15 y16 rlaid_17 wri_18 = some r → W p l e ({ frames := 1, cells := 0, slots := 0, locals := 21 } : Room) s m args below meth c H locs 0 0 Q (F0 m 19 ls []) := by
          intro n
          induction n with
          | zero => intro y15 y16 rlaid_17 wri_18 ls H locs hl hP hD hS h; exact no_s h
          | succ n ih =>
            intro y15 y16 rlaid_17 wri_18 ls H locs hl hP hD hS h
            have h : (if a4 ≤ y16 then (j40 y15 rlaid_17 wri_18) else (lt_ (y15 * (10 : Int64)) fun x19 => lt_ (y16 + Int32.ofInt 1) fun x20 => F_Rs_layDigits_L19 a1 a3 a4 y3 j40 n x19 x20 rlaid_17 wri_18)) = some r := h
            refine lv_iload hx hb d_Rs_layDigits_19 (lv_at hl 6 rfl) ?_
            refine lv_iload hx hb d_Rs_layDigits_21 (lv_at hl 3 rfl) ?_
            refine lv_icmp_ge (tgt := 40) hx hb d_Rs_layDigits_23 rfl (fun hc => ?_) (fun hc => ?_)
            · have h := ite_t hc h
              exact hJ40 _ _ _ ls _ _ (lv_sub hl [0, 1, 2, 3, 4, 5] rfl) hP hD hS h
            · have h := ite_f hc h
              refine lv_lload hx hb d_Rs_layDigits_26 (lv_at hl 5 rfl) ?_
              refine lv_ldc2 hx hb hown (hT _ m_373) d_Rs_layDigits_28 ?_
              refine lv_lmul hx hb d_Rs_layDigits_31 ?_
              refine lv_topl (fun x19 e_x19 => ?_)
              have h := lt_h e_x19 h
              refine lv_lstore hx hb d_Rs_layDigits_32 hl (by decide) rfl (fun ls hl => ?_)
              have hl : lv_has ls 10 [(7, .long x19), (0, .ref (ad 2)), (1, .long a1), (4, .int a3), (5, .int a4), (6, .int y3), (9, .int y16)] := hl
              obtain ⟨x20, e_x20⟩ : ∃ z, z = y16 + Int32.ofInt 1 := ⟨_, rfl⟩
              have h := lt_h e_x20 h
              refine lv_iinc (k := 6) hx hb d_Rs_layDigits_34 hl rfl e_x20.symm (by decide) rfl (fun ls hl => ?_)
              have hl : lv_has ls 10 [(9, .int x20), (7, .long x19), (0, .ref (ad 2)), (1, .long a1), (4, .int a3), (5, .int a4), (6, .int y3)] := hl
              refine lv_goto (tgt := 19) hx hb d_Rs_layDigits_37 rfl ?_
              exact ih _ _ _ _ ls _ _ (lv_sub hl [2, 3, 4, 5, 6, 1, 0] rfl) hP hD hS h
        exact hL19 n _ _ _ _ ls _ _ (lv_sub hl [2, 3, 4, 5, 6, 1, 0] rfl) hP hD hS h
  exact hL3 n _ _ _ ls _ _ (lv_sub hl [1, 2, 4, 5, 0] rfl) hP hD hS h
-- Rs_layNumber
theorem d_Rs_layNumber_0 : decode b_Rs_layNumber 0 = .ok (.iconst 1, 1) := by decide +kernel
theorem d_Rs_layNumber_1 : decode b_Rs_layNumber 1 = .ok (.istore_n 2, 1) := by decide +kernel
theorem d_Rs_layNumber_2 : decode b_Rs_layNumber 2 = .ok (.iload_n 1, 1) := by decide +kernel
theorem d_Rs_layNumber_3 : decode b_Rs_layNumber 3 = .ok (.iload_n 2, 1) := by decide +kernel
theorem d_Rs_layNumber_4 : decode b_Rs_layNumber 4 = .ok (.idiv, 1) := by decide +kernel
theorem d_Rs_layNumber_5 : decode b_Rs_layNumber 5 = .ok (.bipush 9, 2) := by decide +kernel
theorem d_Rs_layNumber_7 : decode b_Rs_layNumber 7 = .ok (.if_icmp .le 11, 3) := by decide +kernel
theorem d_Rs_layNumber_10 : decode b_Rs_layNumber 10 = .ok (.iload_n 2, 1) := by decide +kernel
theorem d_Rs_layNumber_11 : decode b_Rs_layNumber 11 = .ok (.bipush 10, 2) := by decide +kernel
theorem d_Rs_layNumber_13 : decode b_Rs_layNumber 13 = .ok (.imul, 1) := by decide +kernel
theorem d_Rs_layNumber_14 : decode b_Rs_layNumber 14 = .ok (.istore_n 2, 1) := by decide +kernel
theorem d_Rs_layNumber_15 : decode b_Rs_layNumber 15 = .ok (.goto (-13), 3) := by decide +kernel
theorem d_Rs_layNumber_18 : decode b_Rs_layNumber 18 = .ok (.iload_n 2, 1) := by decide +kernel
theorem d_Rs_layNumber_19 : decode b_Rs_layNumber 19 = .ok (.ifCond .le 24, 3) := by decide +kernel
theorem d_Rs_layNumber_22 : decode b_Rs_layNumber 22 = .ok (.aload_n 0, 1) := by decide +kernel
theorem d_Rs_layNumber_23 : decode b_Rs_layNumber 23 = .ok (.bipush 48, 2) := by decide +kernel
theorem d_Rs_layNumber_25 : decode b_Rs_layNumber 25 = .ok (.iload_n 1, 1) := by decide +kernel
theorem d_Rs_layNumber_26 : decode b_Rs_layNumber 26 = .ok (.iload_n 2, 1) := by decide +kernel
theorem d_Rs_layNumber_27 : decode b_Rs_layNumber 27 = .ok (.idiv, 1) := by decide +kernel
theorem d_Rs_layNumber_28 : decode b_Rs_layNumber 28 = .ok (.bipush 10, 2) := by decide +kernel
theorem d_Rs_layNumber_30 : decode b_Rs_layNumber 30 = .ok (.irem, 1) := by decide +kernel
theorem d_Rs_layNumber_31 : decode b_Rs_layNumber 31 = .ok (.iadd, 1) := by decide +kernel
theorem d_Rs_layNumber_32 : decode b_Rs_layNumber 32 = .ok (.invokevirtual 197, 3) := by decide +kernel
theorem d_Rs_layNumber_35 : decode b_Rs_layNumber 35 = .ok (.iload_n 2, 1) := by decide +kernel
theorem d_Rs_layNumber_36 : decode b_Rs_layNumber 36 = .ok (.bipush 10, 2) := by decide +kernel
theorem d_Rs_layNumber_38 : decode b_Rs_layNumber 38 = .ok (.idiv, 1) := by decide +kernel
theorem d_Rs_layNumber_39 : decode b_Rs_layNumber 39 = .ok (.istore_n 2, 1) := by decide +kernel
theorem d_Rs_layNumber_40 : decode b_Rs_layNumber 40 = .ok (.goto (-22), 3) := by decide +kernel
theorem d_Rs_layNumber_43 : decode b_Rs_layNumber 43 = .ok (.return_, 1) := by decide +kernel
def F_Rs_layNumber_L18 (a1 : Int32) (j43 : (Int32 → (Nat → Int32) → Option (Int32 × (Nat → Int32)))) : Nat → Int32 → Int32 → (Nat → Int32) → Option (Int32 × (Nat → Int32))
  | 0, _, _, _ => none
  | n+1, y6, rlaid_7, wri_8 => if y6 ≤ 0 then (j43 rlaid_7 wri_8) else (gz_ (y6 = 0) <| (F_Rs_lay n rlaid_7 wri_8 ((48 : Int32) + ((a1 / y6) - (a1 / y6) / (10 : Int32) * (10 : Int32)))).bind fun x9 => lt_ (y6 / (10 : Int32)) fun x10 => F_Rs_layNumber_L18 a1 j43 n x10 x9.1 x9.2)
def F_Rs_layNumber_L2 (a1 : Int32) (j18 : (Int32 → Int32 → (Nat → Int32) → Option (Int32 × (Nat → Int32)))) : Nat → Int32 → Int32 → (Nat → Int32) → Option (Int32 × (Nat → Int32))
  | 0, _, _, _ => none
  | n+1, y11, rlaid_12, wri_13 => gz_ (y11 = 0) <| if (a1 / y11) ≤ (9 : Int32) then (j18 y11 rlaid_12 wri_13) else (lt_ (y11 * (10 : Int32)) fun x14 => F_Rs_layNumber_L2 a1 j18 n x14 rlaid_12 wri_13)
def F_Rs_layNumber (n : Nat) (rlaid : Int32) (wri : Nat → Int32) (a1 : Int32) : Option (Int32 × (Nat → Int32)) := lt_ (fun (y1 : Int32) (rlaid_2 : Int32) (wri_3 : (Nat → Int32)) => lt_ (fun (rlaid_4 : Int32) (wri_5 : (Nat → Int32)) => some (rlaid_4, wri_5)) fun j43 => F_Rs_layNumber_L18 a1 j43 n y1 rlaid_2 wri_3) fun j18 => F_Rs_layNumber_L2 a1 j18 n (1 : Int32) rlaid wri
set_option maxHeartbeats 4000000 in
set_option maxRecDepth 100000 in
theorem c_Rs_layNumber (l : Launch) (D : va_G) (A : Nat → Prop) (cI cL cC : ClassId) (ad : Nat → Nat) (X : va_W) (laid : Int32) (gone : Int32) (thr : Int32) (m1 : Int64) (m2 : Int64) (e1 : Int32) (e2 : Int32) (mi1 : Int32) (mi2 : Int32) (na1 : Int32) (na2 : Int32) (fa1 : Int32) (fa2 : Int32) (lets : Nat → Int32) (rlen : Int32) (rlaid : Int32) (rgone : Int32) (rthr : Int32) (were : Int32) (none_ : Int32) (beyo : Int32) (aN : Int32) (bN : Int32) (fN : Int32) (lN_ : Int32) (rN : Int32) (pN : Int32) (twos : Int32) (at_ : Int32) (rdig : Int32) (rpow : Int32) (good : Int32) (txt : Nat → Int32) (wri : Nat → Int32) (ra : Nat → Int32) (rb : Nat → Int32) (rfive : Nat → Int32) (rleft : Nat → Int32) (rright : Nat → Int32) (rpart : Nat → Int32) (n : Nat) (a1 : Int32) (r : Int32 × (Nat → Int32)) (h : F_Rs_layNumber n rlaid wri a1 = some r) : Met l y_Rs_layNumber (.code y_Rs_layNumber b_Rs_layNumber 3 none :: BIG) ({ frames := 1, cells := 0, slots := 0, locals := 21 } : Room) (va_Pc [.ref (ad 2), .int a1] (gPre D A (tysV cI cL cC) (gM cI cL cC ad X laid gone thr m1 m2 e1 e2 mi1 mi2 na1 na2 fa1 fa2 lets rlen rlaid rgone rthr were none_ beyo aN bN fN lN_ rN pN twos at_ rdig rpow good txt wri ra rb rfive rleft rright rpart))) (gQ D A none (gM cI cL cC ad X laid gone thr m1 m2 e1 e2 mi1 mi2 na1 na2 fa1 fa2 lets rlen r.1 rgone rthr were none_ beyo aN bN fN lN_ rN pN twos at_ rdig rpow good txt r.2 ra rb rfive rleft rright rpart)) 0 0 A := by
  refine gOpen_v rfl (Nat.le_of_ble_eq_true rfl) ?_
  intro p e s m args below meth c Q ls hx hb hml hown hts hT hNB hP hK hD hl hret
  have hown : s.vm.findClass R_Rs = some m.cls := hown
  have hS : va_S A s.heap s.heap [] := va_S.rf
  have hl : lv_has ls 3 [(0, .ref (ad 2)), (1, .int a1)] := hl
  have h : (lt_ (fun (y1 : Int32) (rlaid_2 : Int32) (wri_3 : (Nat → Int32)) => lt_ (fun (rlaid_4 : Int32) (wri_5 : (Nat → Int32)) => some (rlaid_4, wri_5)) fun j43 => F_Rs_layNumber_L18 a1 j43 n y1 rlaid_2 wri_3) fun j18 => F_Rs_layNumber_L2 a1 j18 n (1 : Int32) rlaid wri) = some r := h
  refine lv_iconst hx hb d_Rs_layNumber_0 ic_1 ?_
  refine lv_istore_n hx hb d_Rs_layNumber_1 rfl hl (by decide) rfl (fun ls hl => ?_)
  have hl : lv_has ls 3 [(2, .int (1 : Int32)), (0, .ref (ad 2)), (1, .int a1)] := hl
  obtain ⟨j18, e_j18, h⟩ := lt_o h
  have hJ18 : ∀ (y1 : Int32) (rlaid_2 : Int32) (wri_3 : (Nat → Int32)) (ls : Array Slot) (H : Heap) (locs : List Loc), lv_has ls 3 [(0, .ref (ad 2)), (1, .int a1), (2, .int y1)] → va_P D cls (gM cI cL cC ad X laid gone thr m1 m2 e1 e2 mi1 mi2 na1 na2 fa1 fa2 lets rlen rlaid_2 rgone rthr were none_ beyo aN bN fN lN_ rN pN twos at_ rdig rpow good txt wri_3 ra rb rfive rleft rright rpart) H → va_D A (gM cI cL cC ad X laid gone thr m1 m2 e1 e2 mi1 mi2 na1 na2 fa1 fa2 lets rlen rlaid_2 rgone rthr were none_ beyo aN bN fN lN_ rN pN twos at_ rdig rpow good txt wri_3 ra rb rfive rleft rright rpart) → va_S A s.heap H locs → j18 y1 rlaid_2 wri_3 = some r → W p l e ({ frames := 1, cells := 0, slots := 0, locals := 21 } : Room) s m args below meth c H locs 0 0 Q (F0 m 18 ls []) := by
    intro y1 rlaid_2 wri_3 ls H locs hl hP hD hS h
    rw [e_j18] at h
    obtain ⟨j43, e_j43, h⟩ := lt_o h
    have hJ43 : ∀ (rlaid_4 : Int32) (wri_5 : (Nat → Int32)) (ls : Array Slot) (H : Heap) (locs : List Loc), lv_has ls 3 [] → va_P D cls (gM cI cL cC ad X laid gone thr m1 m2 e1 e2 mi1 mi2 na1 na2 fa1 fa2 lets rlen rlaid_4 rgone rthr were none_ beyo aN bN fN lN_ rN pN twos at_ rdig rpow good txt wri_5 ra rb rfive rleft rright rpart) H → va_D A (gM cI cL cC ad X laid gone thr m1 m2 e1 e2 mi1 mi2 na1 na2 fa1 fa2 lets rlen rlaid_4 rgone rthr were none_ beyo aN bN fN lN_ rN pN twos at_ rdig rpow good txt wri_5 ra rb rfive rleft rright rpart) → va_S A s.heap H locs → j43 rlaid_4 wri_5 = some r → W p l e ({ frames := 1, cells := 0, slots := 0, locals := 21 } : Room) s m args below meth c H locs 0 0 Q (F0 m 43 ls []) := by
      intro rlaid_4 wri_5 ls H locs hl hP hD hS h
      rw [e_j43] at h
      obtain rfl := Option.some.inj h
      exact hret 43 ls _ _ hP hD hS d_Rs_layNumber_43
    have hL18 : ∀ (n : Nat) (y6 : Int32) (rlaid_7 : Int32) (wri_8 : (Nat → Int32)) (ls : Array Slot) (H : Heap) (locs : List Loc), lv_has ls 3 [(0, .ref (ad 2)), (1, .int a1), (2, .int y6)] → va_P D cls (gM cI cL cC ad X laid gone thr m1 m2 e1 e2 mi1 mi2 na1 na2 fa1 fa2 lets rlen rlaid_7 rgone rthr were none_ beyo aN bN fN lN_ rN pN twos at_ rdig rpow good txt wri_8 ra rb rfive rleft rright rpart) H → va_D A (gM cI cL cC ad X laid gone thr m1 m2 e1 e2 mi1 mi2 na1 na2 fa1 fa2 lets rlen rlaid_7 rgone rthr were none_ beyo aN bN fN lN_ rN pN twos at_ rdig rpow good txt wri_8 ra rb rfive rleft rright rpart) → va_S A s.heap H locs → F_Rs_layNumber_L18 a1 j43 n y6 rlaid_7 wri_8 = some r → W p l e ({ frames := 1, cells := 0, slots := 0, locals := 21 } : Room) s m args below meth c H locs 0 0 Q (F0 m 18 ls []) := by
      intro n
      induction n with
      | zero => intro y6 rlaid_7 wri_8 ls H locs hl hP hD hS h; exact no_s h
      | succ n ih =>
        intro y6 rlaid_7 wri_8 ls H locs hl hP hD hS h
        have h : (if y6 ≤ 0 then (j43 rlaid_7 wri_8) else (gz_ (y6 = 0) <| (F_Rs_lay n rlaid_7 wri_8 ((48 : Int32) + ((a1 / y6) - (a1 / y6) / (10 : Int32) * (10 : Int32)))).bind fun x9 => lt_ (y6 / (10 : Int32)) fun x10 => F_Rs_layNumber_L18 a1 j43 n x10 x9.1 x9.2)) = some r := h
        refine lv_iload_n hx hb d_Rs_layNumber_18 rfl (lv_at hl 2 rfl) ?_
        refine lv_if_le (tgt := 43) hx hb d_Rs_layNumber_19 rfl (fun hc => ?_) (fun hc => ?_)
        · have h := ite_t hc h
          exact hJ43 _ _ ls _ _ (lv_sub hl [] rfl) hP hD hS h
        · have h := ite_f hc h
          refine lv_aload_n hx hb d_Rs_layNumber_22 rfl (lv_at hl 0 rfl) ?_
          refine lv_bipush hx hb d_Rs_layNumber_23 bp_48 ?_
          refine lv_iload_n hx hb d_Rs_layNumber_25 rfl (lv_at hl 1 rfl) ?_
          refine lv_iload_n hx hb d_Rs_layNumber_26 rfl (lv_at hl 2 rfl) ?_
          have hz := gz_n h
          have h := gz_h h
          refine lv_idiv hx hb d_Rs_layNumber_27 hz ?_
          refine lv_bipush hx hb d_Rs_layNumber_28 bp_10 ?_
          refine lv_irem hx hb d_Rs_layNumber_30 (by decide) ?_
          refine lv_iadd hx hb d_Rs_layNumber_31 ?_
          obtain ⟨x9, e_x9, h⟩ := bd_o h
          refine q_GV (D := D) (A := A) (C := R_Rs) (b := ad 2) (As := [.int ((48 : Int32) + ((a1 / y6) - (a1 / y6) / (10 : Int32) * (10 : Int32)))]) (rest := []) (n := 1) hx hb hml hown hts (c_Rs_lay l D A cI cL cC ad X laid gone thr m1 m2 e1 e2 mi1 mi2 na1 na2 fa1 fa2 lets rlen rlaid_7 rgone rthr were none_ beyo aN bN fN lN_ rN pN twos at_ rdig rpow good txt wri_8 ra rb rfive rleft rright rpart n ((48 : Int32) + ((a1 / y6) - (a1 / y6) / (10 : Int32) * (10 : Int32))) x9 e_x9) rfl rfl m_314 m_315 m_316 m_317 m_318 (by decide +kernel) ⟨Nat.le_of_ble_eq_true rfl, Nat.le_of_ble_eq_true rfl⟩ (va_recv hK hP (ci := 5) rfl (q0 := 2) rfl) hNB hK hP hD hS rfl hl.1 rfl (Nat.le_of_ble_eq_true rfl) d_Rs_layNumber_32 ⟨Nat.zero_le _, Nat.zero_le _⟩ (fun H locs hP hD hS => ?_)
          have hP : va_P D cls (gM cI cL cC ad X laid gone thr m1 m2 e1 e2 mi1 mi2 na1 na2 fa1 fa2 lets rlen x9.1 rgone rthr were none_ beyo aN bN fN lN_ rN pN twos at_ rdig rpow good txt x9.2 ra rb rfive rleft rright rpart) H := hP
          have hD : va_D A (gM cI cL cC ad X laid gone thr m1 m2 e1 e2 mi1 mi2 na1 na2 fa1 fa2 lets rlen x9.1 rgone rthr were none_ beyo aN bN fN lN_ rN pN twos at_ rdig rpow good txt x9.2 ra rb rfive rleft rright rpart) := hD
          refine lv_iload_n hx hb d_Rs_layNumber_35 rfl (lv_at hl 2 rfl) ?_
          refine lv_bipush hx hb d_Rs_layNumber_36 bp_10 ?_
          refine lv_idiv hx hb d_Rs_layNumber_38 (by decide) ?_
          refine lv_topi (fun x10 e_x10 => ?_)
          have h := lt_h e_x10 h
          refine lv_istore_n hx hb d_Rs_layNumber_39 rfl hl (by decide) rfl (fun ls hl => ?_)
          have hl : lv_has ls 3 [(2, .int x10), (0, .ref (ad 2)), (1, .int a1)] := hl
          refine lv_goto (tgt := 18) hx hb d_Rs_layNumber_40 rfl ?_
          exact ih _ _ _ ls _ _ (lv_sub hl [1, 2, 0] rfl) hP hD hS h
    exact hL18 n _ _ _ ls _ _ (lv_sub hl [0, 1, 2] rfl) hP hD hS h
  have hL2 : ∀ (n : Nat) (y11 : Int32) (rlaid_12 : Int32) (wri_13 : (Nat → Int32)) (ls : Array Slot) (H : Heap) (locs : List Loc), lv_has ls 3 [(0, .ref (ad 2)), (1, .int a1), (2, .int y11)] → va_P D cls (gM cI cL cC ad X laid gone thr m1 m2 e1 e2 mi1 mi2 na1 na2 fa1 fa2 lets rlen rlaid_12 rgone rthr were none_ beyo aN bN fN lN_ rN pN twos at_ rdig rpow good txt wri_13 ra rb rfive rleft rright rpart) H → va_D A (gM cI cL cC ad X laid gone thr m1 m2 e1 e2 mi1 mi2 na1 na2 fa1 fa2 lets rlen rlaid_12 rgone rthr were none_ beyo aN bN fN lN_ rN pN twos at_ rdig rpow good txt wri_13 ra rb rfive rleft rright rpart) → va_S A s.heap H locs → F_Rs_layNumber_L2 a1 j18 n y11 rlaid_12 wri_13 = some r → W p l e ({ frames := 1, cells := 0, slots := 0, locals := 21 } : Room) s m args below meth c H locs 0 0 Q (F0 m 2 ls []) := by
    intro n
    induction n with
    | zero => intro y11 rlaid_12 wri_13 ls H locs hl hP hD hS h; exact no_s h
    | succ n ih =>
      intro y11 rlaid_12 wri_13 ls H locs hl hP hD hS h
      have h : (gz_ (y11 = 0) <| if (a1 / y11) ≤ (9 : Int32) then (j18 y11 rlaid_12 wri_13) else (lt_ (y11 * (10 : Int32)) fun x14 => F_Rs_layNumber_L2 a1 j18 n x14 rlaid_12 wri_13)) = some r := h
      refine lv_iload_n hx hb d_Rs_layNumber_2 rfl (lv_at hl 1 rfl) ?_
      refine lv_iload_n hx hb d_Rs_layNumber_3 rfl (lv_at hl 2 rfl) ?_
      have hz := gz_n h
      have h := gz_h h
      refine lv_idiv hx hb d_Rs_layNumber_4 hz ?_
      refine lv_bipush hx hb d_Rs_layNumber_5 bp_9 ?_
      refine lv_icmp_le (tgt := 18) hx hb d_Rs_layNumber_7 rfl (fun hc => ?_) (fun hc => ?_)
      · have h := ite_t hc h
        exact hJ18 _ _ _ ls _ _ (lv_sub hl [0, 1, 2] rfl) hP hD hS h
      · have h := ite_f hc h
        refine lv_iload_n hx hb d_Rs_layNumber_10 rfl (lv_at hl 2 rfl) ?_
        refine lv_bipush hx hb d_Rs_layNumber_11 bp_10 ?_
        refine lv_imul hx hb d_Rs_layNumber_13 ?_
        refine lv_topi (fun x14 e_x14 => ?_)
        have h := lt_h e_x14 h
        refine lv_istore_n hx hb d_Rs_layNumber_14 rfl hl (by decide) rfl (fun ls hl => ?_)
        have hl : lv_has ls 3 [(2, .int x14), (0, .ref (ad 2)), (1, .int a1)] := hl
        refine lv_goto (tgt := 2) hx hb d_Rs_layNumber_15 rfl ?_
        exact ih _ _ _ ls _ _ (lv_sub hl [1, 2, 0] rfl) hP hD hS h
  exact hL2 n _ _ _ ls _ _ (lv_sub hl [1, 2, 0] rfl) hP hD hS h
-- Rs_layDecimal
theorem d_Rs_layDecimal_0 : decode b_Rs_layDecimal 0 = .ok (.aload_n 0, 1) := by decide +kernel
theorem d_Rs_layDecimal_1 : decode b_Rs_layDecimal 1 = .ok (.lload_n 1, 1) := by decide +kernel
theorem d_Rs_layDecimal_2 : decode b_Rs_layDecimal 2 = .ok (.iload_n 3, 1) := by decide +kernel
theorem d_Rs_layDecimal_3 : decode b_Rs_layDecimal 3 = .ok (.invokevirtual 200, 3) := by decide +kernel
theorem d_Rs_layDecimal_6 : decode b_Rs_layDecimal 6 = .ok (.lstore 4, 2) := by decide +kernel
theorem d_Rs_layDecimal_8 : decode b_Rs_layDecimal 8 = .ok (.aload_n 0, 1) := by decide +kernel
theorem d_Rs_layDecimal_9 : decode b_Rs_layDecimal 9 = .ok (.getfield 127, 3) := by decide +kernel
theorem d_Rs_layDecimal_12 : decode b_Rs_layDecimal 12 = .ok (.istore 6, 2) := by decide +kernel
theorem d_Rs_layDecimal_14 : decode b_Rs_layDecimal 14 = .ok (.lload 4, 2) := by decide +kernel
theorem d_Rs_layDecimal_16 : decode b_Rs_layDecimal 16 = .ok (.ldc2_w 182, 3) := by decide +kernel
theorem d_Rs_layDecimal_19 : decode b_Rs_layDecimal 19 = .ok (.lrem, 1) := by decide +kernel
theorem d_Rs_layDecimal_20 : decode b_Rs_layDecimal 20 = .ok (.lconst 0, 1) := by decide +kernel
theorem d_Rs_layDecimal_21 : decode b_Rs_layDecimal 21 = .ok (.lcmp, 1) := by decide +kernel
theorem d_Rs_layDecimal_22 : decode b_Rs_layDecimal 22 = .ok (.ifCond .ne 17, 3) := by decide +kernel
theorem d_Rs_layDecimal_25 : decode b_Rs_layDecimal 25 = .ok (.lload 4, 2) := by decide +kernel
theorem d_Rs_layDecimal_27 : decode b_Rs_layDecimal 27 = .ok (.ldc2_w 182, 3) := by decide +kernel
theorem d_Rs_layDecimal_30 : decode b_Rs_layDecimal 30 = .ok (.ldiv, 1) := by decide +kernel
theorem d_Rs_layDecimal_31 : decode b_Rs_layDecimal 31 = .ok (.lstore 4, 2) := by decide +kernel
theorem d_Rs_layDecimal_33 : decode b_Rs_layDecimal 33 = .ok (.iinc 6 1, 3) := by decide +kernel
theorem d_Rs_layDecimal_36 : decode b_Rs_layDecimal 36 = .ok (.goto (-22), 3) := by decide +kernel
theorem d_Rs_layDecimal_39 : decode b_Rs_layDecimal 39 = .ok (.iconst 1, 1) := by decide +kernel
theorem d_Rs_layDecimal_40 : decode b_Rs_layDecimal 40 = .ok (.istore 7, 2) := by decide +kernel
theorem d_Rs_layDecimal_42 : decode b_Rs_layDecimal 42 = .ok (.lload 4, 2) := by decide +kernel
theorem d_Rs_layDecimal_44 : decode b_Rs_layDecimal 44 = .ok (.lstore 8, 2) := by decide +kernel
theorem d_Rs_layDecimal_46 : decode b_Rs_layDecimal 46 = .ok (.lload 8, 2) := by decide +kernel
theorem d_Rs_layDecimal_48 : decode b_Rs_layDecimal 48 = .ok (.ldc2_w 203, 3) := by decide +kernel
theorem d_Rs_layDecimal_51 : decode b_Rs_layDecimal 51 = .ok (.lcmp, 1) := by decide +kernel
theorem d_Rs_layDecimal_52 : decode b_Rs_layDecimal 52 = .ok (.ifCond .le 17, 3) := by decide +kernel
theorem d_Rs_layDecimal_55 : decode b_Rs_layDecimal 55 = .ok (.iinc 7 1, 3) := by decide +kernel
theorem d_Rs_layDecimal_58 : decode b_Rs_layDecimal 58 = .ok (.lload 8, 2) := by decide +kernel
theorem d_Rs_layDecimal_60 : decode b_Rs_layDecimal 60 = .ok (.ldc2_w 182, 3) := by decide +kernel
theorem d_Rs_layDecimal_63 : decode b_Rs_layDecimal 63 = .ok (.ldiv, 1) := by decide +kernel
theorem d_Rs_layDecimal_64 : decode b_Rs_layDecimal 64 = .ok (.lstore 8, 2) := by decide +kernel
theorem d_Rs_layDecimal_66 : decode b_Rs_layDecimal 66 = .ok (.goto (-20), 3) := by decide +kernel
theorem d_Rs_layDecimal_69 : decode b_Rs_layDecimal 69 = .ok (.iload 6, 2) := by decide +kernel
theorem d_Rs_layDecimal_71 : decode b_Rs_layDecimal 71 = .ok (.iload 7, 2) := by decide +kernel
theorem d_Rs_layDecimal_73 : decode b_Rs_layDecimal 73 = .ok (.iadd, 1) := by decide +kernel
theorem d_Rs_layDecimal_74 : decode b_Rs_layDecimal 74 = .ok (.iconst 1, 1) := by decide +kernel
theorem d_Rs_layDecimal_75 : decode b_Rs_layDecimal 75 = .ok (.isub, 1) := by decide +kernel
theorem d_Rs_layDecimal_76 : decode b_Rs_layDecimal 76 = .ok (.istore 8, 2) := by decide +kernel
theorem d_Rs_layDecimal_78 : decode b_Rs_layDecimal 78 = .ok (.iload 8, 2) := by decide +kernel
theorem d_Rs_layDecimal_80 : decode b_Rs_layDecimal 80 = .ok (.iconst 0, 1) := by decide +kernel
theorem d_Rs_layDecimal_81 : decode b_Rs_layDecimal 81 = .ok (.bipush 6, 2) := by decide +kernel
theorem d_Rs_layDecimal_83 : decode b_Rs_layDecimal 83 = .ok (.invokestatic 38, 3) := by decide +kernel
theorem d_Rs_layDecimal_86 : decode b_Rs_layDecimal 86 = .ok (.ifCond .eq 55, 3) := by decide +kernel
theorem d_Rs_layDecimal_89 : decode b_Rs_layDecimal 89 = .ok (.aload_n 0, 1) := by decide +kernel
theorem d_Rs_layDecimal_90 : decode b_Rs_layDecimal 90 = .ok (.lload 4, 2) := by decide +kernel
theorem d_Rs_layDecimal_92 : decode b_Rs_layDecimal 92 = .ok (.iconst 0, 1) := by decide +kernel
theorem d_Rs_layDecimal_93 : decode b_Rs_layDecimal 93 = .ok (.iload 8, 2) := by decide +kernel
theorem d_Rs_layDecimal_95 : decode b_Rs_layDecimal 95 = .ok (.iconst 1, 1) := by decide +kernel
theorem d_Rs_layDecimal_96 : decode b_Rs_layDecimal 96 = .ok (.iadd, 1) := by decide +kernel
theorem d_Rs_layDecimal_97 : decode b_Rs_layDecimal 97 = .ok (.iload 7, 2) := by decide +kernel
theorem d_Rs_layDecimal_99 : decode b_Rs_layDecimal 99 = .ok (.invokevirtual 205, 3) := by decide +kernel
theorem d_Rs_layDecimal_102 : decode b_Rs_layDecimal 102 = .ok (.aload_n 0, 1) := by decide +kernel
theorem d_Rs_layDecimal_103 : decode b_Rs_layDecimal 103 = .ok (.bipush 46, 2) := by decide +kernel
theorem d_Rs_layDecimal_105 : decode b_Rs_layDecimal 105 = .ok (.invokevirtual 197, 3) := by decide +kernel
theorem d_Rs_layDecimal_108 : decode b_Rs_layDecimal 108 = .ok (.aload_n 0, 1) := by decide +kernel
theorem d_Rs_layDecimal_109 : decode b_Rs_layDecimal 109 = .ok (.lload 4, 2) := by decide +kernel
theorem d_Rs_layDecimal_111 : decode b_Rs_layDecimal 111 = .ok (.iload 8, 2) := by decide +kernel
theorem d_Rs_layDecimal_113 : decode b_Rs_layDecimal 113 = .ok (.iconst 1, 1) := by decide +kernel
theorem d_Rs_layDecimal_114 : decode b_Rs_layDecimal 114 = .ok (.iadd, 1) := by decide +kernel
theorem d_Rs_layDecimal_115 : decode b_Rs_layDecimal 115 = .ok (.iload 7, 2) := by decide +kernel
theorem d_Rs_layDecimal_117 : decode b_Rs_layDecimal 117 = .ok (.iload 8, 2) := by decide +kernel
theorem d_Rs_layDecimal_119 : decode b_Rs_layDecimal 119 = .ok (.iconst 1, 1) := by decide +kernel
theorem d_Rs_layDecimal_120 : decode b_Rs_layDecimal 120 = .ok (.iadd, 1) := by decide +kernel
theorem d_Rs_layDecimal_121 : decode b_Rs_layDecimal 121 = .ok (.if_icmp .le 8, 3) := by decide +kernel
theorem d_Rs_layDecimal_124 : decode b_Rs_layDecimal 124 = .ok (.iload 7, 2) := by decide +kernel
theorem d_Rs_layDecimal_126 : decode b_Rs_layDecimal 126 = .ok (.goto 7, 3) := by decide +kernel
theorem d_Rs_layDecimal_129 : decode b_Rs_layDecimal 129 = .ok (.iload 8, 2) := by decide +kernel
theorem d_Rs_layDecimal_131 : decode b_Rs_layDecimal 131 = .ok (.iconst 2, 1) := by decide +kernel
theorem d_Rs_layDecimal_132 : decode b_Rs_layDecimal 132 = .ok (.iadd, 1) := by decide +kernel
theorem d_Rs_layDecimal_133 : decode b_Rs_layDecimal 133 = .ok (.iload 7, 2) := by decide +kernel
theorem d_Rs_layDecimal_135 : decode b_Rs_layDecimal 135 = .ok (.invokevirtual 205, 3) := by decide +kernel
theorem d_Rs_layDecimal_138 : decode b_Rs_layDecimal 138 = .ok (.goto 133, 3) := by decide +kernel
theorem d_Rs_layDecimal_141 : decode b_Rs_layDecimal 141 = .ok (.iload 8, 2) := by decide +kernel
theorem d_Rs_layDecimal_143 : decode b_Rs_layDecimal 143 = .ok (.bipush (-3), 2) := by decide +kernel
theorem d_Rs_layDecimal_145 : decode b_Rs_layDecimal 145 = .ok (.iconst (-1), 1) := by decide +kernel
theorem d_Rs_layDecimal_146 : decode b_Rs_layDecimal 146 = .ok (.invokestatic 38, 3) := by decide +kernel
theorem d_Rs_layDecimal_149 : decode b_Rs_layDecimal 149 = .ok (.ifCond .eq 51, 3) := by decide +kernel
theorem d_Rs_layDecimal_152 : decode b_Rs_layDecimal 152 = .ok (.aload_n 0, 1) := by decide +kernel
theorem d_Rs_layDecimal_153 : decode b_Rs_layDecimal 153 = .ok (.bipush 48, 2) := by decide +kernel
theorem d_Rs_layDecimal_155 : decode b_Rs_layDecimal 155 = .ok (.invokevirtual 197, 3) := by decide +kernel
theorem d_Rs_layDecimal_158 : decode b_Rs_layDecimal 158 = .ok (.aload_n 0, 1) := by decide +kernel
theorem d_Rs_layDecimal_159 : decode b_Rs_layDecimal 159 = .ok (.bipush 46, 2) := by decide +kernel
theorem d_Rs_layDecimal_161 : decode b_Rs_layDecimal 161 = .ok (.invokevirtual 197, 3) := by decide +kernel
theorem d_Rs_layDecimal_164 : decode b_Rs_layDecimal 164 = .ok (.iload 8, 2) := by decide +kernel
theorem d_Rs_layDecimal_166 : decode b_Rs_layDecimal 166 = .ok (.istore 9, 2) := by decide +kernel
theorem d_Rs_layDecimal_168 : decode b_Rs_layDecimal 168 = .ok (.iload 9, 2) := by decide +kernel
theorem d_Rs_layDecimal_170 : decode b_Rs_layDecimal 170 = .ok (.iconst (-1), 1) := by decide +kernel
theorem d_Rs_layDecimal_171 : decode b_Rs_layDecimal 171 = .ok (.if_icmp .ge 15, 3) := by decide +kernel
theorem d_Rs_layDecimal_174 : decode b_Rs_layDecimal 174 = .ok (.aload_n 0, 1) := by decide +kernel
theorem d_Rs_layDecimal_175 : decode b_Rs_layDecimal 175 = .ok (.bipush 48, 2) := by decide +kernel
theorem d_Rs_layDecimal_177 : decode b_Rs_layDecimal 177 = .ok (.invokevirtual 197, 3) := by decide +kernel
theorem d_Rs_layDecimal_180 : decode b_Rs_layDecimal 180 = .ok (.iinc 9 1, 3) := by decide +kernel
theorem d_Rs_layDecimal_183 : decode b_Rs_layDecimal 183 = .ok (.goto (-15), 3) := by decide +kernel
theorem d_Rs_layDecimal_186 : decode b_Rs_layDecimal 186 = .ok (.aload_n 0, 1) := by decide +kernel
theorem d_Rs_layDecimal_187 : decode b_Rs_layDecimal 187 = .ok (.lload 4, 2) := by decide +kernel
theorem d_Rs_layDecimal_189 : decode b_Rs_layDecimal 189 = .ok (.iconst 0, 1) := by decide +kernel
theorem d_Rs_layDecimal_190 : decode b_Rs_layDecimal 190 = .ok (.iload 7, 2) := by decide +kernel
theorem d_Rs_layDecimal_192 : decode b_Rs_layDecimal 192 = .ok (.iload 7, 2) := by decide +kernel
theorem d_Rs_layDecimal_194 : decode b_Rs_layDecimal 194 = .ok (.invokevirtual 205, 3) := by decide +kernel
theorem d_Rs_layDecimal_197 : decode b_Rs_layDecimal 197 = .ok (.goto 74, 3) := by decide +kernel
theorem d_Rs_layDecimal_200 : decode b_Rs_layDecimal 200 = .ok (.aload_n 0, 1) := by decide +kernel
theorem d_Rs_layDecimal_201 : decode b_Rs_layDecimal 201 = .ok (.lload 4, 2) := by decide +kernel
theorem d_Rs_layDecimal_203 : decode b_Rs_layDecimal 203 = .ok (.iconst 0, 1) := by decide +kernel
theorem d_Rs_layDecimal_204 : decode b_Rs_layDecimal 204 = .ok (.iconst 1, 1) := by decide +kernel
theorem d_Rs_layDecimal_205 : decode b_Rs_layDecimal 205 = .ok (.iload 7, 2) := by decide +kernel
theorem d_Rs_layDecimal_207 : decode b_Rs_layDecimal 207 = .ok (.invokevirtual 205, 3) := by decide +kernel
theorem d_Rs_layDecimal_210 : decode b_Rs_layDecimal 210 = .ok (.aload_n 0, 1) := by decide +kernel
theorem d_Rs_layDecimal_211 : decode b_Rs_layDecimal 211 = .ok (.bipush 46, 2) := by decide +kernel
theorem d_Rs_layDecimal_213 : decode b_Rs_layDecimal 213 = .ok (.invokevirtual 197, 3) := by decide +kernel
theorem d_Rs_layDecimal_216 : decode b_Rs_layDecimal 216 = .ok (.aload_n 0, 1) := by decide +kernel
theorem d_Rs_layDecimal_217 : decode b_Rs_layDecimal 217 = .ok (.lload 4, 2) := by decide +kernel
theorem d_Rs_layDecimal_219 : decode b_Rs_layDecimal 219 = .ok (.iconst 1, 1) := by decide +kernel
theorem d_Rs_layDecimal_220 : decode b_Rs_layDecimal 220 = .ok (.iload 7, 2) := by decide +kernel
theorem d_Rs_layDecimal_222 : decode b_Rs_layDecimal 222 = .ok (.iconst 1, 1) := by decide +kernel
theorem d_Rs_layDecimal_223 : decode b_Rs_layDecimal 223 = .ok (.if_icmp .le 8, 3) := by decide +kernel
theorem d_Rs_layDecimal_226 : decode b_Rs_layDecimal 226 = .ok (.iload 7, 2) := by decide +kernel
theorem d_Rs_layDecimal_228 : decode b_Rs_layDecimal 228 = .ok (.goto 4, 3) := by decide +kernel
theorem d_Rs_layDecimal_231 : decode b_Rs_layDecimal 231 = .ok (.iconst 2, 1) := by decide +kernel
theorem d_Rs_layDecimal_232 : decode b_Rs_layDecimal 232 = .ok (.iload 7, 2) := by decide +kernel
theorem d_Rs_layDecimal_234 : decode b_Rs_layDecimal 234 = .ok (.invokevirtual 205, 3) := by decide +kernel
theorem d_Rs_layDecimal_237 : decode b_Rs_layDecimal 237 = .ok (.aload_n 0, 1) := by decide +kernel
theorem d_Rs_layDecimal_238 : decode b_Rs_layDecimal 238 = .ok (.bipush 69, 2) := by decide +kernel
theorem d_Rs_layDecimal_240 : decode b_Rs_layDecimal 240 = .ok (.invokevirtual 197, 3) := by decide +kernel
theorem d_Rs_layDecimal_243 : decode b_Rs_layDecimal 243 = .ok (.iload 8, 2) := by decide +kernel
theorem d_Rs_layDecimal_245 : decode b_Rs_layDecimal 245 = .ok (.ifCond .ge 9, 3) := by decide +kernel
theorem d_Rs_layDecimal_248 : decode b_Rs_layDecimal 248 = .ok (.aload_n 0, 1) := by decide +kernel
theorem d_Rs_layDecimal_249 : decode b_Rs_layDecimal 249 = .ok (.bipush 45, 2) := by decide +kernel
theorem d_Rs_layDecimal_251 : decode b_Rs_layDecimal 251 = .ok (.invokevirtual 197, 3) := by decide +kernel
theorem d_Rs_layDecimal_254 : decode b_Rs_layDecimal 254 = .ok (.aload_n 0, 1) := by decide +kernel
theorem d_Rs_layDecimal_255 : decode b_Rs_layDecimal 255 = .ok (.iload 8, 2) := by decide +kernel
theorem d_Rs_layDecimal_257 : decode b_Rs_layDecimal 257 = .ok (.ifCond .ge 9, 3) := by decide +kernel
theorem d_Rs_layDecimal_260 : decode b_Rs_layDecimal 260 = .ok (.iload 8, 2) := by decide +kernel
theorem d_Rs_layDecimal_262 : decode b_Rs_layDecimal 262 = .ok (.ineg, 1) := by decide +kernel
theorem d_Rs_layDecimal_263 : decode b_Rs_layDecimal 263 = .ok (.goto 5, 3) := by decide +kernel
theorem d_Rs_layDecimal_266 : decode b_Rs_layDecimal 266 = .ok (.iload 8, 2) := by decide +kernel
theorem d_Rs_layDecimal_268 : decode b_Rs_layDecimal 268 = .ok (.invokevirtual 209, 3) := by decide +kernel
theorem d_Rs_layDecimal_271 : decode b_Rs_layDecimal 271 = .ok (.return_, 1) := by decide +kernel
def F_Rs_layDecimal_L168 (y2 : Int64) (y18 : Int32) (j186 : (Int32 → Int32 → Int32 → Int32 → Int32 → Int32 → Int32 → Int32 → (Nat → Int32) → (Nat → Int32) → (Nat → Int32) → (Nat → Int32) → (Nat → Int32) → (Nat → Int32) → Option (Int32 × Int32 × Int32 × Int32 × Int32 × Int32 × Int32 × Int32 × (Nat → Int32) × (Nat → Int32) × (Nat → Int32) × (Nat → Int32) × (Nat → Int32) × (Nat → Int32)))) : Nat → Int32 → Int32 → Int32 → Int32 → Int32 → Int32 → Int32 → Int32 → Int32 → (Nat → Int32) → (Nat → Int32) → (Nat → Int32) → (Nat → Int32) → (Nat → Int32) → (Nat → Int32) → Option (Int32 × Int32 × Int32 × Int32 × Int32 × Int32 × Int32 × Int32 × (Nat → Int32) × (Nat → Int32) × (Nat → Int32) × (Nat → Int32) × (Nat → Int32) × (Nat → Int32))
  | 0, _, _, _, _, _, _, _, _, _, _, _, _, _, _, _ => none
  | n+1, y87, rlaid_88, aN_89, bN_90, fN_91, lN__92, rN_93, twos_94, rpow_95, wri_96, ra_97, rb_98, rfive_99, rleft_100, rright_101 => if (-1 : Int32) ≤ y87 then (j186 rlaid_88 aN_89 bN_90 fN_91 lN__92 rN_93 twos_94 rpow_95 wri_96 ra_97 rb_98 rfive_99 rleft_100 rright_101) else ((F_Rs_lay n rlaid_88 wri_96 (48 : Int32)).bind fun x102 => lt_ (y87 + Int32.ofInt 1) fun x103 => F_Rs_layDecimal_L168 y2 y18 j186 n x103 x102.1 aN_89 bN_90 fN_91 lN__92 rN_93 twos_94 rpow_95 x102.2 ra_97 rb_98 rfive_99 rleft_100 rright_101)
def F_Rs_layDecimal_L46 (y2 : Int64) (y3 : Int32) (j69 : (Int32 → Int32 → Int32 → Int32 → Int32 → Int32 → Int32 → Int32 → Int32 → (Nat → Int32) → (Nat → Int32) → (Nat → Int32) → (Nat → Int32) → (Nat → Int32) → (Nat → Int32) → Option (Int32 × Int32 × Int32 × Int32 × Int32 × Int32 × Int32 × Int32 × (Nat → Int32) × (Nat → Int32) × (Nat → Int32) × (Nat → Int32) × (Nat → Int32) × (Nat → Int32)))) : Nat → Int32 → Int64 → Int32 → Int32 → Int32 → Int32 → Int32 → Int32 → Int32 → Int32 → (Nat → Int32) → (Nat → Int32) → (Nat → Int32) → (Nat → Int32) → (Nat → Int32) → (Nat → Int32) → Option (Int32 × Int32 × Int32 × Int32 × Int32 × Int32 × Int32 × Int32 × (Nat → Int32) × (Nat → Int32) × (Nat → Int32) × (Nat → Int32) × (Nat → Int32) × (Nat → Int32))
  | 0, _, _, _, _, _, _, _, _, _, _, _, _, _, _, _, _ => none
  | n+1, y108, y109, rlaid_110, aN_111, bN_112, fN_113, lN__114, rN_115, twos_116, rpow_117, wri_118, ra_119, rb_120, rfive_121, rleft_122, rright_123 => if y109 ≤ (9 : Int64) then (j69 y108 rlaid_110 aN_111 bN_112 fN_113 lN__114 rN_115 twos_116 rpow_117 wri_118 ra_119 rb_120 rfive_121 rleft_122 rright_123) else (lt_ (y108 + Int32.ofInt 1) fun x124 => lt_ (y109 / (10 : Int64)) fun x125 => F_Rs_layDecimal_L46 y2 y3 j69 n x124 x125 rlaid_110 aN_111 bN_112 fN_113 lN__114 rN_115 twos_116 rpow_117 wri_118 ra_119 rb_120 rfive_121 rleft_122 rright_123)
def F_Rs_layDecimal_L14 (j39 : (Int64 → Int32 → Int32 → Int32 → Int32 → Int32 → Int32 → Int32 → Int32 → Int32 → (Nat → Int32) → (Nat → Int32) → (Nat → Int32) → (Nat → Int32) → (Nat → Int32) → (Nat → Int32) → Option (Int32 × Int32 × Int32 × Int32 × Int32 × Int32 × Int32 × Int32 × (Nat → Int32) × (Nat → Int32) × (Nat → Int32) × (Nat → Int32) × (Nat → Int32) × (Nat → Int32)))) : Nat → Int64 → Int32 → Int32 → Int32 → Int32 → Int32 → Int32 → Int32 → Int32 → Int32 → (Nat → Int32) → (Nat → Int32) → (Nat → Int32) → (Nat → Int32) → (Nat → Int32) → (Nat → Int32) → Option (Int32 × Int32 × Int32 × Int32 × Int32 × Int32 × Int32 × Int32 × (Nat → Int32) × (Nat → Int32) × (Nat → Int32) × (Nat → Int32) × (Nat → Int32) × (Nat → Int32))
  | 0, _, _, _, _, _, _, _, _, _, _, _, _, _, _, _, _ => none
  | n+1, y126, y127, rlaid_128, aN_129, bN_130, fN_131, lN__132, rN_133, twos_134, rpow_135, wri_136, ra_137, rb_138, rfive_139, rleft_140, rright_141 => if ¬ (y126 - y126 / (10 : Int64) * (10 : Int64)) = (0 : Int64) then (j39 y126 y127 rlaid_128 aN_129 bN_130 fN_131 lN__132 rN_133 twos_134 rpow_135 wri_136 ra_137 rb_138 rfive_139 rleft_140 rright_141) else (lt_ (y126 / (10 : Int64)) fun x142 => lt_ (y127 + Int32.ofInt 1) fun x143 => F_Rs_layDecimal_L14 j39 n x142 x143 rlaid_128 aN_129 bN_130 fN_131 lN__132 rN_133 twos_134 rpow_135 wri_136 ra_137 rb_138 rfive_139 rleft_140 rright_141)
def F_Rs_layDecimal (n : Nat) (rlaid : Int32) (aN : Int32) (bN : Int32) (fN : Int32) (lN_ : Int32) (rN : Int32) (twos : Int32) (rpow : Int32) (wri : Nat → Int32) (ra : Nat → Int32) (rb : Nat → Int32) (rfive : Nat → Int32) (rleft : Nat → Int32) (rright : Nat → Int32) (a1 : Int64) (a2 : Int32) : Option (Int32 × Int32 × Int32 × Int32 × Int32 × Int32 × Int32 × Int32 × (Nat → Int32) × (Nat → Int32) × (Nat → Int32) × (Nat → Int32) × (Nat → Int32) × (Nat → Int32)) := (F_Rs_shortest n aN bN fN lN_ rN twos rpow ra rb rfive rleft rright a1 a2).bind fun x1 => lt_ (fun (y2 : Int64) (y3 : Int32) (rlaid_4 : Int32) (aN_5 : Int32) (bN_6 : Int32) (fN_7 : Int32) (lN__8 : Int32) (rN_9 : Int32) (twos_10 : Int32) (rpow_11 : Int32) (wri_12 : (Nat → Int32)) (ra_13 : (Nat → Int32)) (rb_14 : (Nat → Int32)) (rfive_15 : (Nat → Int32)) (rleft_16 : (Nat → Int32)) (rright_17 : (Nat → Int32)) => lt_ (fun (y18 : Int32) (rlaid_19 : Int32) (aN_20 : Int32) (bN_21 : Int32) (fN_22 : Int32) (lN__23 : Int32) (rN_24 : Int32) (twos_25 : Int32) (rpow_26 : Int32) (wri_27 : (Nat → Int32)) (ra_28 : (Nat → Int32)) (rb_29 : (Nat → Int32)) (rfive_30 : (Nat → Int32)) (rleft_31 : (Nat → Int32)) (rright_32 : (Nat → Int32)) => lt_ ((y3 + y18) - (1 : Int32)) fun x33 => lt_ (fun (rlaid_34 : Int32) (aN_35 : Int32) (bN_36 : Int32) (fN_37 : Int32) (lN__38 : Int32) (rN_39 : Int32) (twos_40 : Int32) (rpow_41 : Int32) (wri_42 : (Nat → Int32)) (ra_43 : (Nat → Int32)) (rb_44 : (Nat → Int32)) (rfive_45 : (Nat → Int32)) (rleft_46 : (Nat → Int32)) (rright_47 : (Nat → Int32)) => some (rlaid_34, aN_35, bN_36, fN_37, lN__38, rN_39, twos_40, rpow_41, wri_42, ra_43, rb_44, rfive_45, rleft_46, rright_47)) fun j271 => if (F_Rs_in x33 (0 : Int32) (6 : Int32)) = 0 then (if (F_Rs_in x33 (-3 : Int32) (-1 : Int32)) = 0 then ((F_Rs_layDigits n rlaid_19 wri_27 y2 (0 : Int32) (1 : Int32) y18).bind fun x48 => (F_Rs_lay n x48.1 x48.2 (46 : Int32)).bind fun x49 => lt_ (if y18 ≤ (1 : Int32) then (2 : Int32) else y18) fun x50 => (F_Rs_layDigits n x49.1 x49.2 y2 (1 : Int32) x50 y18).bind fun x51 => (F_Rs_lay n x51.1 x51.2 (69 : Int32)).bind fun x52 => lt_ (fun (rlaid_53 : Int32) (aN_54 : Int32) (bN_55 : Int32) (fN_56 : Int32) (lN__57 : Int32) (rN_58 : Int32) (twos_59 : Int32) (rpow_60 : Int32) (wri_61 : (Nat → Int32)) (ra_62 : (Nat → Int32)) (rb_63 : (Nat → Int32)) (rfive_64 : (Nat → Int32)) (rleft_65 : (Nat → Int32)) (rright_66 : (Nat → Int32)) => lt_ (if 0 ≤ x33 then x33 else -x33) fun x67 => (F_Rs_layNumber n rlaid_53 wri_61 x67).bind fun x68 => j271 x68.1 aN_54 bN_55 fN_56 lN__57 rN_58 twos_59 rpow_60 x68.2 ra_62 rb_63 rfive_64 rleft_65 rright_66) fun j254 => if 0 ≤ x33 then (j254 x52.1 aN_20 bN_21 fN_22 lN__23 rN_24 twos_25 rpow_26 x52.2 ra_28 rb_29 rfive_30 rleft_31 rright_32) else ((F_Rs_lay n x52.1 x52.2 (45 : Int32)).bind fun x69 => j254 x69.1 aN_20 bN_21 fN_22 lN__23 rN_24 twos_25 rpow_26 x69.2 ra_28 rb_29 rfive_30 rleft_31 rright_32)) else ((F_Rs_lay n rlaid_19 wri_27 (48 : Int32)).bind fun x70 => (F_Rs_lay n x70.1 x70.2 (46 : Int32)).bind fun x71 => lt_ (fun (rlaid_72 : Int32) (aN_73 : Int32) (bN_74 : Int32) (fN_75 : Int32) (lN__76 : Int32) (rN_77 : Int32) (twos_78 : Int32) (rpow_79 : Int32) (wri_80 : (Nat → Int32)) (ra_81 : (Nat → Int32)) (rb_82 : (Nat → Int32)) (rfive_83 : (Nat → Int32)) (rleft_84 : (Nat → Int32)) (rright_85 : (Nat → Int32)) => (F_Rs_layDigits n rlaid_72 wri_80 y2 (0 : Int32) y18 y18).bind fun x86 => j271 x86.1 aN_73 bN_74 fN_75 lN__76 rN_77 twos_78 rpow_79 x86.2 ra_81 rb_82 rfive_83 rleft_84 rright_85) fun j186 => F_Rs_layDecimal_L168 y2 y18 j186 n x33 x71.1 aN_20 bN_21 fN_22 lN__23 rN_24 twos_25 rpow_26 x71.2 ra_28 rb_29 rfive_30 rleft_31 rright_32)) else ((F_Rs_layDigits n rlaid_19 wri_27 y2 (0 : Int32) (x33 + (1 : Int32)) y18).bind fun x104 => (F_Rs_lay n x104.1 x104.2 (46 : Int32)).bind fun x105 => lt_ (if y18 ≤ (x33 + (1 : Int32)) then x33 + (2 : Int32) else y18) fun x106 => (F_Rs_layDigits n x105.1 x105.2 y2 (x33 + (1 : Int32)) x106 y18).bind fun x107 => j271 x107.1 aN_20 bN_21 fN_22 lN__23 rN_24 twos_25 rpow_26 x107.2 ra_28 rb_29 rfive_30 rleft_31 rright_32)) fun j69 => F_Rs_layDecimal_L46 y2 y3 j69 n (1 : Int32) y2 rlaid_4 aN_5 bN_6 fN_7 lN__8 rN_9 twos_10 rpow_11 wri_12 ra_13 rb_14 rfive_15 rleft_16 rright_17) fun j39 => F_Rs_layDecimal_L14 j39 n x1.1 x1.2.2.2.2.2.2.2.1 rlaid x1.2.1 x1.2.2.1 x1.2.2.2.1 x1.2.2.2.2.1 x1.2.2.2.2.2.1 x1.2.2.2.2.2.2.1 x1.2.2.2.2.2.2.2.1 wri x1.2.2.2.2.2.2.2.2.1 x1.2.2.2.2.2.2.2.2.2.1 x1.2.2.2.2.2.2.2.2.2.2.1 x1.2.2.2.2.2.2.2.2.2.2.2.1 x1.2.2.2.2.2.2.2.2.2.2.2.2
set_option maxHeartbeats 4000000 in
set_option maxRecDepth 100000 in
theorem c_Rs_layDecimal (l : Launch) (D : va_G) (A : Nat → Prop) (cI cL cC : ClassId) (ad : Nat → Nat) (X : va_W) (laid : Int32) (gone : Int32) (thr : Int32) (m1 : Int64) (m2 : Int64) (e1 : Int32) (e2 : Int32) (mi1 : Int32) (mi2 : Int32) (na1 : Int32) (na2 : Int32) (fa1 : Int32) (fa2 : Int32) (lets : Nat → Int32) (rlen : Int32) (rlaid : Int32) (rgone : Int32) (rthr : Int32) (were : Int32) (none_ : Int32) (beyo : Int32) (aN : Int32) (bN : Int32) (fN : Int32) (lN_ : Int32) (rN : Int32) (pN : Int32) (twos : Int32) (at_ : Int32) (rdig : Int32) (rpow : Int32) (good : Int32) (txt : Nat → Int32) (wri : Nat → Int32) (ra : Nat → Int32) (rb : Nat → Int32) (rfive : Nat → Int32) (rleft : Nat → Int32) (rright : Nat → Int32) (rpart : Nat → Int32) (n : Nat) (a1 : Int64) (a2 : Int32) (r : Int32 × Int32 × Int32 × Int32 × Int32 × Int32 × Int32 × Int32 × (Nat → Int32) × (Nat → Int32) × (Nat → Int32) × (Nat → Int32) × (Nat → Int32) × (Nat → Int32)) (h : F_Rs_layDecimal n rlaid aN bN fN lN_ rN twos rpow wri ra rb rfive rleft rright a1 a2 = some r) : Met l y_Rs_layDecimal (.code y_Rs_layDecimal b_Rs_layDecimal 10 none :: BIG) ({ frames := 7, cells := 0, slots := 0, locals := 191 } : Room) (va_Pc [.ref (ad 2), .long a1, .int a2] (gPre D A (tysV cI cL cC) (gM cI cL cC ad X laid gone thr m1 m2 e1 e2 mi1 mi2 na1 na2 fa1 fa2 lets rlen rlaid rgone rthr were none_ beyo aN bN fN lN_ rN pN twos at_ rdig rpow good txt wri ra rb rfive rleft rright rpart))) (gQ D A none (gM cI cL cC ad X laid gone thr m1 m2 e1 e2 mi1 mi2 na1 na2 fa1 fa2 lets rlen r.1 rgone rthr were none_ beyo r.2.1 r.2.2.1 r.2.2.2.1 r.2.2.2.2.1 r.2.2.2.2.2.1 pN r.2.2.2.2.2.2.1 at_ rdig r.2.2.2.2.2.2.2.1 good txt r.2.2.2.2.2.2.2.2.1 r.2.2.2.2.2.2.2.2.2.1 r.2.2.2.2.2.2.2.2.2.2.1 r.2.2.2.2.2.2.2.2.2.2.2.1 r.2.2.2.2.2.2.2.2.2.2.2.2.1 r.2.2.2.2.2.2.2.2.2.2.2.2.2 rpart)) 0 0 A := by
  refine gOpen_v rfl (Nat.le_of_ble_eq_true rfl) ?_
  intro p e s m args below meth c Q ls hx hb hml hown hts hT hNB hP hK hD hl hret
  have hown : s.vm.findClass R_Rs = some m.cls := hown
  have hS : va_S A s.heap s.heap [] := va_S.rf
  have hl : lv_has ls 10 [(0, .ref (ad 2)), (1, .long a1), (3, .int a2)] := hl
  have h : ((F_Rs_shortest n aN bN fN lN_ rN twos rpow ra rb rfive rleft rright a1 a2).bind fun x1 => lt_ (fun (y2 : Int64) (y3 : Int32) (rlaid_4 : Int32) (aN_5 : Int32) (bN_6 : Int32) (fN_7 : Int32) (lN__8 : Int32) (rN_9 : Int32) (twos_10 : Int32) (rpow_11 : Int32) (wri_12 : (Nat → Int32)) (ra_13 : (Nat → Int32)) (rb_14 : (Nat → Int32)) (rfive_15 : (Nat → Int32)) (rleft_16 : (Nat → Int32)) (rright_17 : (Nat → Int32)) => lt_ (fun (y18 : Int32) (rlaid_19 : Int32) (aN_20 : Int32) (bN_21 : Int32) (fN_22 : Int32) (lN__23 : Int32) (rN_24 : Int32) (twos_25 : Int32) (rpow_26 : Int32) (wri_27 : (Nat → Int32)) (ra_28 : (Nat → Int32)) (rb_29 : (Nat → Int32)) (rfive_30 : (Nat → Int32)) (rleft_31 : (Nat → Int32)) (rright_32 : (Nat → Int32)) => lt_ ((y3 + y18) - (1 : Int32)) fun x33 => lt_ (fun (rlaid_34 : Int32) (aN_35 : Int32) (bN_36 : Int32) (fN_37 : Int32) (lN__38 : Int32) (rN_39 : Int32) (twos_40 : Int32) (rpow_41 : Int32) (wri_42 : (Nat → Int32)) (ra_43 : (Nat → Int32)) (rb_44 : (Nat → Int32)) (rfive_45 : (Nat → Int32)) (rleft_46 : (Nat → Int32)) (rright_47 : (Nat → Int32)) => some (rlaid_34, aN_35, bN_36, fN_37, lN__38, rN_39, twos_40, rpow_41, wri_42, ra_43, rb_44, rfive_45, rleft_46, rright_47)) fun j271 => if (F_Rs_in x33 (0 : Int32) (6 : Int32)) = 0 then (if (F_Rs_in x33 (-3 : Int32) (-1 : Int32)) = 0 then ((F_Rs_layDigits n rlaid_19 wri_27 y2 (0 : Int32) (1 : Int32) y18).bind fun x48 => (F_Rs_lay n x48.1 x48.2 (46 : Int32)).bind fun x49 => lt_ (if y18 ≤ (1 : Int32) then (2 : Int32) else y18) fun x50 => (F_Rs_layDigits n x49.1 x49.2 y2 (1 : Int32) x50 y18).bind fun x51 => (F_Rs_lay n x51.1 x51.2 (69 : Int32)).bind fun x52 => lt_ (fun (rlaid_53 : Int32) (aN_54 : Int32) (bN_55 : Int32) (fN_56 : Int32) (lN__57 : Int32) (rN_58 : Int32) (twos_59 : Int32) (rpow_60 : Int32) (wri_61 : (Nat → Int32)) (ra_62 : (Nat → Int32)) (rb_63 : (Nat → Int32)) (rfive_64 : (Nat → Int32)) (rleft_65 : (Nat → Int32)) (rright_66 : (Nat → Int32)) => lt_ (if 0 ≤ x33 then x33 else -x33) fun x67 => (F_Rs_layNumber n rlaid_53 wri_61 x67).bind fun x68 => j271 x68.1 aN_54 bN_55 fN_56 lN__57 rN_58 twos_59 rpow_60 x68.2 ra_62 rb_63 rfive_64 rleft_65 rright_66) fun j254 => if 0 ≤ x33 then (j254 x52.1 aN_20 bN_21 fN_22 lN__23 rN_24 twos_25 rpow_26 x52.2 ra_28 rb_29 rfive_30 rleft_31 rright_32) else ((F_Rs_lay n x52.1 x52.2 (45 : Int32)).bind fun x69 => j254 x69.1 aN_20 bN_21 fN_22 lN__23 rN_24 twos_25 rpow_26 x69.2 ra_28 rb_29 rfive_30 rleft_31 rright_32)) else ((F_Rs_lay n rlaid_19 wri_27 (48 : Int32)).bind fun x70 => (F_Rs_lay n x70.1 x70.2 (46 : Int32)).bind fun x71 => lt_ (fun (rlaid_72 : Int32) (aN_73 : Int32) (bN_74 : Int32) (fN_75 : Int32) (lN__76 : Int32) (rN_77 : Int32) (twos_78 : Int32) (rpow_79 : Int32) (wri_80 : (Nat → Int32)) (ra_81 : (Nat → Int32)) (rb_82 : (Nat → Int32)) (rfive_83 : (Nat → Int32)) (rleft_84 : (Nat → Int32)) (rright_85 : (Nat → Int32)) => (F_Rs_layDigits n rlaid_72 wri_80 y2 (0 : Int32) y18 y18).bind fun x86 => j271 x86.1 aN_73 bN_74 fN_75 lN__76 rN_77 twos_78 rpow_79 x86.2 ra_81 rb_82 rfive_83 rleft_84 rright_85) fun j186 => F_Rs_layDecimal_L168 y2 y18 j186 n x33 x71.1 aN_20 bN_21 fN_22 lN__23 rN_24 twos_25 rpow_26 x71.2 ra_28 rb_29 rfive_30 rleft_31 rright_32)) else ((F_Rs_layDigits n rlaid_19 wri_27 y2 (0 : Int32) (x33 + (1 : Int32)) y18).bind fun x104 => (F_Rs_lay n x104.1 x104.2 (46 : Int32)).bind fun x105 => lt_ (if y18 ≤ (x33 + (1 : Int32)) then x33 + (2 : Int32) else y18) fun x106 => (F_Rs_layDigits n x105.1 x105.2 y2 (x33 + (1 : Int32)) x106 y18).bind fun x107 => j271 x107.1 aN_20 bN_21 fN_22 lN__23 rN_24 twos_25 rpow_26 x107.2 ra_28 rb_29 rfive_30 rleft_31 rright_32)) fun j69 => F_Rs_layDecimal_L46 y2 y3 j69 n (1 : Int32) y2 rlaid_4 aN_5 bN_6 fN_7 lN__8 rN_9 twos_10 rpow_11 wri_12 ra_13 rb_14 rfive_15 rleft_16 rright_17) fun j39 => F_Rs_layDecimal_L14 j39 n x1.1 x1.2.2.2.2.2.2.2.1 rlaid x1.2.1 x1.2.2.1 x1.2.2.2.1 x1.2.2.2.2.1 x1.2.2.2.2.2.1 x1.2.2.2.2.2.2.1 x1.2.2.2.2.2.2.2.1 wri x1.2.2.2.2.2.2.2.2.1 x1.2.2.2.2.2.2.2.2.2.1 x1.2.2.2.2.2.2.2.2.2.2.1 x1.2.2.2.2.2.2.2.2.2.2.2.1 x1.2.2.2.2.2.2.2.2.2.2.2.2) = some r := h
  refine lv_aload_n hx hb d_Rs_layDecimal_0 rfl (lv_at hl 0 rfl) ?_
  refine lv_lload_n hx hb d_Rs_layDecimal_1 rfl (lv_at hl 1 rfl) ?_
  refine lv_iload_n hx hb d_Rs_layDecimal_2 rfl (lv_at hl 2 rfl) ?_
  obtain ⟨x1, e_x1, h⟩ := bd_o h
  refine q_GV (D := D) (A := A) (C := R_Rs) (b := ad 2) (As := [.long a1, .int a2]) (rest := []) (n := 2) hx hb hml hown hts (c_Rs_shortest l D A cI cL cC ad X laid gone thr m1 m2 e1 e2 mi1 mi2 na1 na2 fa1 fa2 lets rlen rlaid rgone rthr were none_ beyo aN bN fN lN_ rN pN twos at_ rdig rpow good txt wri ra rb rfive rleft rright rpart n a1 a2 x1 e_x1) rfl rfl m_388 m_389 m_390 m_391 m_318 (by decide +kernel) ⟨Nat.le_of_ble_eq_true rfl, Nat.le_of_ble_eq_true rfl⟩ (va_recv hK hP (ci := 5) rfl (q0 := 2) rfl) hNB hK hP hD hS rfl hl.1 rfl (Nat.le_of_ble_eq_true rfl) d_Rs_layDecimal_3 ⟨Nat.zero_le _, Nat.zero_le _⟩ (fun H locs hP hD hS => ?_)
  have hP : va_P D cls (gM cI cL cC ad X laid gone thr m1 m2 e1 e2 mi1 mi2 na1 na2 fa1 fa2 lets rlen rlaid rgone rthr were none_ beyo x1.2.1 x1.2.2.1 x1.2.2.2.1 x1.2.2.2.2.1 x1.2.2.2.2.2.1 pN x1.2.2.2.2.2.2.1 at_ rdig x1.2.2.2.2.2.2.2.1 good txt wri x1.2.2.2.2.2.2.2.2.1 x1.2.2.2.2.2.2.2.2.2.1 x1.2.2.2.2.2.2.2.2.2.2.1 x1.2.2.2.2.2.2.2.2.2.2.2.1 x1.2.2.2.2.2.2.2.2.2.2.2.2 rpart) H := hP
  have hD : va_D A (gM cI cL cC ad X laid gone thr m1 m2 e1 e2 mi1 mi2 na1 na2 fa1 fa2 lets rlen rlaid rgone rthr were none_ beyo x1.2.1 x1.2.2.1 x1.2.2.2.1 x1.2.2.2.2.1 x1.2.2.2.2.2.1 pN x1.2.2.2.2.2.2.1 at_ rdig x1.2.2.2.2.2.2.2.1 good txt wri x1.2.2.2.2.2.2.2.2.1 x1.2.2.2.2.2.2.2.2.2.1 x1.2.2.2.2.2.2.2.2.2.2.1 x1.2.2.2.2.2.2.2.2.2.2.2.1 x1.2.2.2.2.2.2.2.2.2.2.2.2 rpart) := hD
  refine lv_lstore hx hb d_Rs_layDecimal_6 hl (by decide) rfl (fun ls hl => ?_)
  have hl : lv_has ls 10 [(4, .long x1.1), (0, .ref (ad 2)), (1, .long a1), (3, .int a2)] := hl
  refine lv_aload_n hx hb d_Rs_layDecimal_8 rfl (lv_at hl 1 rfl) ?_
  refine va_get (D := D) (ci := 5) (C := R_Rs) (T := T_Rs) (N := 26) hx hb hT in_Rs hown hK hP 2 rfl rfl 24 (by decide) (hT _ m_378) (fun _ h9 => h9) rfl d_Rs_layDecimal_9 ?_
  refine lv_istore hx hb d_Rs_layDecimal_12 hl (by decide) rfl (fun ls hl => ?_)
  have hl : lv_has ls 10 [(6, .int x1.2.2.2.2.2.2.2.1), (4, .long x1.1), (0, .ref (ad 2)), (1, .long a1), (3, .int a2)] := hl
  obtain ⟨j39, e_j39, h⟩ := lt_o h
  have hJ39 : ∀ (y2 : Int64) (y3 : Int32) (rlaid_4 : Int32) (aN_5 : Int32) (bN_6 : Int32) (fN_7 : Int32) (lN__8 : Int32) (rN_9 : Int32) (twos_10 : Int32) (rpow_11 : Int32) (wri_12 : (Nat → Int32)) (ra_13 : (Nat → Int32)) (rb_14 : (Nat → Int32)) (rfive_15 : (Nat → Int32)) (rleft_16 : (Nat → Int32)) (rright_17 : (Nat → Int32)) (ls : Array Slot) (H : Heap) (locs : List Loc), lv_has ls 10 [(0, .ref (ad 2)), (4, .long y2), (6, .int y3)] → va_P D cls (gM cI cL cC ad X laid gone thr m1 m2 e1 e2 mi1 mi2 na1 na2 fa1 fa2 lets rlen rlaid_4 rgone rthr were none_ beyo aN_5 bN_6 fN_7 lN__8 rN_9 pN twos_10 at_ rdig rpow_11 good txt wri_12 ra_13 rb_14 rfive_15 rleft_16 rright_17 rpart) H → va_D A (gM cI cL cC ad X laid gone thr m1 m2 e1 e2 mi1 mi2 na1 na2 fa1 fa2 lets rlen rlaid_4 rgone rthr were none_ beyo aN_5 bN_6 fN_7 lN__8 rN_9 pN twos_10 at_ rdig rpow_11 good txt wri_12 ra_13 rb_14 rfive_15 rleft_16 rright_17 rpart) → va_S A s.heap H locs → j39 y2 y3 rlaid_4 aN_5 bN_6 fN_7 lN__8 rN_9 twos_10 rpow_11 wri_12 ra_13 rb_14 rfive_15 rleft_16 rright_17 = some r → W p l e ({ frames := 7, cells := 0, slots := 0, locals := 191 } : Room) s m args below meth c H locs 0 0 Q (F0 m 39 ls []) := by
    intro y2 y3 rlaid_4 aN_5 bN_6 fN_7 lN__8 rN_9 twos_10 rpow_11 wri_12 ra_13 rb_14 rfive_15 rleft_16 rright_17 ls H locs hl hP hD hS h
    rw [e_j39] at h
    refine lv_iconst hx hb d_Rs_layDecimal_39 ic_1 ?_
    refine lv_istore hx hb d_Rs_layDecimal_40 hl (by decide) rfl (fun ls hl => ?_)
    have hl : lv_has ls 10 [(7, .int (1 : Int32)), (0, .ref (ad 2)), (4, .long y2), (6, .int y3)] := hl
    refine lv_lload hx hb d_Rs_layDecimal_42 (lv_at hl 2 rfl) ?_
    refine lv_lstore hx hb d_Rs_layDecimal_44 hl (by decide) rfl (fun ls hl => ?_)
    have hl : lv_has ls 10 [(8, .long y2), (7, .int (1 : Int32)), (0, .ref (ad 2)), (4, .long y2), (6, .int y3)] := hl
    obtain ⟨j69, e_j69, h⟩ := lt_o h
    have hJ69 : ∀ (y18 : Int32) (rlaid_19 : Int32) (aN_20 : Int32) (bN_21 : Int32) (fN_22 : Int32) (lN__23 : Int32) (rN_24 : Int32) (twos_25 : Int32) (rpow_26 : Int32) (wri_27 : (Nat → Int32)) (ra_28 : (Nat → Int32)) (rb_29 : (Nat → Int32)) (rfive_30 : (Nat → Int32)) (rleft_31 : (Nat → Int32)) (rright_32 : (Nat → Int32)) (ls : Array Slot) (H : Heap) (locs : List Loc), lv_has ls 10 [(0, .ref (ad 2)), (4, .long y2), (6, .int y3), (7, .int y18)] → va_P D cls (gM cI cL cC ad X laid gone thr m1 m2 e1 e2 mi1 mi2 na1 na2 fa1 fa2 lets rlen rlaid_19 rgone rthr were none_ beyo aN_20 bN_21 fN_22 lN__23 rN_24 pN twos_25 at_ rdig rpow_26 good txt wri_27 ra_28 rb_29 rfive_30 rleft_31 rright_32 rpart) H → va_D A (gM cI cL cC ad X laid gone thr m1 m2 e1 e2 mi1 mi2 na1 na2 fa1 fa2 lets rlen rlaid_19 rgone rthr were none_ beyo aN_20 bN_21 fN_22 lN__23 rN_24 pN twos_25 at_ rdig rpow_26 good txt wri_27 ra_28 rb_29 rfive_30 rleft_31 rright_32 rpart) → va_S A s.heap H locs → j69 y18 rlaid_19 aN_20 bN_21 fN_22 lN__23 rN_24 twos_25 rpow_26 wri_27 ra_28 rb_29 rfive_30 rleft_31 rright_32 = some r → W p l e ({ frames := 7, cells := 0, slots := 0, locals := 191 } : Room) s m args below meth c H locs 0 0 Q (F0 m 69 ls []) := by
      intro y18 rlaid_19 aN_20 bN_21 fN_22 lN__23 rN_24 twos_25 rpow_26 wri_27 ra_28 rb_29 rfive_30 rleft_31 rright_32 ls H locs hl hP hD hS h
      rw [e_j69] at h
      refine lv_iload hx hb d_Rs_layDecimal_69 (lv_at hl 2 rfl) ?_
      refine lv_iload hx hb d_Rs_layDecimal_71 (lv_at hl 3 rfl) ?_
      refine lv_iadd hx hb d_Rs_layDecimal_73 ?_
      refine lv_iconst hx hb d_Rs_layDecimal_74 ic_1 ?_
      refine lv_isub hx hb d_Rs_layDecimal_75 ?_
      refine lv_topi (fun x33 e_x33 => ?_)
      have h := lt_h e_x33 h
      refine lv_istore hx hb d_Rs_layDecimal_76 hl (by decide) rfl (fun ls hl => ?_)
      have hl : lv_has ls 10 [(8, .int x33), (0, .ref (ad 2)), (4, .long y2), (6, .int y3), (7, .int y18)] := hl
      refine lv_iload hx hb d_Rs_layDecimal_78 (lv_at hl 0 rfl) ?_
      refine lv_iconst hx hb d_Rs_layDecimal_80 ic_0 ?_
      refine lv_bipush hx hb d_Rs_layDecimal_81 bp_6 ?_
      refine q_S (As := [.int x33, .int (0 : Int32), .int (6 : Int32)]) (rest := []) (n := 3) hx hb hml hown hts (c_Rs_in l x33 (0 : Int32) (6 : Int32)) rfl rfl m_392 m_393 m_394 m_318 (by decide +kernel) ⟨Nat.le_of_ble_eq_true rfl, Nat.le_of_ble_eq_true rfl⟩ (p0_bl) (fun U hU hW => p0_mv hU hW hNB) rfl hl.1 rfl (Nat.le_of_ble_eq_true rfl) d_Rs_layDecimal_83 ⟨Nat.zero_le _, Nat.zero_le _⟩ ?_
      obtain ⟨j271, e_j271, h⟩ := lt_o h
      have hJ271 : ∀ (rlaid_34 : Int32) (aN_35 : Int32) (bN_36 : Int32) (fN_37 : Int32) (lN__38 : Int32) (rN_39 : Int32) (twos_40 : Int32) (rpow_41 : Int32) (wri_42 : (Nat → Int32)) (ra_43 : (Nat → Int32)) (rb_44 : (Nat → Int32)) (rfive_45 : (Nat → Int32)) (rleft_46 : (Nat → Int32)) (rright_47 : (Nat → Int32)) (ls : Array Slot) (H : Heap) (locs : List Loc), lv_has ls 10 [] → va_P D cls (gM cI cL cC ad X laid gone thr m1 m2 e1 e2 mi1 mi2 na1 na2 fa1 fa2 lets rlen rlaid_34 rgone rthr were none_ beyo aN_35 bN_36 fN_37 lN__38 rN_39 pN twos_40 at_ rdig rpow_41 good txt wri_42 ra_43 rb_44 rfive_45 rleft_46 rright_47 rpart) H → va_D A (gM cI cL cC ad X laid gone thr m1 m2 e1 e2 mi1 mi2 na1 na2 fa1 fa2 lets rlen rlaid_34 rgone rthr were none_ beyo aN_35 bN_36 fN_37 lN__38 rN_39 pN twos_40 at_ rdig rpow_41 good txt wri_42 ra_43 rb_44 rfive_45 rleft_46 rright_47 rpart) → va_S A s.heap H locs → j271 rlaid_34 aN_35 bN_36 fN_37 lN__38 rN_39 twos_40 rpow_41 wri_42 ra_43 rb_44 rfive_45 rleft_46 rright_47 = some r → W p l e ({ frames := 7, cells := 0, slots := 0, locals := 191 } : Room) s m args below meth c H locs 0 0 Q (F0 m 271 ls []) := by
        intro rlaid_34 aN_35 bN_36 fN_37 lN__38 rN_39 twos_40 rpow_41 wri_42 ra_43 rb_44 rfive_45 rleft_46 rright_47 ls H locs hl hP hD hS h
        rw [e_j271] at h
        obtain rfl := Option.some.inj h
        exact hret 271 ls _ _ hP hD hS d_Rs_layDecimal_271
      refine lv_if_eq (tgt := 141) hx hb d_Rs_layDecimal_86 rfl (fun hc => ?_) (fun hc => ?_)
      · have h := ite_t hc h
        refine lv_iload hx hb d_Rs_layDecimal_141 (lv_at hl 0 rfl) ?_
        refine lv_bipush hx hb d_Rs_layDecimal_143 bp_m3 ?_
        refine lv_iconst hx hb d_Rs_layDecimal_145 ic_m1 ?_
        refine q_S (As := [.int x33, .int (-3 : Int32), .int (-1 : Int32)]) (rest := []) (n := 3) hx hb hml hown hts (c_Rs_in l x33 (-3 : Int32) (-1 : Int32)) rfl rfl m_392 m_393 m_394 m_318 (by decide +kernel) ⟨Nat.le_of_ble_eq_true rfl, Nat.le_of_ble_eq_true rfl⟩ (p0_bl) (fun U hU hW => p0_mv hU hW hNB) rfl hl.1 rfl (Nat.le_of_ble_eq_true rfl) d_Rs_layDecimal_146 ⟨Nat.zero_le _, Nat.zero_le _⟩ ?_
        refine lv_if_eq (tgt := 200) hx hb d_Rs_layDecimal_149 rfl (fun hc => ?_) (fun hc => ?_)
        · have h := ite_t hc h
          refine lv_aload_n hx hb d_Rs_layDecimal_200 rfl (lv_at hl 1 rfl) ?_
          refine lv_lload hx hb d_Rs_layDecimal_201 (lv_at hl 2 rfl) ?_
          refine lv_iconst hx hb d_Rs_layDecimal_203 ic_0 ?_
          refine lv_iconst hx hb d_Rs_layDecimal_204 ic_1 ?_
          refine lv_iload hx hb d_Rs_layDecimal_205 (lv_at hl 4 rfl) ?_
          obtain ⟨x48, e_x48, h⟩ := bd_o h
          refine q_GV (D := D) (A := A) (C := R_Rs) (b := ad 2) (As := [.long y2, .int (0 : Int32), .int (1 : Int32), .int y18]) (rest := []) (n := 4) hx hb hml hown hts (c_Rs_layDigits l D A cI cL cC ad X laid gone thr m1 m2 e1 e2 mi1 mi2 na1 na2 fa1 fa2 lets rlen rlaid_19 rgone rthr were none_ beyo aN_20 bN_21 fN_22 lN__23 rN_24 pN twos_25 at_ rdig rpow_26 good txt wri_27 ra_28 rb_29 rfive_30 rleft_31 rright_32 rpart n y2 (0 : Int32) (1 : Int32) y18 x48 e_x48) rfl rfl m_395 m_396 m_397 m_398 m_318 (by decide +kernel) ⟨Nat.le_of_ble_eq_true rfl, Nat.le_of_ble_eq_true rfl⟩ (va_recv hK hP (ci := 5) rfl (q0 := 2) rfl) hNB hK hP hD hS rfl hl.1 rfl (Nat.le_of_ble_eq_true rfl) d_Rs_layDecimal_207 ⟨Nat.zero_le _, Nat.zero_le _⟩ (fun H locs hP hD hS => ?_)
          have hP : va_P D cls (gM cI cL cC ad X laid gone thr m1 m2 e1 e2 mi1 mi2 na1 na2 fa1 fa2 lets rlen x48.1 rgone rthr were none_ beyo aN_20 bN_21 fN_22 lN__23 rN_24 pN twos_25 at_ rdig rpow_26 good txt x48.2 ra_28 rb_29 rfive_30 rleft_31 rright_32 rpart) H := hP
          have hD : va_D A (gM cI cL cC ad X laid gone thr m1 m2 e1 e2 mi1 mi2 na1 na2 fa1 fa2 lets rlen x48.1 rgone rthr were none_ beyo aN_20 bN_21 fN_22 lN__23 rN_24 pN twos_25 at_ rdig rpow_26 good txt x48.2 ra_28 rb_29 rfive_30 rleft_31 rright_32 rpart) := hD
          refine lv_aload_n hx hb d_Rs_layDecimal_210 rfl (lv_at hl 1 rfl) ?_
          refine lv_bipush hx hb d_Rs_layDecimal_211 bp_46 ?_
          obtain ⟨x49, e_x49, h⟩ := bd_o h
          refine q_GV (D := D) (A := A) (C := R_Rs) (b := ad 2) (As := [.int (46 : Int32)]) (rest := []) (n := 1) hx hb hml hown hts (c_Rs_lay l D A cI cL cC ad X laid gone thr m1 m2 e1 e2 mi1 mi2 na1 na2 fa1 fa2 lets rlen x48.1 rgone rthr were none_ beyo aN_20 bN_21 fN_22 lN__23 rN_24 pN twos_25 at_ rdig rpow_26 good txt x48.2 ra_28 rb_29 rfive_30 rleft_31 rright_32 rpart n (46 : Int32) x49 e_x49) rfl rfl m_314 m_315 m_316 m_317 m_318 (by decide +kernel) ⟨Nat.le_of_ble_eq_true rfl, Nat.le_of_ble_eq_true rfl⟩ (va_recv hK hP (ci := 5) rfl (q0 := 2) rfl) hNB hK hP hD hS rfl hl.1 rfl (Nat.le_of_ble_eq_true rfl) d_Rs_layDecimal_213 ⟨Nat.zero_le _, Nat.zero_le _⟩ (fun H locs hP hD hS => ?_)
          have hP : va_P D cls (gM cI cL cC ad X laid gone thr m1 m2 e1 e2 mi1 mi2 na1 na2 fa1 fa2 lets rlen x49.1 rgone rthr were none_ beyo aN_20 bN_21 fN_22 lN__23 rN_24 pN twos_25 at_ rdig rpow_26 good txt x49.2 ra_28 rb_29 rfive_30 rleft_31 rright_32 rpart) H := hP
          have hD : va_D A (gM cI cL cC ad X laid gone thr m1 m2 e1 e2 mi1 mi2 na1 na2 fa1 fa2 lets rlen x49.1 rgone rthr were none_ beyo aN_20 bN_21 fN_22 lN__23 rN_24 pN twos_25 at_ rdig rpow_26 good txt x49.2 ra_28 rb_29 rfive_30 rleft_31 rright_32 rpart) := hD
          refine lv_aload_n hx hb d_Rs_layDecimal_216 rfl (lv_at hl 1 rfl) ?_
          refine lv_lload hx hb d_Rs_layDecimal_217 (lv_at hl 2 rfl) ?_
          refine lv_iconst hx hb d_Rs_layDecimal_219 ic_1 ?_
          refine lv_iload hx hb d_Rs_layDecimal_220 (lv_at hl 4 rfl) ?_
          refine lv_iconst hx hb d_Rs_layDecimal_222 ic_1 ?_
          obtain ⟨x50, e_x50, h⟩ := lt_o h
          have hJ232 : ∀ (x50' : Int32) (ls : Array Slot), x50 = x50' → lv_has ls 10 [(0, .ref (ad 2)), (7, .int y18), (8, .int x33)] → W p l e ({ frames := 7, cells := 0, slots := 0, locals := 191 } : Room) s m args below meth c H locs 0 0 Q (F0 m 232 ls [.int x50', .int (1 : Int32), .long y2, .ref (ad 2)]) := by
            intro x50' ls q_x50 hl
            subst q_x50
            refine lv_iload hx hb d_Rs_layDecimal_232 (lv_at hl 1 rfl) ?_
            obtain ⟨x51, e_x51, h⟩ := bd_o h
            refine q_GV (D := D) (A := A) (C := R_Rs) (b := ad 2) (As := [.long y2, .int (1 : Int32), .int x50, .int y18]) (rest := []) (n := 4) hx hb hml hown hts (c_Rs_layDigits l D A cI cL cC ad X laid gone thr m1 m2 e1 e2 mi1 mi2 na1 na2 fa1 fa2 lets rlen x49.1 rgone rthr were none_ beyo aN_20 bN_21 fN_22 lN__23 rN_24 pN twos_25 at_ rdig rpow_26 good txt x49.2 ra_28 rb_29 rfive_30 rleft_31 rright_32 rpart n y2 (1 : Int32) x50 y18 x51 e_x51) rfl rfl m_395 m_396 m_397 m_398 m_318 (by decide +kernel) ⟨Nat.le_of_ble_eq_true rfl, Nat.le_of_ble_eq_true rfl⟩ (va_recv hK hP (ci := 5) rfl (q0 := 2) rfl) hNB hK hP hD hS rfl hl.1 rfl (Nat.le_of_ble_eq_true rfl) d_Rs_layDecimal_234 ⟨Nat.zero_le _, Nat.zero_le _⟩ (fun H locs hP hD hS => ?_)
            have hP : va_P D cls (gM cI cL cC ad X laid gone thr m1 m2 e1 e2 mi1 mi2 na1 na2 fa1 fa2 lets rlen x51.1 rgone rthr were none_ beyo aN_20 bN_21 fN_22 lN__23 rN_24 pN twos_25 at_ rdig rpow_26 good txt x51.2 ra_28 rb_29 rfive_30 rleft_31 rright_32 rpart) H := hP
            have hD : va_D A (gM cI cL cC ad X laid gone thr m1 m2 e1 e2 mi1 mi2 na1 na2 fa1 fa2 lets rlen x51.1 rgone rthr were none_ beyo aN_20 bN_21 fN_22 lN__23 rN_24 pN twos_25 at_ rdig rpow_26 good txt x51.2 ra_28 rb_29 rfive_30 rleft_31 rright_32 rpart) := hD
            refine lv_aload_n hx hb d_Rs_layDecimal_237 rfl (lv_at hl 0 rfl) ?_
            refine lv_bipush hx hb d_Rs_layDecimal_238 bp_69 ?_
            obtain ⟨x52, e_x52, h⟩ := bd_o h
            refine q_GV (D := D) (A := A) (C := R_Rs) (b := ad 2) (As := [.int (69 : Int32)]) (rest := []) (n := 1) hx hb hml hown hts (c_Rs_lay l D A cI cL cC ad X laid gone thr m1 m2 e1 e2 mi1 mi2 na1 na2 fa1 fa2 lets rlen x51.1 rgone rthr were none_ beyo aN_20 bN_21 fN_22 lN__23 rN_24 pN twos_25 at_ rdig rpow_26 good txt x51.2 ra_28 rb_29 rfive_30 rleft_31 rright_32 rpart n (69 : Int32) x52 e_x52) rfl rfl m_314 m_315 m_316 m_317 m_318 (by decide +kernel) ⟨Nat.le_of_ble_eq_true rfl, Nat.le_of_ble_eq_true rfl⟩ (va_recv hK hP (ci := 5) rfl (q0 := 2) rfl) hNB hK hP hD hS rfl hl.1 rfl (Nat.le_of_ble_eq_true rfl) d_Rs_layDecimal_240 ⟨Nat.zero_le _, Nat.zero_le _⟩ (fun H locs hP hD hS => ?_)
            have hP : va_P D cls (gM cI cL cC ad X laid gone thr m1 m2 e1 e2 mi1 mi2 na1 na2 fa1 fa2 lets rlen x52.1 rgone rthr were none_ beyo aN_20 bN_21 fN_22 lN__23 rN_24 pN twos_25 at_ rdig rpow_26 good txt x52.2 ra_28 rb_29 rfive_30 rleft_31 rright_32 rpart) H := hP
            have hD : va_D A (gM cI cL cC ad X laid gone thr m1 m2 e1 e2 mi1 mi2 na1 na2 fa1 fa2 lets rlen x52.1 rgone rthr were none_ beyo aN_20 bN_21 fN_22 lN__23 rN_24 pN twos_25 at_ rdig rpow_26 good txt x52.2 ra_28 rb_29 rfive_30 rleft_31 rright_32 rpart) := hD
            refine lv_iload hx hb d_Rs_layDecimal_243 (lv_at hl 2 rfl) ?_
            obtain ⟨j254, e_j254, h⟩ := lt_o h
            have hJ254 : ∀ (rlaid_53 : Int32) (aN_54 : Int32) (bN_55 : Int32) (fN_56 : Int32) (lN__57 : Int32) (rN_58 : Int32) (twos_59 : Int32) (rpow_60 : Int32) (wri_61 : (Nat → Int32)) (ra_62 : (Nat → Int32)) (rb_63 : (Nat → Int32)) (rfive_64 : (Nat → Int32)) (rleft_65 : (Nat → Int32)) (rright_66 : (Nat → Int32)) (ls : Array Slot) (H : Heap) (locs : List Loc), lv_has ls 10 [(0, .ref (ad 2)), (8, .int x33)] → va_P D cls (gM cI cL cC ad X laid gone thr m1 m2 e1 e2 mi1 mi2 na1 na2 fa1 fa2 lets rlen rlaid_53 rgone rthr were none_ beyo aN_54 bN_55 fN_56 lN__57 rN_58 pN twos_59 at_ rdig rpow_60 good txt wri_61 ra_62 rb_63 rfive_64 rleft_65 rright_66 rpart) H → va_D A (gM cI cL cC ad X laid gone thr m1 m2 e1 e2 mi1 mi2 na1 na2 fa1 fa2 lets rlen rlaid_53 rgone rthr were none_ beyo aN_54 bN_55 fN_56 lN__57 rN_58 pN twos_59 at_ rdig rpow_60 good txt wri_61 ra_62 rb_63 rfive_64 rleft_65 rright_66 rpart) → va_S A s.heap H locs → j254 rlaid_53 aN_54 bN_55 fN_56 lN__57 rN_58 twos_59 rpow_60 wri_61 ra_62 rb_63 rfive_64 rleft_65 rright_66 = some r → W p l e ({ frames := 7, cells := 0, slots := 0, locals := 191 } : Room) s m args below meth c H locs 0 0 Q (F0 m 254 ls []) := by
              intro rlaid_53 aN_54 bN_55 fN_56 lN__57 rN_58 twos_59 rpow_60 wri_61 ra_62 rb_63 rfive_64 rleft_65 rright_66 ls H locs hl hP hD hS h
              rw [e_j254] at h
              refine lv_aload_n hx hb d_Rs_layDecimal_254 rfl (lv_at hl 0 rfl) ?_
              refine lv_iload hx hb d_Rs_layDecimal_255 (lv_at hl 1 rfl) ?_
              obtain ⟨x67, e_x67, h⟩ := lt_o h
              have hJ268 : ∀ (x67' : Int32) (ls : Array Slot), x67 = x67' → lv_has ls 10 [] → W p l e ({ frames := 7, cells := 0, slots := 0, locals := 191 } : Room) s m args below meth c H locs 0 0 Q (F0 m 268 ls [.int x67', .ref (ad 2)]) := by
                intro x67' ls q_x67 hl
                subst q_x67
                obtain ⟨x68, e_x68, h⟩ := bd_o h
                refine q_GV (D := D) (A := A) (C := R_Rs) (b := ad 2) (As := [.int x67]) (rest := []) (n := 1) hx hb hml hown hts (c_Rs_layNumber l D A cI cL cC ad X laid gone thr m1 m2 e1 e2 mi1 mi2 na1 na2 fa1 fa2 lets rlen rlaid_53 rgone rthr were none_ beyo aN_54 bN_55 fN_56 lN__57 rN_58 pN twos_59 at_ rdig rpow_60 good txt wri_61 ra_62 rb_63 rfive_64 rleft_65 rright_66 rpart n x67 x68 e_x68) rfl rfl m_399 m_400 m_401 m_402 m_318 (by decide +kernel) ⟨Nat.le_of_ble_eq_true rfl, Nat.le_of_ble_eq_true rfl⟩ (va_recv hK hP (ci := 5) rfl (q0 := 2) rfl) hNB hK hP hD hS rfl hl.1 rfl (Nat.le_of_ble_eq_true rfl) d_Rs_layDecimal_268 ⟨Nat.zero_le _, Nat.zero_le _⟩ (fun H locs hP hD hS => ?_)
                have hP : va_P D cls (gM cI cL cC ad X laid gone thr m1 m2 e1 e2 mi1 mi2 na1 na2 fa1 fa2 lets rlen x68.1 rgone rthr were none_ beyo aN_54 bN_55 fN_56 lN__57 rN_58 pN twos_59 at_ rdig rpow_60 good txt x68.2 ra_62 rb_63 rfive_64 rleft_65 rright_66 rpart) H := hP
                have hD : va_D A (gM cI cL cC ad X laid gone thr m1 m2 e1 e2 mi1 mi2 na1 na2 fa1 fa2 lets rlen x68.1 rgone rthr were none_ beyo aN_54 bN_55 fN_56 lN__57 rN_58 pN twos_59 at_ rdig rpow_60 good txt x68.2 ra_62 rb_63 rfive_64 rleft_65 rright_66 rpart) := hD
                exact hJ271 _ _ _ _ _ _ _ _ _ _ _ _ _ _ ls _ _ (lv_sub hl [] rfl) hP hD hS h
              refine lv_if_ge (tgt := 266) hx hb d_Rs_layDecimal_257 rfl (fun hc => ?_) (fun hc => ?_)
              · have e_x67 := e_x67.trans (if_pos hc)
                refine lv_iload hx hb d_Rs_layDecimal_266 (lv_at hl 1 rfl) ?_
                exact hJ268 _ ls e_x67 (lv_sub hl [] rfl)
              · have e_x67 := e_x67.trans (if_neg hc)
                refine lv_iload hx hb d_Rs_layDecimal_260 (lv_at hl 1 rfl) ?_
                refine lv_ineg hx hb d_Rs_layDecimal_262 ?_
                refine lv_goto (tgt := 268) hx hb d_Rs_layDecimal_263 rfl ?_
                exact hJ268 _ ls e_x67 (lv_sub hl [] rfl)
            refine lv_if_ge (tgt := 254) hx hb d_Rs_layDecimal_245 rfl (fun hc => ?_) (fun hc => ?_)
            · have h := ite_t hc h
              exact hJ254 _ _ _ _ _ _ _ _ _ _ _ _ _ _ ls _ _ (lv_sub hl [0, 2] rfl) hP hD hS h
            · have h := ite_f hc h
              refine lv_aload_n hx hb d_Rs_layDecimal_248 rfl (lv_at hl 0 rfl) ?_
              refine lv_bipush hx hb d_Rs_layDecimal_249 bp_45 ?_
              obtain ⟨x69, e_x69, h⟩ := bd_o h
              refine q_GV (D := D) (A := A) (C := R_Rs) (b := ad 2) (As := [.int (45 : Int32)]) (rest := []) (n := 1) hx hb hml hown hts (c_Rs_lay l D A cI cL cC ad X laid gone thr m1 m2 e1 e2 mi1 mi2 na1 na2 fa1 fa2 lets rlen x52.1 rgone rthr were none_ beyo aN_20 bN_21 fN_22 lN__23 rN_24 pN twos_25 at_ rdig rpow_26 good txt x52.2 ra_28 rb_29 rfive_30 rleft_31 rright_32 rpart n (45 : Int32) x69 e_x69) rfl rfl m_314 m_315 m_316 m_317 m_318 (by decide +kernel) ⟨Nat.le_of_ble_eq_true rfl, Nat.le_of_ble_eq_true rfl⟩ (va_recv hK hP (ci := 5) rfl (q0 := 2) rfl) hNB hK hP hD hS rfl hl.1 rfl (Nat.le_of_ble_eq_true rfl) d_Rs_layDecimal_251 ⟨Nat.zero_le _, Nat.zero_le _⟩ (fun H locs hP hD hS => ?_)
              have hP : va_P D cls (gM cI cL cC ad X laid gone thr m1 m2 e1 e2 mi1 mi2 na1 na2 fa1 fa2 lets rlen x69.1 rgone rthr were none_ beyo aN_20 bN_21 fN_22 lN__23 rN_24 pN twos_25 at_ rdig rpow_26 good txt x69.2 ra_28 rb_29 rfive_30 rleft_31 rright_32 rpart) H := hP
              have hD : va_D A (gM cI cL cC ad X laid gone thr m1 m2 e1 e2 mi1 mi2 na1 na2 fa1 fa2 lets rlen x69.1 rgone rthr were none_ beyo aN_20 bN_21 fN_22 lN__23 rN_24 pN twos_25 at_ rdig rpow_26 good txt x69.2 ra_28 rb_29 rfive_30 rleft_31 rright_32 rpart) := hD
              exact hJ254 _ _ _ _ _ _ _ _ _ _ _ _ _ _ ls _ _ (lv_sub hl [0, 2] rfl) hP hD hS h
          refine lv_icmp_le (tgt := 231) hx hb d_Rs_layDecimal_223 rfl (fun hc => ?_) (fun hc => ?_)
          · have e_x50 := e_x50.trans (if_pos hc)
            refine lv_iconst hx hb d_Rs_layDecimal_231 ic_2 ?_
            exact hJ232 _ ls e_x50 (lv_sub hl [1, 4, 0] rfl)
          · have e_x50 := e_x50.trans (if_neg hc)
            refine lv_iload hx hb d_Rs_layDecimal_226 (lv_at hl 4 rfl) ?_
            refine lv_goto (tgt := 232) hx hb d_Rs_layDecimal_228 rfl ?_
            exact hJ232 _ ls e_x50 (lv_sub hl [1, 4, 0] rfl)
        · have h := ite_f hc h
          refine lv_aload_n hx hb d_Rs_layDecimal_152 rfl (lv_at hl 1 rfl) ?_
          refine lv_bipush hx hb d_Rs_layDecimal_153 bp_48 ?_
          obtain ⟨x70, e_x70, h⟩ := bd_o h
          refine q_GV (D := D) (A := A) (C := R_Rs) (b := ad 2) (As := [.int (48 : Int32)]) (rest := []) (n := 1) hx hb hml hown hts (c_Rs_lay l D A cI cL cC ad X laid gone thr m1 m2 e1 e2 mi1 mi2 na1 na2 fa1 fa2 lets rlen rlaid_19 rgone rthr were none_ beyo aN_20 bN_21 fN_22 lN__23 rN_24 pN twos_25 at_ rdig rpow_26 good txt wri_27 ra_28 rb_29 rfive_30 rleft_31 rright_32 rpart n (48 : Int32) x70 e_x70) rfl rfl m_314 m_315 m_316 m_317 m_318 (by decide +kernel) ⟨Nat.le_of_ble_eq_true rfl, Nat.le_of_ble_eq_true rfl⟩ (va_recv hK hP (ci := 5) rfl (q0 := 2) rfl) hNB hK hP hD hS rfl hl.1 rfl (Nat.le_of_ble_eq_true rfl) d_Rs_layDecimal_155 ⟨Nat.zero_le _, Nat.zero_le _⟩ (fun H locs hP hD hS => ?_)
          have hP : va_P D cls (gM cI cL cC ad X laid gone thr m1 m2 e1 e2 mi1 mi2 na1 na2 fa1 fa2 lets rlen x70.1 rgone rthr were none_ beyo aN_20 bN_21 fN_22 lN__23 rN_24 pN twos_25 at_ rdig rpow_26 good txt x70.2 ra_28 rb_29 rfive_30 rleft_31 rright_32 rpart) H := hP
          have hD : va_D A (gM cI cL cC ad X laid gone thr m1 m2 e1 e2 mi1 mi2 na1 na2 fa1 fa2 lets rlen x70.1 rgone rthr were none_ beyo aN_20 bN_21 fN_22 lN__23 rN_24 pN twos_25 at_ rdig rpow_26 good txt x70.2 ra_28 rb_29 rfive_30 rleft_31 rright_32 rpart) := hD
          refine lv_aload_n hx hb d_Rs_layDecimal_158 rfl (lv_at hl 1 rfl) ?_
          refine lv_bipush hx hb d_Rs_layDecimal_159 bp_46 ?_
          obtain ⟨x71, e_x71, h⟩ := bd_o h
          refine q_GV (D := D) (A := A) (C := R_Rs) (b := ad 2) (As := [.int (46 : Int32)]) (rest := []) (n := 1) hx hb hml hown hts (c_Rs_lay l D A cI cL cC ad X laid gone thr m1 m2 e1 e2 mi1 mi2 na1 na2 fa1 fa2 lets rlen x70.1 rgone rthr were none_ beyo aN_20 bN_21 fN_22 lN__23 rN_24 pN twos_25 at_ rdig rpow_26 good txt x70.2 ra_28 rb_29 rfive_30 rleft_31 rright_32 rpart n (46 : Int32) x71 e_x71) rfl rfl m_314 m_315 m_316 m_317 m_318 (by decide +kernel) ⟨Nat.le_of_ble_eq_true rfl, Nat.le_of_ble_eq_true rfl⟩ (va_recv hK hP (ci := 5) rfl (q0 := 2) rfl) hNB hK hP hD hS rfl hl.1 rfl (Nat.le_of_ble_eq_true rfl) d_Rs_layDecimal_161 ⟨Nat.zero_le _, Nat.zero_le _⟩ (fun H locs hP hD hS => ?_)
          have hP : va_P D cls (gM cI cL cC ad X laid gone thr m1 m2 e1 e2 mi1 mi2 na1 na2 fa1 fa2 lets rlen x71.1 rgone rthr were none_ beyo aN_20 bN_21 fN_22 lN__23 rN_24 pN twos_25 at_ rdig rpow_26 good txt x71.2 ra_28 rb_29 rfive_30 rleft_31 rright_32 rpart) H := hP
          have hD : va_D A (gM cI cL cC ad X laid gone thr m1 m2 e1 e2 mi1 mi2 na1 na2 fa1 fa2 lets rlen x71.1 rgone rthr were none_ beyo aN_20 bN_21 fN_22 lN__23 rN_24 pN twos_25 at_ rdig rpow_26 good txt x71.2 ra_28 rb_29 rfive_30 rleft_31 rright_32 rpart) := hD
          refine lv_iload hx hb d_Rs_layDecimal_164 (lv_at hl 0 rfl) ?_
          refine lv_istore hx hb d_Rs_layDecimal_166 hl (by decide) rfl (fun ls hl => ?_)
          have hl : lv_has ls 10 [(9, .int x33), (8, .int x33), (0, .ref (ad 2)), (4, .long y2), (6, .int y3), (7, .int y18)] := hl
          obtain ⟨j186, e_j186, h⟩ := lt_o h
          have hJ186 : ∀ (rlaid_72 : Int32) (aN_73 : Int32) (bN_74 : Int32) (fN_75 : Int32) (lN__76 : Int32) (rN_77 : Int32) (twos_78 : Int32) (rpow_79 : Int32) (wri_80 : (Nat → Int32)) (ra_81 : (Nat → Int32)) (rb_82 : (Nat → Int32)) (rfive_83 : (Nat → Int32)) (rleft_84 : (Nat → Int32)) (rright_85 : (Nat → Int32)) (ls : Array Slot) (H : Heap) (locs : List Loc), lv_has ls 10 [(0, .ref (ad 2)), (4, .long y2), (7, .int y18)] → va_P D cls (gM cI cL cC ad X laid gone thr m1 m2 e1 e2 mi1 mi2 na1 na2 fa1 fa2 lets rlen rlaid_72 rgone rthr were none_ beyo aN_73 bN_74 fN_75 lN__76 rN_77 pN twos_78 at_ rdig rpow_79 good txt wri_80 ra_81 rb_82 rfive_83 rleft_84 rright_85 rpart) H → va_D A (gM cI cL cC ad X laid gone thr m1 m2 e1 e2 mi1 mi2 na1 na2 fa1 fa2 lets rlen rlaid_72 rgone rthr were none_ beyo aN_73 bN_74 fN_75 lN__76 rN_77 pN twos_78 at_ rdig rpow_79 good txt wri_80 ra_81 rb_82 rfive_83 rleft_84 rright_85 rpart) → va_S A s.heap H locs → j186 rlaid_72 aN_73 bN_74 fN_75 lN__76 rN_77 twos_78 rpow_79 wri_80 ra_81 rb_82 rfive_83 rleft_84 rright_85 = some r → W p l e ({ frames := 7, cells := 0, slots := 0, locals := 191 } : Room) s m args below meth c H locs 0 0 Q (F0 m 186 ls []) := by
            intro rlaid_72 aN_73 bN_74 fN_75 lN__76 rN_77 twos_78 rpow_79 wri_80 ra_81 rb_82 rfive_83 rleft_84 rright_85 ls H locs hl hP hD hS h
            rw [e_j186] at h
            refine lv_aload_n hx hb d_Rs_layDecimal_186 rfl (lv_at hl 0 rfl) ?_
            refine lv_lload hx hb d_Rs_layDecimal_187 (lv_at hl 1 rfl) ?_
            refine lv_iconst hx hb d_Rs_layDecimal_189 ic_0 ?_
            refine lv_iload hx hb d_Rs_layDecimal_190 (lv_at hl 2 rfl) ?_
            refine lv_iload hx hb d_Rs_layDecimal_192 (lv_at hl 2 rfl) ?_
            obtain ⟨x86, e_x86, h⟩ := bd_o h
            refine q_GV (D := D) (A := A) (C := R_Rs) (b := ad 2) (As := [.long y2, .int (0 : Int32), .int y18, .int y18]) (rest := []) (n := 4) hx hb hml hown hts (c_Rs_layDigits l D A cI cL cC ad X laid gone thr m1 m2 e1 e2 mi1 mi2 na1 na2 fa1 fa2 lets rlen rlaid_72 rgone rthr were none_ beyo aN_73 bN_74 fN_75 lN__76 rN_77 pN twos_78 at_ rdig rpow_79 good txt wri_80 ra_81 rb_82 rfive_83 rleft_84 rright_85 rpart n y2 (0 : Int32) y18 y18 x86 e_x86) rfl rfl m_395 m_396 m_397 m_398 m_318 (by decide +kernel) ⟨Nat.le_of_ble_eq_true rfl, Nat.le_of_ble_eq_true rfl⟩ (va_recv hK hP (ci := 5) rfl (q0 := 2) rfl) hNB hK hP hD hS rfl hl.1 rfl (Nat.le_of_ble_eq_true rfl) d_Rs_layDecimal_194 ⟨Nat.zero_le _, Nat.zero_le _⟩ (fun H locs hP hD hS => ?_)
            have hP : va_P D cls (gM cI cL cC ad X laid gone thr m1 m2 e1 e2 mi1 mi2 na1 na2 fa1 fa2 lets rlen x86.1 rgone rthr were none_ beyo aN_73 bN_74 fN_75 lN__76 rN_77 pN twos_78 at_ rdig rpow_79 good txt x86.2 ra_81 rb_82 rfive_83 rleft_84 rright_85 rpart) H := hP
            have hD : va_D A (gM cI cL cC ad X laid gone thr m1 m2 e1 e2 mi1 mi2 na1 na2 fa1 fa2 lets rlen x86.1 rgone rthr were none_ beyo aN_73 bN_74 fN_75 lN__76 rN_77 pN twos_78 at_ rdig rpow_79 good txt x86.2 ra_81 rb_82 rfive_83 rleft_84 rright_85 rpart) := hD
            refine lv_goto (tgt := 271) hx hb d_Rs_layDecimal_197 rfl ?_
            exact hJ271 _ _ _ _ _ _ _ _ _ _ _ _ _ _ ls _ _ (lv_sub hl [] rfl) hP hD hS h
          have hL168 : ∀ (n : Nat) (y87 : Int32) (rlaid_88 : Int32) (aN_89 : Int32) (bN_90 : Int32) (fN_91 : Int32) (lN__92 : Int32) (rN_93 : Int32) (twos_94 : Int32) (rpow_95 : Int32) (wri_96 : (Nat → Int32)) (ra_97 : (Nat → Int32)) (rb_98 : (Nat → Int32)) (rfive_99 : (Nat → Int32)) (rleft_100 : (Nat → Int32)) (rright_101 : (Nat → Int32)) (ls : Array Slot) (H : Heap) (locs : List Loc), lv_has ls 10 [(0, .ref (ad 2)), (4, .long y2), (7, .int y18), (9, .int y87)] → va_P D cls (gM cI cL cC ad X laid gone thr m1 m2 e1 e2 mi1 mi2 na1 na2 fa1 fa2 lets rlen rlaid_88 rgone rthr were none_ beyo aN_89 bN_90 fN_91 lN__92 rN_93 pN twos_94 at_ rdig rpow_95 good txt wri_96 ra_97 rb_98 rfive_99 rleft_100 rright_101 rpart) H → va_D A (gM cI cL cC ad X laid gone thr m1 m2 e1 e2 mi1 mi2 na1 na2 fa1 fa2 lets rlen rlaid_88 rgone rthr were none_ beyo aN_89 bN_90 fN_91 lN__92 rN_93 pN twos_94 at_ rdig rpow_95 good txt wri_96 ra_97 rb_98 rfive_99 rleft_100 rright_101 rpart) → va_S A s.heap H locs → F_Rs_layDecimal_L168 y2 y18 j186 n y87 rlaid_88 aN_89 bN_90 fN_91 lN__92 rN_93 twos_94 rpow_95 wri_96 ra_97 rb_98 rfive_99 rleft_100 rright_101 = some r → W p l e ({ frames := 7, cells := 0, slots := 0, locals := 191 } : Room) s m args below meth c H locs 0 0 Q (F0 m 168 ls []) := by
            intro n
            induction n with
            | zero => intro y87 rlaid_88 aN_89 bN_90 fN_91 lN__92 rN_93 twos_94 rpow_95 wri_96 ra_97 rb_98 rfive_99 rleft_100 rright_101 ls H locs hl hP hD hS h; exact no_s h
            | succ n ih =>
              intro y87 rlaid_88 aN_89 bN_90 fN_91 lN__92 rN_93 twos_94 rpow_95 wri_96 ra_97 rb_98 rfive_99 rleft_100 rright_101 ls H locs hl hP hD hS h
              have h : (if (-1 : Int32) ≤ y87 then (j186 rlaid_88 aN_89 bN_90 fN_91 lN__92 rN_93 twos_94 rpow_95 wri_96 ra_97 rb_98 rfive_99 rleft_100 rright_101) else ((F_Rs_lay n rlaid_88 wri_96 (48 : Int32)).bind fun x102 => lt_ (y87 + Int32.ofInt 1) fun x103 => F_Rs_layDecimal_L168 y2 y18 j186 n x103 x102.1 aN_89 bN_90 fN_91 lN__92 rN_93 twos_94 rpow_95 x102.2 ra_97 rb_98 rfive_99 rleft_100 rright_101)) = some r := h
              refine lv_iload hx hb d_Rs_layDecimal_168 (lv_at hl 3 rfl) ?_
              refine lv_iconst hx hb d_Rs_layDecimal_170 ic_m1 ?_
              refine lv_icmp_ge (tgt := 186) hx hb d_Rs_layDecimal_171 rfl (fun hc => ?_) (fun hc => ?_)
              · have h := ite_t hc h
                exact hJ186 _ _ _ _ _ _ _ _ _ _ _ _ _ _ ls _ _ (lv_sub hl [0, 1, 2] rfl) hP hD hS h
              · have h := ite_f hc h
                refine lv_aload_n hx hb d_Rs_layDecimal_174 rfl (lv_at hl 0 rfl) ?_
                refine lv_bipush hx hb d_Rs_layDecimal_175 bp_48 ?_
                obtain ⟨x102, e_x102, h⟩ := bd_o h
                refine q_GV (D := D) (A := A) (C := R_Rs) (b := ad 2) (As := [.int (48 : Int32)]) (rest := []) (n := 1) hx hb hml hown hts (c_Rs_lay l D A cI cL cC ad X laid gone thr m1 m2 e1 e2 mi1 mi2 na1 na2 fa1 fa2 lets rlen rlaid_88 rgone rthr were none_ beyo aN_89 bN_90 fN_91 lN__92 rN_93 pN twos_94 at_ rdig rpow_95 good txt wri_96 ra_97 rb_98 rfive_99 rleft_100 rright_101 rpart n (48 : Int32) x102 e_x102) rfl rfl m_314 m_315 m_316 m_317 m_318 (by decide +kernel) ⟨Nat.le_of_ble_eq_true rfl, Nat.le_of_ble_eq_true rfl⟩ (va_recv hK hP (ci := 5) rfl (q0 := 2) rfl) hNB hK hP hD hS rfl hl.1 rfl (Nat.le_of_ble_eq_true rfl) d_Rs_layDecimal_177 ⟨Nat.zero_le _, Nat.zero_le _⟩ (fun H locs hP hD hS => ?_)
                have hP : va_P D cls (gM cI cL cC ad X laid gone thr m1 m2 e1 e2 mi1 mi2 na1 na2 fa1 fa2 lets rlen x102.1 rgone rthr were none_ beyo aN_89 bN_90 fN_91 lN__92 rN_93 pN twos_94 at_ rdig rpow_95 good txt x102.2 ra_97 rb_98 rfive_99 rleft_100 rright_101 rpart) H := hP
                have hD : va_D A (gM cI cL cC ad X laid gone thr m1 m2 e1 e2 mi1 mi2 na1 na2 fa1 fa2 lets rlen x102.1 rgone rthr were none_ beyo aN_89 bN_90 fN_91 lN__92 rN_93 pN twos_94 at_ rdig rpow_95 good txt x102.2 ra_97 rb_98 rfive_99 rleft_100 rright_101 rpart) := hD
                obtain ⟨x103, e_x103⟩ : ∃ z, z = y87 + Int32.ofInt 1 := ⟨_, rfl⟩
                have h := lt_h e_x103 h
                refine lv_iinc (k := 3) hx hb d_Rs_layDecimal_180 hl rfl e_x103.symm (by decide) rfl (fun ls hl => ?_)
                have hl : lv_has ls 10 [(9, .int x103), (0, .ref (ad 2)), (4, .long y2), (7, .int y18)] := hl
                refine lv_goto (tgt := 168) hx hb d_Rs_layDecimal_183 rfl ?_
                exact ih _ _ _ _ _ _ _ _ _ _ _ _ _ _ _ ls _ _ (lv_sub hl [1, 2, 3, 0] rfl) hP hD hS h
          exact hL168 n _ _ _ _ _ _ _ _ _ _ _ _ _ _ _ ls _ _ (lv_sub hl [2, 3, 5, 0] rfl) hP hD hS h
      · have h := ite_f hc h
        refine lv_aload_n hx hb d_Rs_layDecimal_89 rfl (lv_at hl 1 rfl) ?_
        refine lv_lload hx hb d_Rs_layDecimal_90 (lv_at hl 2 rfl) ?_
        refine lv_iconst hx hb d_Rs_layDecimal_92 ic_0 ?_
        refine lv_iload hx hb d_Rs_layDecimal_93 (lv_at hl 0 rfl) ?_
        refine lv_iconst hx hb d_Rs_layDecimal_95 ic_1 ?_
        refine lv_iadd hx hb d_Rs_layDecimal_96 ?_
        refine lv_iload hx hb d_Rs_layDecimal_97 (lv_at hl 4 rfl) ?_
        obtain ⟨x104, e_x104, h⟩ := bd_o h
        refine q_GV (D := D) (A := A) (C := R_Rs) (b := ad 2) (As := [.long y2, .int (0 : Int32), .int (x33 + (1 : Int32)), .int y18]) (rest := []) (n := 4) hx hb hml hown hts (c_Rs_layDigits l D A cI cL cC ad X laid gone thr m1 m2 e1 e2 mi1 mi2 na1 na2 fa1 fa2 lets rlen rlaid_19 rgone rthr were none_ beyo aN_20 bN_21 fN_22 lN__23 rN_24 pN twos_25 at_ rdig rpow_26 good txt wri_27 ra_28 rb_29 rfive_30 rleft_31 rright_32 rpart n y2 (0 : Int32) (x33 + (1 : Int32)) y18 x104 e_x104) rfl rfl m_395 m_396 m_397 m_398 m_318 (by decide +kernel) ⟨Nat.le_of_ble_eq_true rfl, Nat.le_of_ble_eq_true rfl⟩ (va_recv hK hP (ci := 5) rfl (q0 := 2) rfl) hNB hK hP hD hS rfl hl.1 rfl (Nat.le_of_ble_eq_true rfl) d_Rs_layDecimal_99 ⟨Nat.zero_le _, Nat.zero_le _⟩ (fun H locs hP hD hS => ?_)
        have hP : va_P D cls (gM cI cL cC ad X laid gone thr m1 m2 e1 e2 mi1 mi2 na1 na2 fa1 fa2 lets rlen x104.1 rgone rthr were none_ beyo aN_20 bN_21 fN_22 lN__23 rN_24 pN twos_25 at_ rdig rpow_26 good txt x104.2 ra_28 rb_29 rfive_30 rleft_31 rright_32 rpart) H := hP
        have hD : va_D A (gM cI cL cC ad X laid gone thr m1 m2 e1 e2 mi1 mi2 na1 na2 fa1 fa2 lets rlen x104.1 rgone rthr were none_ beyo aN_20 bN_21 fN_22 lN__23 rN_24 pN twos_25 at_ rdig rpow_26 good txt x104.2 ra_28 rb_29 rfive_30 rleft_31 rright_32 rpart) := hD
        refine lv_aload_n hx hb d_Rs_layDecimal_102 rfl (lv_at hl 1 rfl) ?_
        refine lv_bipush hx hb d_Rs_layDecimal_103 bp_46 ?_
        obtain ⟨x105, e_x105, h⟩ := bd_o h
        refine q_GV (D := D) (A := A) (C := R_Rs) (b := ad 2) (As := [.int (46 : Int32)]) (rest := []) (n := 1) hx hb hml hown hts (c_Rs_lay l D A cI cL cC ad X laid gone thr m1 m2 e1 e2 mi1 mi2 na1 na2 fa1 fa2 lets rlen x104.1 rgone rthr were none_ beyo aN_20 bN_21 fN_22 lN__23 rN_24 pN twos_25 at_ rdig rpow_26 good txt x104.2 ra_28 rb_29 rfive_30 rleft_31 rright_32 rpart n (46 : Int32) x105 e_x105) rfl rfl m_314 m_315 m_316 m_317 m_318 (by decide +kernel) ⟨Nat.le_of_ble_eq_true rfl, Nat.le_of_ble_eq_true rfl⟩ (va_recv hK hP (ci := 5) rfl (q0 := 2) rfl) hNB hK hP hD hS rfl hl.1 rfl (Nat.le_of_ble_eq_true rfl) d_Rs_layDecimal_105 ⟨Nat.zero_le _, Nat.zero_le _⟩ (fun H locs hP hD hS => ?_)
        have hP : va_P D cls (gM cI cL cC ad X laid gone thr m1 m2 e1 e2 mi1 mi2 na1 na2 fa1 fa2 lets rlen x105.1 rgone rthr were none_ beyo aN_20 bN_21 fN_22 lN__23 rN_24 pN twos_25 at_ rdig rpow_26 good txt x105.2 ra_28 rb_29 rfive_30 rleft_31 rright_32 rpart) H := hP
        have hD : va_D A (gM cI cL cC ad X laid gone thr m1 m2 e1 e2 mi1 mi2 na1 na2 fa1 fa2 lets rlen x105.1 rgone rthr were none_ beyo aN_20 bN_21 fN_22 lN__23 rN_24 pN twos_25 at_ rdig rpow_26 good txt x105.2 ra_28 rb_29 rfive_30 rleft_31 rright_32 rpart) := hD
        refine lv_aload_n hx hb d_Rs_layDecimal_108 rfl (lv_at hl 1 rfl) ?_
        refine lv_lload hx hb d_Rs_layDecimal_109 (lv_at hl 2 rfl) ?_
        refine lv_iload hx hb d_Rs_layDecimal_111 (lv_at hl 0 rfl) ?_
        refine lv_iconst hx hb d_Rs_layDecimal_113 ic_1 ?_
        refine lv_iadd hx hb d_Rs_layDecimal_114 ?_
        refine lv_iload hx hb d_Rs_layDecimal_115 (lv_at hl 4 rfl) ?_
        refine lv_iload hx hb d_Rs_layDecimal_117 (lv_at hl 0 rfl) ?_
        refine lv_iconst hx hb d_Rs_layDecimal_119 ic_1 ?_
        refine lv_iadd hx hb d_Rs_layDecimal_120 ?_
        obtain ⟨x106, e_x106, h⟩ := lt_o h
        have hJ133 : ∀ (x106' : Int32) (ls : Array Slot), x106 = x106' → lv_has ls 10 [(7, .int y18)] → W p l e ({ frames := 7, cells := 0, slots := 0, locals := 191 } : Room) s m args below meth c H locs 0 0 Q (F0 m 133 ls [.int x106', .int (x33 + (1 : Int32)), .long y2, .ref (ad 2)]) := by
          intro x106' ls q_x106 hl
          subst q_x106
          refine lv_iload hx hb d_Rs_layDecimal_133 (lv_at hl 0 rfl) ?_
          obtain ⟨x107, e_x107, h⟩ := bd_o h
          refine q_GV (D := D) (A := A) (C := R_Rs) (b := ad 2) (As := [.long y2, .int (x33 + (1 : Int32)), .int x106, .int y18]) (rest := []) (n := 4) hx hb hml hown hts (c_Rs_layDigits l D A cI cL cC ad X laid gone thr m1 m2 e1 e2 mi1 mi2 na1 na2 fa1 fa2 lets rlen x105.1 rgone rthr were none_ beyo aN_20 bN_21 fN_22 lN__23 rN_24 pN twos_25 at_ rdig rpow_26 good txt x105.2 ra_28 rb_29 rfive_30 rleft_31 rright_32 rpart n y2 (x33 + (1 : Int32)) x106 y18 x107 e_x107) rfl rfl m_395 m_396 m_397 m_398 m_318 (by decide +kernel) ⟨Nat.le_of_ble_eq_true rfl, Nat.le_of_ble_eq_true rfl⟩ (va_recv hK hP (ci := 5) rfl (q0 := 2) rfl) hNB hK hP hD hS rfl hl.1 rfl (Nat.le_of_ble_eq_true rfl) d_Rs_layDecimal_135 ⟨Nat.zero_le _, Nat.zero_le _⟩ (fun H locs hP hD hS => ?_)
          have hP : va_P D cls (gM cI cL cC ad X laid gone thr m1 m2 e1 e2 mi1 mi2 na1 na2 fa1 fa2 lets rlen x107.1 rgone rthr were none_ beyo aN_20 bN_21 fN_22 lN__23 rN_24 pN twos_25 at_ rdig rpow_26 good txt x107.2 ra_28 rb_29 rfive_30 rleft_31 rright_32 rpart) H := hP
          have hD : va_D A (gM cI cL cC ad X laid gone thr m1 m2 e1 e2 mi1 mi2 na1 na2 fa1 fa2 lets rlen x107.1 rgone rthr were none_ beyo aN_20 bN_21 fN_22 lN__23 rN_24 pN twos_25 at_ rdig rpow_26 good txt x107.2 ra_28 rb_29 rfive_30 rleft_31 rright_32 rpart) := hD
          refine lv_goto (tgt := 271) hx hb d_Rs_layDecimal_138 rfl ?_
          exact hJ271 _ _ _ _ _ _ _ _ _ _ _ _ _ _ ls _ _ (lv_sub hl [] rfl) hP hD hS h
        refine lv_icmp_le (tgt := 129) hx hb d_Rs_layDecimal_121 rfl (fun hc => ?_) (fun hc => ?_)
        · have e_x106 := e_x106.trans (if_pos hc)
          refine lv_iload hx hb d_Rs_layDecimal_129 (lv_at hl 0 rfl) ?_
          refine lv_iconst hx hb d_Rs_layDecimal_131 ic_2 ?_
          refine lv_iadd hx hb d_Rs_layDecimal_132 ?_
          exact hJ133 _ ls e_x106 (lv_sub hl [4] rfl)
        · have e_x106 := e_x106.trans (if_neg hc)
          refine lv_iload hx hb d_Rs_layDecimal_124 (lv_at hl 4 rfl) ?_
          refine lv_goto (tgt := 133) hx hb d_Rs_layDecimal_126 rfl ?_
          exact hJ133 _ ls e_x106 (lv_sub hl [4] rfl)
    have hL46 : ∀ (n : Nat) (y108 : Int32) (y109 : Int64) (rlaid_110 : Int32) (aN_111 : Int32) (bN_112 : Int32) (fN_113 : Int32) (lN__114 : Int32) (rN_115 : Int32) (twos_116 : Int32) (rpow_117 : Int32) (wri_118 : (Nat → Int32)) (ra_119 : (Nat → Int32)) (rb_120 : (Nat → Int32)) (rfive_121 : (Nat → Int32)) (rleft_122 : (Nat → Int32)) (rright_123 : (Nat → Int32)) (ls : Array Slot) (H : Heap) (locs : List Loc), lv_has ls 10 [(0, .ref (ad 2)), (4, .long y2), (6, .int y3), (7, .int y108), (8, .long y109)] → va_P D cls (gM cI cL cC ad X laid gone thr m1 m2 e1 e2 mi1 mi2 na1 na2 fa1 fa2 lets rlen rlaid_110 rgone rthr were none_ beyo aN_111 bN_112 fN_113 lN__114 rN_115 pN twos_116 at_ rdig rpow_117 good txt wri_118 ra_119 rb_120 rfive_121 rleft_122 rright_123 rpart) H → va_D A (gM cI cL cC ad X laid gone thr m1 m2 e1 e2 mi1 mi2 na1 na2 fa1 fa2 lets rlen rlaid_110 rgone rthr were none_ beyo aN_111 bN_112 fN_113 lN__114 rN_115 pN twos_116 at_ rdig rpow_117 good txt wri_118 ra_119 rb_120 rfive_121 rleft_122 rright_123 rpart) → va_S A s.heap H locs → F_Rs_layDecimal_L46 y2 y3 j69 n y108 y109 rlaid_110 aN_111 bN_112 fN_113 lN__114 rN_115 twos_116 rpow_117 wri_118 ra_119 rb_120 rfive_121 rleft_122 rright_123 = some r → W p l e ({ frames := 7, cells := 0, slots := 0, locals := 191 } : Room) s m args below meth c H locs 0 0 Q (F0 m 46 ls []) := by
      intro n
      induction n with
      | zero => intro y108 y109 rlaid_110 aN_111 bN_112 fN_113 lN__114 rN_115 twos_116 rpow_117 wri_118 ra_119 rb_120 rfive_121 rleft_122 rright_123 ls H locs hl hP hD hS h; exact no_s h
      | succ n ih =>
        intro y108 y109 rlaid_110 aN_111 bN_112 fN_113 lN__114 rN_115 twos_116 rpow_117 wri_118 ra_119 rb_120 rfive_121 rleft_122 rright_123 ls H locs hl hP hD hS h
        have h : (if y109 ≤ (9 : Int64) then (j69 y108 rlaid_110 aN_111 bN_112 fN_113 lN__114 rN_115 twos_116 rpow_117 wri_118 ra_119 rb_120 rfive_121 rleft_122 rright_123) else (lt_ (y108 + Int32.ofInt 1) fun x124 => lt_ (y109 / (10 : Int64)) fun x125 => F_Rs_layDecimal_L46 y2 y3 j69 n x124 x125 rlaid_110 aN_111 bN_112 fN_113 lN__114 rN_115 twos_116 rpow_117 wri_118 ra_119 rb_120 rfive_121 rleft_122 rright_123)) = some r := h
        refine lv_lload hx hb d_Rs_layDecimal_46 (lv_at hl 4 rfl) ?_
        refine lv_ldc2 hx hb hown (hT _ m_403) d_Rs_layDecimal_48 ?_
        refine W.lcmp hx hb d_Rs_layDecimal_51 ?_
        refine lv_if_le (tgt := 69) hx hb d_Rs_layDecimal_52 rfl (fun hc => ?_) (fun hc => ?_)
        · have hc := (lg_cmp_le _ _).mp hc
          have h := ite_t hc h
          exact hJ69 _ _ _ _ _ _ _ _ _ _ _ _ _ _ _ ls _ _ (lv_sub hl [0, 1, 2, 3] rfl) hP hD hS h
        · have hc := mt (lg_cmp_le _ _).mpr hc
          have h := ite_f hc h
          obtain ⟨x124, e_x124⟩ : ∃ z, z = y108 + Int32.ofInt 1 := ⟨_, rfl⟩
          have h := lt_h e_x124 h
          refine lv_iinc (k := 3) hx hb d_Rs_layDecimal_55 hl rfl e_x124.symm (by decide) rfl (fun ls hl => ?_)
          have hl : lv_has ls 10 [(7, .int x124), (0, .ref (ad 2)), (4, .long y2), (6, .int y3), (8, .long y109)] := hl
          refine lv_lload hx hb d_Rs_layDecimal_58 (lv_at hl 4 rfl) ?_
          refine lv_ldc2 hx hb hown (hT _ m_373) d_Rs_layDecimal_60 ?_
          refine lv_ldiv hx hb d_Rs_layDecimal_63 (by decide) ?_
          refine lv_topl (fun x125 e_x125 => ?_)
          have h := lt_h e_x125 h
          refine lv_lstore hx hb d_Rs_layDecimal_64 hl (by decide) rfl (fun ls hl => ?_)
          have hl : lv_has ls 10 [(8, .long x125), (7, .int x124), (0, .ref (ad 2)), (4, .long y2), (6, .int y3)] := hl
          refine lv_goto (tgt := 46) hx hb d_Rs_layDecimal_66 rfl ?_
          exact ih _ _ _ _ _ _ _ _ _ _ _ _ _ _ _ _ ls _ _ (lv_sub hl [2, 3, 4, 1, 0] rfl) hP hD hS h
    exact hL46 n _ _ _ _ _ _ _ _ _ _ _ _ _ _ _ _ ls _ _ (lv_sub hl [2, 3, 4, 1, 0] rfl) hP hD hS h
  have hL14 : ∀ (n : Nat) (y126 : Int64) (y127 : Int32) (rlaid_128 : Int32) (aN_129 : Int32) (bN_130 : Int32) (fN_131 : Int32) (lN__132 : Int32) (rN_133 : Int32) (twos_134 : Int32) (rpow_135 : Int32) (wri_136 : (Nat → Int32)) (ra_137 : (Nat → Int32)) (rb_138 : (Nat → Int32)) (rfive_139 : (Nat → Int32)) (rleft_140 : (Nat → Int32)) (rright_141 : (Nat → Int32)) (ls : Array Slot) (H : Heap) (locs : List Loc), lv_has ls 10 [(0, .ref (ad 2)), (4, .long y126), (6, .int y127)] → va_P D cls (gM cI cL cC ad X laid gone thr m1 m2 e1 e2 mi1 mi2 na1 na2 fa1 fa2 lets rlen rlaid_128 rgone rthr were none_ beyo aN_129 bN_130 fN_131 lN__132 rN_133 pN twos_134 at_ rdig rpow_135 good txt wri_136 ra_137 rb_138 rfive_139 rleft_140 rright_141 rpart) H → va_D A (gM cI cL cC ad X laid gone thr m1 m2 e1 e2 mi1 mi2 na1 na2 fa1 fa2 lets rlen rlaid_128 rgone rthr were none_ beyo aN_129 bN_130 fN_131 lN__132 rN_133 pN twos_134 at_ rdig rpow_135 good txt wri_136 ra_137 rb_138 rfive_139 rleft_140 rright_141 rpart) → va_S A s.heap H locs → F_Rs_layDecimal_L14 j39 n y126 y127 rlaid_128 aN_129 bN_130 fN_131 lN__132 rN_133 twos_134 rpow_135 wri_136 ra_137 rb_138 rfive_139 rleft_140 rright_141 = some r → W p l e ({ frames := 7, cells := 0, slots := 0, locals := 191 } : Room) s m args below meth c H locs 0 0 Q (F0 m 14 ls []) := by
    intro n
    induction n with
    | zero => intro y126 y127 rlaid_128 aN_129 bN_130 fN_131 lN__132 rN_133 twos_134 rpow_135 wri_136 ra_137 rb_138 rfive_139 rleft_140 rright_141 ls H locs hl hP hD hS h; exact no_s h
    | succ n ih =>
      intro y126 y127 rlaid_128 aN_129 bN_130 fN_131 lN__132 rN_133 twos_134 rpow_135 wri_136 ra_137 rb_138 rfive_139 rleft_140 rright_141 ls H locs hl hP hD hS h
      have h : (if ¬ (y126 - y126 / (10 : Int64) * (10 : Int64)) = (0 : Int64) then (j39 y126 y127 rlaid_128 aN_129 bN_130 fN_131 lN__132 rN_133 twos_134 rpow_135 wri_136 ra_137 rb_138 rfive_139 rleft_140 rright_141) else (lt_ (y126 / (10 : Int64)) fun x142 => lt_ (y127 + Int32.ofInt 1) fun x143 => F_Rs_layDecimal_L14 j39 n x142 x143 rlaid_128 aN_129 bN_130 fN_131 lN__132 rN_133 twos_134 rpow_135 wri_136 ra_137 rb_138 rfive_139 rleft_140 rright_141)) = some r := h
      refine lv_lload hx hb d_Rs_layDecimal_14 (lv_at hl 1 rfl) ?_
      refine lv_ldc2 hx hb hown (hT _ m_373) d_Rs_layDecimal_16 ?_
      refine lv_lrem hx hb d_Rs_layDecimal_19 (by decide) ?_
      refine lv_lconst hx hb d_Rs_layDecimal_20 lc_0 ?_
      refine W.lcmp hx hb d_Rs_layDecimal_21 ?_
      refine lv_if_ne (tgt := 39) hx hb d_Rs_layDecimal_22 rfl (fun hc => ?_) (fun hc => ?_)
      · have hc := mt (lg_cmp_eq _ _).mpr hc
        have h := ite_t hc h
        exact hJ39 _ _ _ _ _ _ _ _ _ _ _ _ _ _ _ _ ls _ _ (lv_sub hl [0, 1, 2] rfl) hP hD hS h
      · have hc := not_not_intro ((lg_cmp_eq _ _).mp hc)
        have h := ite_f hc h
        refine lv_lload hx hb d_Rs_layDecimal_25 (lv_at hl 1 rfl) ?_
        refine lv_ldc2 hx hb hown (hT _ m_373) d_Rs_layDecimal_27 ?_
        refine lv_ldiv hx hb d_Rs_layDecimal_30 (by decide) ?_
        refine lv_topl (fun x142 e_x142 => ?_)
        have h := lt_h e_x142 h
        refine lv_lstore hx hb d_Rs_layDecimal_31 hl (by decide) rfl (fun ls hl => ?_)
        have hl : lv_has ls 10 [(4, .long x142), (0, .ref (ad 2)), (6, .int y127)] := hl
        obtain ⟨x143, e_x143⟩ : ∃ z, z = y127 + Int32.ofInt 1 := ⟨_, rfl⟩
        have h := lt_h e_x143 h
        refine lv_iinc (k := 2) hx hb d_Rs_layDecimal_33 hl rfl e_x143.symm (by decide) rfl (fun ls hl => ?_)
        have hl : lv_has ls 10 [(6, .int x143), (4, .long x142), (0, .ref (ad 2))] := hl
        refine lv_goto (tgt := 14) hx hb d_Rs_layDecimal_36 rfl ?_
        exact ih _ _ _ _ _ _ _ _ _ _ _ _ _ _ _ _ ls _ _ (lv_sub hl [2, 1, 0] rfl) hP hD hS h
  exact hL14 n _ _ _ _ _ _ _ _ _ _ _ _ _ _ _ _ ls _ _ (lv_sub hl [2, 1, 0] rfl) hP hD hS h
