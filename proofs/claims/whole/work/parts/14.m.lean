-- Rs_in
theorem d_Rs_in_0 : decode b_Rs_in 0 = .ok (.iload_n 0, 1) := by decide +kernel
theorem d_Rs_in_1 : decode b_Rs_in 1 = .ok (.iload_n 1, 1) := by decide +kernel
theorem d_Rs_in_2 : decode b_Rs_in 2 = .ok (.if_icmp .lt 12, 3) := by decide +kernel
theorem d_Rs_in_5 : decode b_Rs_in 5 = .ok (.iload_n 0, 1) := by decide +kernel
theorem d_Rs_in_6 : decode b_Rs_in 6 = .ok (.iload_n 2, 1) := by decide +kernel
theorem d_Rs_in_7 : decode b_Rs_in 7 = .ok (.if_icmp .gt 7, 3) := by decide +kernel
theorem d_Rs_in_10 : decode b_Rs_in 10 = .ok (.iconst 1, 1) := by decide +kernel
theorem d_Rs_in_11 : decode b_Rs_in 11 = .ok (.goto 4, 3) := by decide +kernel
theorem d_Rs_in_14 : decode b_Rs_in 14 = .ok (.iconst 0, 1) := by decide +kernel
theorem d_Rs_in_15 : decode b_Rs_in 15 = .ok (.ireturn, 1) := by decide +kernel
def F_Rs_in (a0 : Int32) (a1 : Int32) (a2 : Int32) : Int32 := lt_ (if a0 < a1 then (0 : Int32) else if a2 < a0 then (0 : Int32) else (1 : Int32)) fun x1 => x1
set_option maxHeartbeats 4000000 in
set_option maxRecDepth 100000 in
theorem c_Rs_in (l : Launch) (a0 : Int32) (a1 : Int32) (a2 : Int32) : Met l y_Rs_in (.code y_Rs_in b_Rs_in 3 (some .boolean) :: BIG) ({ frames := 0, cells := 0, slots := 0, locals := 0 } : Room) (va_Pc [.int a0, .int a1, .int a2] (pre0)) (pQ (.int (F_Rs_in a0 a1 a2))) 0 0 (fun _ => False) := by
  refine pOpen_z rfl (Nat.le_of_ble_eq_true rfl) ?_
  intro p e s m args below meth c Q ls hx hb hml hown hts hT hp hl hret
  have hNB := hp
  have hown : s.vm.findClass R_Rs = some m.cls := hown
  have hl : lv_has ls 3 [(0, .int a0), (1, .int a1), (2, .int a2)] := hl
  obtain ⟨r, h⟩ : ∃ r, F_Rs_in a0 a1 a2 = r := ⟨_, rfl⟩
  rw [h] at hret
  have h : (lt_ (if a0 < a1 then (0 : Int32) else if a2 < a0 then (0 : Int32) else (1 : Int32)) fun x1 => x1) = r := h
  refine lv_iload_n hx hb d_Rs_in_0 rfl (lv_at hl 0 rfl) ?_
  refine lv_iload_n hx hb d_Rs_in_1 rfl (lv_at hl 1 rfl) ?_
  obtain ⟨x1, e_x1, h⟩ := lt_o h
  have hJ15 : ∀ (x1' : Int32) (ls : Array Slot), x1 = x1' → lv_has ls 3 [] → W p l e ({ frames := 0, cells := 0, slots := 0, locals := 0 } : Room) s m args below meth c s.heap [] 0 0 Q (F0 m 15 ls [.int x1']) := by
    intro x1' ls q_x1 hl
    subst q_x1
    exact hret 15 ls _ h d_Rs_in_15 (nb_1 ((by rw [e_x1]; exact ite01 (Or.inl rfl) (ite01 (Or.inl rfl) (Or.inr rfl)))))
  refine lv_icmp_lt (tgt := 14) hx hb d_Rs_in_2 rfl (fun hc => ?_) (fun hc => ?_)
  · have e_x1 := e_x1.trans (if_pos hc)
    refine lv_iconst hx hb d_Rs_in_14 ic_0 ?_
    exact hJ15 _ ls e_x1 (lv_sub hl [] rfl)
  · have e_x1 := e_x1.trans (if_neg hc)
    refine lv_iload_n hx hb d_Rs_in_5 rfl (lv_at hl 0 rfl) ?_
    refine lv_iload_n hx hb d_Rs_in_6 rfl (lv_at hl 2 rfl) ?_
    refine lv_icmp_gt (tgt := 14) hx hb d_Rs_in_7 rfl (fun hc => ?_) (fun hc => ?_)
    · have e_x1 := e_x1.trans (if_pos hc)
      refine lv_iconst hx hb d_Rs_in_14 ic_0 ?_
      exact hJ15 _ ls e_x1 (lv_sub hl [] rfl)
    · have e_x1 := e_x1.trans (if_neg hc)
      refine lv_iconst hx hb d_Rs_in_10 ic_1 ?_
      refine lv_goto (tgt := 15) hx hb d_Rs_in_11 rfl ?_
      exact hJ15 _ ls e_x1 (lv_sub hl [] rfl)
-- Rs_mantissa
theorem d_Rs_mantissa_0 : decode b_Rs_mantissa 0 = .ok (.iload_n 2, 1) := by decide +kernel
theorem d_Rs_mantissa_1 : decode b_Rs_mantissa 1 = .ok (.ifCond .eq 8, 3) := by decide +kernel
theorem d_Rs_mantissa_4 : decode b_Rs_mantissa 4 = .ok (.bipush 23, 2) := by decide +kernel
theorem d_Rs_mantissa_6 : decode b_Rs_mantissa 6 = .ok (.goto 5, 3) := by decide +kernel
theorem d_Rs_mantissa_9 : decode b_Rs_mantissa 9 = .ok (.bipush 52, 2) := by decide +kernel
theorem d_Rs_mantissa_11 : decode b_Rs_mantissa 11 = .ok (.istore_n 3, 1) := by decide +kernel
theorem d_Rs_mantissa_12 : decode b_Rs_mantissa 12 = .ok (.lload_n 0, 1) := by decide +kernel
theorem d_Rs_mantissa_13 : decode b_Rs_mantissa 13 = .ok (.lconst 1, 1) := by decide +kernel
theorem d_Rs_mantissa_14 : decode b_Rs_mantissa 14 = .ok (.iload_n 3, 1) := by decide +kernel
theorem d_Rs_mantissa_15 : decode b_Rs_mantissa 15 = .ok (.lshl, 1) := by decide +kernel
theorem d_Rs_mantissa_16 : decode b_Rs_mantissa 16 = .ok (.lconst 1, 1) := by decide +kernel
theorem d_Rs_mantissa_17 : decode b_Rs_mantissa 17 = .ok (.lsub, 1) := by decide +kernel
theorem d_Rs_mantissa_18 : decode b_Rs_mantissa 18 = .ok (.land, 1) := by decide +kernel
theorem d_Rs_mantissa_19 : decode b_Rs_mantissa 19 = .ok (.lstore 4, 2) := by decide +kernel
theorem d_Rs_mantissa_21 : decode b_Rs_mantissa 21 = .ok (.lload_n 0, 1) := by decide +kernel
theorem d_Rs_mantissa_22 : decode b_Rs_mantissa 22 = .ok (.iload_n 3, 1) := by decide +kernel
theorem d_Rs_mantissa_23 : decode b_Rs_mantissa 23 = .ok (.lshr, 1) := by decide +kernel
theorem d_Rs_mantissa_24 : decode b_Rs_mantissa 24 = .ok (.lconst 0, 1) := by decide +kernel
theorem d_Rs_mantissa_25 : decode b_Rs_mantissa 25 = .ok (.lcmp, 1) := by decide +kernel
theorem d_Rs_mantissa_26 : decode b_Rs_mantissa 26 = .ok (.ifCond .ne 8, 3) := by decide +kernel
theorem d_Rs_mantissa_29 : decode b_Rs_mantissa 29 = .ok (.lload 4, 2) := by decide +kernel
theorem d_Rs_mantissa_31 : decode b_Rs_mantissa 31 = .ok (.goto 9, 3) := by decide +kernel
theorem d_Rs_mantissa_34 : decode b_Rs_mantissa 34 = .ok (.lload 4, 2) := by decide +kernel
theorem d_Rs_mantissa_36 : decode b_Rs_mantissa 36 = .ok (.lconst 1, 1) := by decide +kernel
theorem d_Rs_mantissa_37 : decode b_Rs_mantissa 37 = .ok (.iload_n 3, 1) := by decide +kernel
theorem d_Rs_mantissa_38 : decode b_Rs_mantissa 38 = .ok (.lshl, 1) := by decide +kernel
theorem d_Rs_mantissa_39 : decode b_Rs_mantissa 39 = .ok (.ladd, 1) := by decide +kernel
theorem d_Rs_mantissa_40 : decode b_Rs_mantissa 40 = .ok (.lreturn, 1) := by decide +kernel
def F_Rs_mantissa (a0 : Int64) (a1 : Int32) : Int64 := lt_ (if a1 = 0 then (52 : Int32) else (23 : Int32)) fun x1 => lt_ (a0 &&& (((1 : Int64) <<< ((x1).toInt64 &&& 63)) - (1 : Int64))) fun x2 => lt_ (if ¬ (a0 >>> ((x1).toInt64 &&& 63)) = (0 : Int64) then x2 + ((1 : Int64) <<< ((x1).toInt64 &&& 63)) else x2) fun x3 => x3
set_option maxHeartbeats 4000000 in
set_option maxRecDepth 100000 in
theorem c_Rs_mantissa (l : Launch) (a0 : Int64) (a1 : Int32) : Met l y_Rs_mantissa (.code y_Rs_mantissa b_Rs_mantissa 6 (some .long) :: BIG) ({ frames := 0, cells := 0, slots := 0, locals := 0 } : Room) (va_Pc [.long a0, .int a1] (pre0)) (pQ (.long (F_Rs_mantissa a0 a1))) 0 0 (fun _ => False) := by
  refine pOpen_l rfl (Nat.le_of_ble_eq_true rfl) ?_
  intro p e s m args below meth c Q ls hx hb hml hown hts hT hp hl hret
  have hNB := hp
  have hown : s.vm.findClass R_Rs = some m.cls := hown
  have hl : lv_has ls 6 [(0, .long a0), (2, .int a1)] := hl
  obtain ⟨r, h⟩ : ∃ r, F_Rs_mantissa a0 a1 = r := ⟨_, rfl⟩
  rw [h] at hret
  have h : (lt_ (if a1 = 0 then (52 : Int32) else (23 : Int32)) fun x1 => lt_ (a0 &&& (((1 : Int64) <<< ((x1).toInt64 &&& 63)) - (1 : Int64))) fun x2 => lt_ (if ¬ (a0 >>> ((x1).toInt64 &&& 63)) = (0 : Int64) then x2 + ((1 : Int64) <<< ((x1).toInt64 &&& 63)) else x2) fun x3 => x3) = r := h
  refine lv_iload_n hx hb d_Rs_mantissa_0 rfl (lv_at hl 1 rfl) ?_
  obtain ⟨x1, e_x1, h⟩ := lt_o h
  have hJ11 : ∀ (x1' : Int32) (ls : Array Slot), x1 = x1' → lv_has ls 6 [(0, .long a0)] → W p l e ({ frames := 0, cells := 0, slots := 0, locals := 0 } : Room) s m args below meth c s.heap [] 0 0 Q (F0 m 11 ls [.int x1']) := by
    intro x1' ls q_x1 hl
    subst q_x1
    refine lv_istore_n hx hb d_Rs_mantissa_11 rfl hl (by decide) rfl (fun ls hl => ?_)
    have hl : lv_has ls 6 [(3, .int x1), (0, .long a0)] := hl
    refine lv_lload_n hx hb d_Rs_mantissa_12 rfl (lv_at hl 1 rfl) ?_
    refine lv_lconst hx hb d_Rs_mantissa_13 lc_1 ?_
    refine lv_iload_n hx hb d_Rs_mantissa_14 rfl (lv_at hl 0 rfl) ?_
    refine lv_lshl hx hb d_Rs_mantissa_15 rfl ?_
    refine lv_lconst hx hb d_Rs_mantissa_16 lc_1 ?_
    refine lv_lsub hx hb d_Rs_mantissa_17 ?_
    refine lv_land hx hb d_Rs_mantissa_18 ?_
    refine lv_topl (fun x2 e_x2 => ?_)
    have h := lt_h e_x2 h
    refine lv_lstore hx hb d_Rs_mantissa_19 hl (by decide) rfl (fun ls hl => ?_)
    have hl : lv_has ls 6 [(4, .long x2), (3, .int x1), (0, .long a0)] := hl
    refine lv_lload_n hx hb d_Rs_mantissa_21 rfl (lv_at hl 2 rfl) ?_
    refine lv_iload_n hx hb d_Rs_mantissa_22 rfl (lv_at hl 1 rfl) ?_
    refine lv_lshr hx hb d_Rs_mantissa_23 rfl ?_
    refine lv_lconst hx hb d_Rs_mantissa_24 lc_0 ?_
    refine W.lcmp hx hb d_Rs_mantissa_25 ?_
    obtain ⟨x3, e_x3, h⟩ := lt_o h
    have hJ40 : ∀ (x3' : Int64) (ls : Array Slot), x3 = x3' → lv_has ls 6 [] → W p l e ({ frames := 0, cells := 0, slots := 0, locals := 0 } : Room) s m args below meth c s.heap [] 0 0 Q (F0 m 40 ls [.long x3']) := by
      intro x3' ls q_x3 hl
      subst q_x3
      exact hret 40 ls _ h d_Rs_mantissa_40
    refine lv_if_ne (tgt := 34) hx hb d_Rs_mantissa_26 rfl (fun hc => ?_) (fun hc => ?_)
    · have hc := mt (lg_cmp_eq _ _).mpr hc
      have e_x3 := e_x3.trans (if_pos hc)
      refine lv_lload hx hb d_Rs_mantissa_34 (lv_at hl 0 rfl) ?_
      refine lv_lconst hx hb d_Rs_mantissa_36 lc_1 ?_
      refine lv_iload_n hx hb d_Rs_mantissa_37 rfl (lv_at hl 1 rfl) ?_
      refine lv_lshl hx hb d_Rs_mantissa_38 rfl ?_
      refine lv_ladd hx hb d_Rs_mantissa_39 ?_
      exact hJ40 _ ls e_x3 (lv_sub hl [] rfl)
    · have hc := not_not_intro ((lg_cmp_eq _ _).mp hc)
      have e_x3 := e_x3.trans (if_neg hc)
      refine lv_lload hx hb d_Rs_mantissa_29 (lv_at hl 0 rfl) ?_
      refine lv_goto (tgt := 40) hx hb d_Rs_mantissa_31 rfl ?_
      exact hJ40 _ ls e_x3 (lv_sub hl [] rfl)
  refine lv_if_eq (tgt := 9) hx hb d_Rs_mantissa_1 rfl (fun hc => ?_) (fun hc => ?_)
  · have e_x1 := e_x1.trans (if_pos hc)
    refine lv_bipush hx hb d_Rs_mantissa_9 bp_52 ?_
    exact hJ11 _ ls e_x1 (lv_sub hl [0] rfl)
  · have e_x1 := e_x1.trans (if_neg hc)
    refine lv_bipush hx hb d_Rs_mantissa_4 bp_23 ?_
    refine lv_goto (tgt := 11) hx hb d_Rs_mantissa_6 rfl ?_
    exact hJ11 _ ls e_x1 (lv_sub hl [0] rfl)
-- Rs_exponent
theorem d_Rs_exponent_0 : decode b_Rs_exponent 0 = .ok (.lload_n 0, 1) := by decide +kernel
theorem d_Rs_exponent_1 : decode b_Rs_exponent 1 = .ok (.iload_n 2, 1) := by decide +kernel
theorem d_Rs_exponent_2 : decode b_Rs_exponent 2 = .ok (.ifCond .eq 8, 3) := by decide +kernel
theorem d_Rs_exponent_5 : decode b_Rs_exponent 5 = .ok (.bipush 23, 2) := by decide +kernel
theorem d_Rs_exponent_7 : decode b_Rs_exponent 7 = .ok (.goto 5, 3) := by decide +kernel
theorem d_Rs_exponent_10 : decode b_Rs_exponent 10 = .ok (.bipush 52, 2) := by decide +kernel
theorem d_Rs_exponent_12 : decode b_Rs_exponent 12 = .ok (.lshr, 1) := by decide +kernel
theorem d_Rs_exponent_13 : decode b_Rs_exponent 13 = .ok (.l2i, 1) := by decide +kernel
theorem d_Rs_exponent_14 : decode b_Rs_exponent 14 = .ok (.istore_n 3, 1) := by decide +kernel
theorem d_Rs_exponent_15 : decode b_Rs_exponent 15 = .ok (.iload_n 3, 1) := by decide +kernel
theorem d_Rs_exponent_16 : decode b_Rs_exponent 16 = .ok (.ifCond .ne 7, 3) := by decide +kernel
theorem d_Rs_exponent_19 : decode b_Rs_exponent 19 = .ok (.iconst 1, 1) := by decide +kernel
theorem d_Rs_exponent_20 : decode b_Rs_exponent 20 = .ok (.goto 4, 3) := by decide +kernel
theorem d_Rs_exponent_23 : decode b_Rs_exponent 23 = .ok (.iload_n 3, 1) := by decide +kernel
theorem d_Rs_exponent_24 : decode b_Rs_exponent 24 = .ok (.iload_n 2, 1) := by decide +kernel
theorem d_Rs_exponent_25 : decode b_Rs_exponent 25 = .ok (.ifCond .eq 9, 3) := by decide +kernel
theorem d_Rs_exponent_28 : decode b_Rs_exponent 28 = .ok (.sipush 150, 3) := by decide +kernel
theorem d_Rs_exponent_31 : decode b_Rs_exponent 31 = .ok (.goto 6, 3) := by decide +kernel
theorem d_Rs_exponent_34 : decode b_Rs_exponent 34 = .ok (.sipush 1075, 3) := by decide +kernel
theorem d_Rs_exponent_37 : decode b_Rs_exponent 37 = .ok (.isub, 1) := by decide +kernel
theorem d_Rs_exponent_38 : decode b_Rs_exponent 38 = .ok (.ireturn, 1) := by decide +kernel
def F_Rs_exponent (a0 : Int64) (a1 : Int32) : Int32 := lt_ (if a1 = 0 then (52 : Int32) else (23 : Int32)) fun x1 => lt_ ((a0 >>> ((x1).toInt64 &&& 63)).toInt32) fun x2 => lt_ (if ¬ x2 = 0 then x2 else (1 : Int32)) fun x3 => lt_ (if a1 = 0 then (1075 : Int32) else (150 : Int32)) fun x4 => x3 - x4
set_option maxHeartbeats 4000000 in
set_option maxRecDepth 100000 in
theorem c_Rs_exponent (l : Launch) (a0 : Int64) (a1 : Int32) : Met l y_Rs_exponent (.code y_Rs_exponent b_Rs_exponent 4 (some .int) :: BIG) ({ frames := 0, cells := 0, slots := 0, locals := 0 } : Room) (va_Pc [.long a0, .int a1] (pre0)) (pQ (.int (F_Rs_exponent a0 a1))) 0 0 (fun _ => False) := by
  refine pOpen_i rfl (Nat.le_of_ble_eq_true rfl) ?_
  intro p e s m args below meth c Q ls hx hb hml hown hts hT hp hl hret
  have hNB := hp
  have hown : s.vm.findClass R_Rs = some m.cls := hown
  have hl : lv_has ls 4 [(0, .long a0), (2, .int a1)] := hl
  obtain ⟨r, h⟩ : ∃ r, F_Rs_exponent a0 a1 = r := ⟨_, rfl⟩
  rw [h] at hret
  have h : (lt_ (if a1 = 0 then (52 : Int32) else (23 : Int32)) fun x1 => lt_ ((a0 >>> ((x1).toInt64 &&& 63)).toInt32) fun x2 => lt_ (if ¬ x2 = 0 then x2 else (1 : Int32)) fun x3 => lt_ (if a1 = 0 then (1075 : Int32) else (150 : Int32)) fun x4 => x3 - x4) = r := h
  refine lv_lload_n hx hb d_Rs_exponent_0 rfl (lv_at hl 0 rfl) ?_
  refine lv_iload_n hx hb d_Rs_exponent_1 rfl (lv_at hl 1 rfl) ?_
  obtain ⟨x1, e_x1, h⟩ := lt_o h
  have hJ12 : ∀ (x1' : Int32) (ls : Array Slot), x1 = x1' → lv_has ls 4 [(2, .int a1)] → W p l e ({ frames := 0, cells := 0, slots := 0, locals := 0 } : Room) s m args below meth c s.heap [] 0 0 Q (F0 m 12 ls [.int x1', .long a0]) := by
    intro x1' ls q_x1 hl
    subst q_x1
    refine lv_lshr hx hb d_Rs_exponent_12 rfl ?_
    refine lv_l2i hx hb d_Rs_exponent_13 rfl ?_
    refine lv_topi (fun x2 e_x2 => ?_)
    have h := lt_h e_x2 h
    refine lv_istore_n hx hb d_Rs_exponent_14 rfl hl (by decide) rfl (fun ls hl => ?_)
    have hl : lv_has ls 4 [(3, .int x2), (2, .int a1)] := hl
    refine lv_iload_n hx hb d_Rs_exponent_15 rfl (lv_at hl 0 rfl) ?_
    obtain ⟨x3, e_x3, h⟩ := lt_o h
    have hJ24 : ∀ (x3' : Int32) (ls : Array Slot), x3 = x3' → lv_has ls 4 [(2, .int a1)] → W p l e ({ frames := 0, cells := 0, slots := 0, locals := 0 } : Room) s m args below meth c s.heap [] 0 0 Q (F0 m 24 ls [.int x3']) := by
      intro x3' ls q_x3 hl
      subst q_x3
      refine lv_iload_n hx hb d_Rs_exponent_24 rfl (lv_at hl 0 rfl) ?_
      obtain ⟨x4, e_x4, h⟩ := lt_o h
      have hJ37 : ∀ (x4' : Int32) (ls : Array Slot), x4 = x4' → lv_has ls 4 [] → W p l e ({ frames := 0, cells := 0, slots := 0, locals := 0 } : Room) s m args below meth c s.heap [] 0 0 Q (F0 m 37 ls [.int x4', .int x3]) := by
        intro x4' ls q_x4 hl
        subst q_x4
        refine lv_isub hx hb d_Rs_exponent_37 ?_
        exact hret 38 ls _ h d_Rs_exponent_38
      refine lv_if_eq (tgt := 34) hx hb d_Rs_exponent_25 rfl (fun hc => ?_) (fun hc => ?_)
      · have e_x4 := e_x4.trans (if_pos hc)
        refine lv_sipush hx hb d_Rs_exponent_34 sp_1075 ?_
        exact hJ37 _ ls e_x4 (lv_sub hl [] rfl)
      · have e_x4 := e_x4.trans (if_neg hc)
        refine lv_sipush hx hb d_Rs_exponent_28 sp_150 ?_
        refine lv_goto (tgt := 37) hx hb d_Rs_exponent_31 rfl ?_
        exact hJ37 _ ls e_x4 (lv_sub hl [] rfl)
    refine lv_if_ne (tgt := 23) hx hb d_Rs_exponent_16 rfl (fun hc => ?_) (fun hc => ?_)
    · have e_x3 := e_x3.trans (if_pos hc)
      refine lv_iload_n hx hb d_Rs_exponent_23 rfl (lv_at hl 0 rfl) ?_
      exact hJ24 _ ls e_x3 (lv_sub hl [1] rfl)
    · have hc := not_not_intro hc
      have e_x3 := e_x3.trans (if_neg hc)
      refine lv_iconst hx hb d_Rs_exponent_19 ic_1 ?_
      refine lv_goto (tgt := 24) hx hb d_Rs_exponent_20 rfl ?_
      exact hJ24 _ ls e_x3 (lv_sub hl [1] rfl)
  refine lv_if_eq (tgt := 10) hx hb d_Rs_exponent_2 rfl (fun hc => ?_) (fun hc => ?_)
  · have e_x1 := e_x1.trans (if_pos hc)
    refine lv_bipush hx hb d_Rs_exponent_10 bp_52 ?_
    exact hJ12 _ ls e_x1 (lv_sub hl [1] rfl)
  · have e_x1 := e_x1.trans (if_neg hc)
    refine lv_bipush hx hb d_Rs_exponent_5 bp_23 ?_
    refine lv_goto (tgt := 12) hx hb d_Rs_exponent_7 rfl ?_
    exact hJ12 _ ls e_x1 (lv_sub hl [1] rfl)
-- Rs_greatest
theorem d_Rs_greatest_0 : decode b_Rs_greatest 0 = .ok (.iload_n 0, 1) := by decide +kernel
theorem d_Rs_greatest_1 : decode b_Rs_greatest 1 = .ok (.ifCond .eq 9, 3) := by decide +kernel
theorem d_Rs_greatest_4 : decode b_Rs_greatest 4 = .ok (.ldc2_w 82, 3) := by decide +kernel
theorem d_Rs_greatest_7 : decode b_Rs_greatest 7 = .ok (.goto 6, 3) := by decide +kernel
theorem d_Rs_greatest_10 : decode b_Rs_greatest 10 = .ok (.ldc2_w 84, 3) := by decide +kernel
theorem d_Rs_greatest_13 : decode b_Rs_greatest 13 = .ok (.lreturn, 1) := by decide +kernel
def F_Rs_greatest (a0 : Int32) : Int64 := lt_ (if a0 = 0 then (9218868437227405311 : Int64) else (2139095039 : Int64)) fun x1 => x1
set_option maxHeartbeats 4000000 in
set_option maxRecDepth 100000 in
theorem c_Rs_greatest (l : Launch) (a0 : Int32) : Met l y_Rs_greatest (.code y_Rs_greatest b_Rs_greatest 1 (some .long) :: BIG) ({ frames := 0, cells := 0, slots := 0, locals := 0 } : Room) (va_Pc [.int a0] (pre0)) (pQ (.long (F_Rs_greatest a0))) 0 0 (fun _ => False) := by
  refine pOpen_l rfl (Nat.le_of_ble_eq_true rfl) ?_
  intro p e s m args below meth c Q ls hx hb hml hown hts hT hp hl hret
  have hNB := hp
  have hown : s.vm.findClass R_Rs = some m.cls := hown
  have hl : lv_has ls 1 [(0, .int a0)] := hl
  obtain ⟨r, h⟩ : ∃ r, F_Rs_greatest a0 = r := ⟨_, rfl⟩
  rw [h] at hret
  have h : (lt_ (if a0 = 0 then (9218868437227405311 : Int64) else (2139095039 : Int64)) fun x1 => x1) = r := h
  refine lv_iload_n hx hb d_Rs_greatest_0 rfl (lv_at hl 0 rfl) ?_
  obtain ⟨x1, e_x1, h⟩ := lt_o h
  have hJ13 : ∀ (x1' : Int64) (ls : Array Slot), x1 = x1' → lv_has ls 1 [] → W p l e ({ frames := 0, cells := 0, slots := 0, locals := 0 } : Room) s m args below meth c s.heap [] 0 0 Q (F0 m 13 ls [.long x1']) := by
    intro x1' ls q_x1 hl
    subst q_x1
    exact hret 13 ls _ h d_Rs_greatest_13
  refine lv_if_eq (tgt := 10) hx hb d_Rs_greatest_1 rfl (fun hc => ?_) (fun hc => ?_)
  · have e_x1 := e_x1.trans (if_pos hc)
    refine lv_ldc2 hx hb hown (hT _ m_139) d_Rs_greatest_10 ?_
    exact hJ13 _ ls e_x1 (lv_sub hl [] rfl)
  · have e_x1 := e_x1.trans (if_neg hc)
    refine lv_ldc2 hx hb hown (hT _ m_140) d_Rs_greatest_4 ?_
    refine lv_goto (tgt := 13) hx hb d_Rs_greatest_7 rfl ?_
    exact hJ13 _ ls e_x1 (lv_sub hl [] rfl)
-- PB_realResult
theorem d_PB_realResult_0 : decode b_PB_realResult 0 = .ok (.aload 5, 2) := by decide +kernel
theorem d_PB_realResult_2 : decode b_PB_realResult 2 = .ok (.lload_n 1, 1) := by decide +kernel
theorem d_PB_realResult_3 : decode b_PB_realResult 3 = .ok (.invokevirtual 84, 3) := by decide +kernel
theorem d_PB_realResult_6 : decode b_PB_realResult 6 = .ok (.ifCond .ne 12, 3) := by decide +kernel
theorem d_PB_realResult_9 : decode b_PB_realResult 9 = .ok (.aload 5, 2) := by decide +kernel
theorem d_PB_realResult_11 : decode b_PB_realResult 11 = .ok (.lload_n 3, 1) := by decide +kernel
theorem d_PB_realResult_12 : decode b_PB_realResult 12 = .ok (.invokevirtual 84, 3) := by decide +kernel
theorem d_PB_realResult_15 : decode b_PB_realResult 15 = .ok (.ifCond .eq 9, 3) := by decide +kernel
theorem d_PB_realResult_18 : decode b_PB_realResult 18 = .ok (.aload 5, 2) := by decide +kernel
theorem d_PB_realResult_20 : decode b_PB_realResult 20 = .ok (.invokevirtual 132, 3) := by decide +kernel
theorem d_PB_realResult_23 : decode b_PB_realResult 23 = .ok (.lreturn, 1) := by decide +kernel
theorem d_PB_realResult_24 : decode b_PB_realResult 24 = .ok (.iload_n 0, 1) := by decide +kernel
theorem d_PB_realResult_25 : decode b_PB_realResult 25 = .ok (.tableswitch 68 0 3 #[31, 39, 52, 60], 31) := by decide +kernel
theorem d_PB_realResult_56 : decode b_PB_realResult 56 = .ok (.aload 5, 2) := by decide +kernel
theorem d_PB_realResult_58 : decode b_PB_realResult 58 = .ok (.lload_n 1, 1) := by decide +kernel
theorem d_PB_realResult_59 : decode b_PB_realResult 59 = .ok (.lload_n 3, 1) := by decide +kernel
theorem d_PB_realResult_60 : decode b_PB_realResult 60 = .ok (.invokevirtual 136, 3) := by decide +kernel
theorem d_PB_realResult_63 : decode b_PB_realResult 63 = .ok (.lreturn, 1) := by decide +kernel
theorem d_PB_realResult_64 : decode b_PB_realResult 64 = .ok (.aload 5, 2) := by decide +kernel
theorem d_PB_realResult_66 : decode b_PB_realResult 66 = .ok (.lload_n 1, 1) := by decide +kernel
theorem d_PB_realResult_67 : decode b_PB_realResult 67 = .ok (.aload 5, 2) := by decide +kernel
theorem d_PB_realResult_69 : decode b_PB_realResult 69 = .ok (.lload_n 3, 1) := by decide +kernel
theorem d_PB_realResult_70 : decode b_PB_realResult 70 = .ok (.invokevirtual 59, 3) := by decide +kernel
theorem d_PB_realResult_73 : decode b_PB_realResult 73 = .ok (.invokevirtual 136, 3) := by decide +kernel
theorem d_PB_realResult_76 : decode b_PB_realResult 76 = .ok (.lreturn, 1) := by decide +kernel
theorem d_PB_realResult_77 : decode b_PB_realResult 77 = .ok (.aload 5, 2) := by decide +kernel
theorem d_PB_realResult_79 : decode b_PB_realResult 79 = .ok (.lload_n 1, 1) := by decide +kernel
theorem d_PB_realResult_80 : decode b_PB_realResult 80 = .ok (.lload_n 3, 1) := by decide +kernel
theorem d_PB_realResult_81 : decode b_PB_realResult 81 = .ok (.invokevirtual 140, 3) := by decide +kernel
theorem d_PB_realResult_84 : decode b_PB_realResult 84 = .ok (.lreturn, 1) := by decide +kernel
theorem d_PB_realResult_85 : decode b_PB_realResult 85 = .ok (.aload 5, 2) := by decide +kernel
theorem d_PB_realResult_87 : decode b_PB_realResult 87 = .ok (.lload_n 1, 1) := by decide +kernel
theorem d_PB_realResult_88 : decode b_PB_realResult 88 = .ok (.lload_n 3, 1) := by decide +kernel
theorem d_PB_realResult_89 : decode b_PB_realResult 89 = .ok (.invokevirtual 143, 3) := by decide +kernel
theorem d_PB_realResult_92 : decode b_PB_realResult 92 = .ok (.lreturn, 1) := by decide +kernel
theorem d_PB_realResult_93 : decode b_PB_realResult 93 = .ok (.aload 5, 2) := by decide +kernel
theorem d_PB_realResult_95 : decode b_PB_realResult 95 = .ok (.lload_n 1, 1) := by decide +kernel
theorem d_PB_realResult_96 : decode b_PB_realResult 96 = .ok (.lload_n 3, 1) := by decide +kernel
theorem d_PB_realResult_97 : decode b_PB_realResult 97 = .ok (.invokevirtual 146, 3) := by decide +kernel
theorem d_PB_realResult_100 : decode b_PB_realResult 100 = .ok (.lreturn, 1) := by decide +kernel
def F_PB_realResult (n : Nat) (K3 : rK) (a0 : Int32) (a1 : Int64) (a2 : Int64) : Option (Int64) := lt_ (fun (_ : Unit) => some (F_Real_nan K3)) fun j18 => if ¬ (F_Real_isNan K3 a1) = 0 then (j18 ()) else (if (F_Real_isNan K3 a2) = 0 then (if a0 = (0 : Int32) then ((F_Real_sum n K3 a1 a2).bind fun x1 => some x1) else if a0 = (1 : Int32) then ((F_Real_sum n K3 a1 (F_Real_negate K3 a2)).bind fun x2 => some x2) else if a0 = (2 : Int32) then ((F_Real_product n K3 a1 a2).bind fun x3 => some x3) else if a0 = (3 : Int32) then ((F_Real_quotient n K3 a1 a2).bind fun x4 => some x4) else ((F_Real_remainder n K3 a1 a2).bind fun x5 => some x5)) else (j18 ()))
set_option maxHeartbeats 4000000 in
set_option maxRecDepth 100000 in
theorem c_PB_realResult (l : Launch) (o3 : Nat) (n : Nat) (K3 : rK) (a0 : Int32) (a1 : Int64) (a2 : Int64) (r : Int64) (h : F_PB_realResult n K3 a0 a1 a2 = some r) : Met l y_PB_realResult (.code y_PB_realResult b_PB_realResult 6 (some .long) :: BIG) ({ frames := 5, cells := 0, slots := 0, locals := 119 } : Room) (va_Pc [.int a0, .long a1, .long a2, .ref o3] (pre1 o3 K3)) (pQ (.long r)) 0 0 (fun _ => False) := by
  refine pOpen_l rfl (Nat.le_of_ble_eq_true rfl) ?_
  intro p e s m args below meth c Q ls hx hb hml hown hts hT hp hl hret
  obtain ⟨hNB, hRe_o3⟩ := hp
  have hown : s.vm.findClass R_PB = some m.cls := hown
  have hl : lv_has ls 6 [(0, .int a0), (1, .long a1), (3, .long a2), (5, .ref o3)] := hl
  have h : (lt_ (fun (_ : Unit) => some (F_Real_nan K3)) fun j18 => if ¬ (F_Real_isNan K3 a1) = 0 then (j18 ()) else (if (F_Real_isNan K3 a2) = 0 then (if a0 = (0 : Int32) then ((F_Real_sum n K3 a1 a2).bind fun x1 => some x1) else if a0 = (1 : Int32) then ((F_Real_sum n K3 a1 (F_Real_negate K3 a2)).bind fun x2 => some x2) else if a0 = (2 : Int32) then ((F_Real_product n K3 a1 a2).bind fun x3 => some x3) else if a0 = (3 : Int32) then ((F_Real_quotient n K3 a1 a2).bind fun x4 => some x4) else ((F_Real_remainder n K3 a1 a2).bind fun x5 => some x5)) else (j18 ()))) = some r := h
  refine lv_aload hx hb d_PB_realResult_0 (lv_at hl 3 rfl) ?_
  refine lv_lload_n hx hb d_PB_realResult_2 rfl (lv_at hl 1 rfl) ?_
  refine q_V (As := [.long a1]) (rest := []) (n := 1) hx hb hml hown hts (c_Real_isNan l o3 K3 a1) rfl rfl m_30 m_141 m_32 m_33 m_11 (by decide +kernel) ⟨Nat.le_of_ble_eq_true rfl, Nat.le_of_ble_eq_true rfl⟩ (rAt_rc hRe_o3) (p1_bl) (fun U hU hW => p1_mv hU hW hNB hRe_o3) rfl hl.1 rfl (Nat.le_of_ble_eq_true rfl) d_PB_realResult_3 ⟨Nat.zero_le _, Nat.zero_le _⟩ ?_
  obtain ⟨j18, e_j18, h⟩ := lt_o h
  have hJ18 : ∀ (ls : Array Slot), lv_has ls 6 [(5, .ref o3)] → j18 () = some r → W p l e ({ frames := 5, cells := 0, slots := 0, locals := 119 } : Room) s m args below meth c s.heap [] 0 0 Q (F0 m 18 ls []) := by
    intro  ls hl h
    rw [e_j18] at h
    refine lv_aload hx hb d_PB_realResult_18 (lv_at hl 0 rfl) ?_
    refine q_V (As := []) (rest := []) (n := 0) hx hb hml hown hts (c_Real_nan l o3 K3) rfl rfl m_38 m_142 m_40 m_41 m_11 (by decide +kernel) ⟨Nat.le_of_ble_eq_true rfl, Nat.le_of_ble_eq_true rfl⟩ (rAt_rc hRe_o3) (p1_bl) (fun U hU hW => p1_mv hU hW hNB hRe_o3) rfl hl.1 rfl (Nat.le_of_ble_eq_true rfl) d_PB_realResult_20 ⟨Nat.zero_le _, Nat.zero_le _⟩ ?_
    exact hret 23 ls _ (Option.some.inj h) d_PB_realResult_23
  refine lv_if_ne (tgt := 18) hx hb d_PB_realResult_6 rfl (fun hc => ?_) (fun hc => ?_)
  · have h := ite_t hc h
    exact hJ18 ls (lv_sub hl [3] rfl) h
  · have hc := not_not_intro hc
    have h := ite_f hc h
    refine lv_aload hx hb d_PB_realResult_9 (lv_at hl 3 rfl) ?_
    refine lv_lload_n hx hb d_PB_realResult_11 rfl (lv_at hl 2 rfl) ?_
    refine q_V (As := [.long a2]) (rest := []) (n := 1) hx hb hml hown hts (c_Real_isNan l o3 K3 a2) rfl rfl m_30 m_141 m_32 m_33 m_11 (by decide +kernel) ⟨Nat.le_of_ble_eq_true rfl, Nat.le_of_ble_eq_true rfl⟩ (rAt_rc hRe_o3) (p1_bl) (fun U hU hW => p1_mv hU hW hNB hRe_o3) rfl hl.1 rfl (Nat.le_of_ble_eq_true rfl) d_PB_realResult_12 ⟨Nat.zero_le _, Nat.zero_le _⟩ ?_
    refine lv_if_eq (tgt := 24) hx hb d_PB_realResult_15 rfl (fun hc => ?_) (fun hc => ?_)
    · have h := ite_t hc h
      refine lv_iload_n hx hb d_PB_realResult_24 rfl (lv_at hl 0 rfl) ?_
      by_cases hc0 : a0 = (0 : Int32)
      · have h := ite_t hc0 h
        refine lv_tableIn (off := 31) (tgt := 56) hx hb d_PB_realResult_25 (by rw [hc0]; decide) (by rw [hc0]; decide) (by rw [hc0]; rfl) rfl ?_
        refine lv_aload hx hb d_PB_realResult_56 (lv_at hl 3 rfl) ?_
        refine lv_lload_n hx hb d_PB_realResult_58 rfl (lv_at hl 1 rfl) ?_
        refine lv_lload_n hx hb d_PB_realResult_59 rfl (lv_at hl 2 rfl) ?_
        obtain ⟨x1, e_x1, h⟩ := bd_o h
        refine q_V (As := [.long a1, .long a2]) (rest := []) (n := 2) hx hb hml hown hts (c_Real_sum l o3 n K3 a1 a2 _ e_x1) rfl rfl m_143 m_144 m_145 m_146 m_11 (by decide +kernel) ⟨Nat.le_of_ble_eq_true rfl, Nat.le_of_ble_eq_true rfl⟩ (rAt_rc hRe_o3) (p1_bl) (fun U hU hW => p1_mv hU hW hNB hRe_o3) rfl hl.1 rfl (Nat.le_of_ble_eq_true rfl) d_PB_realResult_60 ⟨Nat.zero_le _, Nat.zero_le _⟩ ?_
        exact hret 63 ls _ (Option.some.inj h) d_PB_realResult_63
      have h := ite_f hc0 h
      by_cases hc1 : a0 = (1 : Int32)
      · have h := ite_t hc1 h
        refine lv_tableIn (off := 39) (tgt := 64) hx hb d_PB_realResult_25 (by rw [hc1]; decide) (by rw [hc1]; decide) (by rw [hc1]; rfl) rfl ?_
        refine lv_aload hx hb d_PB_realResult_64 (lv_at hl 3 rfl) ?_
        refine lv_lload_n hx hb d_PB_realResult_66 rfl (lv_at hl 1 rfl) ?_
        refine lv_aload hx hb d_PB_realResult_67 (lv_at hl 3 rfl) ?_
        refine lv_lload_n hx hb d_PB_realResult_69 rfl (lv_at hl 2 rfl) ?_
        refine q_V (As := [.long a2]) (rest := [.long a1, .ref o3]) (n := 1) hx hb hml hown hts (c_Real_negate l o3 K3 a2) rfl rfl m_147 m_148 m_149 m_150 m_11 (by decide +kernel) ⟨Nat.le_of_ble_eq_true rfl, Nat.le_of_ble_eq_true rfl⟩ (rAt_rc hRe_o3) (p1_bl) (fun U hU hW => p1_mv hU hW hNB hRe_o3) rfl hl.1 rfl (Nat.le_of_ble_eq_true rfl) d_PB_realResult_70 ⟨Nat.zero_le _, Nat.zero_le _⟩ ?_
        obtain ⟨x2, e_x2, h⟩ := bd_o h
        refine q_V (As := [.long a1, .long (F_Real_negate K3 a2)]) (rest := []) (n := 2) hx hb hml hown hts (c_Real_sum l o3 n K3 a1 (F_Real_negate K3 a2) _ e_x2) rfl rfl m_143 m_144 m_145 m_146 m_11 (by decide +kernel) ⟨Nat.le_of_ble_eq_true rfl, Nat.le_of_ble_eq_true rfl⟩ (rAt_rc hRe_o3) (p1_bl) (fun U hU hW => p1_mv hU hW hNB hRe_o3) rfl hl.1 rfl (Nat.le_of_ble_eq_true rfl) d_PB_realResult_73 ⟨Nat.zero_le _, Nat.zero_le _⟩ ?_
        exact hret 76 ls _ (Option.some.inj h) d_PB_realResult_76
      have h := ite_f hc1 h
      by_cases hc2 : a0 = (2 : Int32)
      · have h := ite_t hc2 h
        refine lv_tableIn (off := 52) (tgt := 77) hx hb d_PB_realResult_25 (by rw [hc2]; decide) (by rw [hc2]; decide) (by rw [hc2]; rfl) rfl ?_
        refine lv_aload hx hb d_PB_realResult_77 (lv_at hl 3 rfl) ?_
        refine lv_lload_n hx hb d_PB_realResult_79 rfl (lv_at hl 1 rfl) ?_
        refine lv_lload_n hx hb d_PB_realResult_80 rfl (lv_at hl 2 rfl) ?_
        obtain ⟨x3, e_x3, h⟩ := bd_o h
        refine q_V (As := [.long a1, .long a2]) (rest := []) (n := 2) hx hb hml hown hts (c_Real_product l o3 n K3 a1 a2 _ e_x3) rfl rfl m_151 m_152 m_153 m_154 m_11 (by decide +kernel) ⟨Nat.le_of_ble_eq_true rfl, Nat.le_of_ble_eq_true rfl⟩ (rAt_rc hRe_o3) (p1_bl) (fun U hU hW => p1_mv hU hW hNB hRe_o3) rfl hl.1 rfl (Nat.le_of_ble_eq_true rfl) d_PB_realResult_81 ⟨Nat.zero_le _, Nat.zero_le _⟩ ?_
        exact hret 84 ls _ (Option.some.inj h) d_PB_realResult_84
      have h := ite_f hc2 h
      by_cases hc3 : a0 = (3 : Int32)
      · have h := ite_t hc3 h
        refine lv_tableIn (off := 60) (tgt := 85) hx hb d_PB_realResult_25 (by rw [hc3]; decide) (by rw [hc3]; decide) (by rw [hc3]; rfl) rfl ?_
        refine lv_aload hx hb d_PB_realResult_85 (lv_at hl 3 rfl) ?_
        refine lv_lload_n hx hb d_PB_realResult_87 rfl (lv_at hl 1 rfl) ?_
        refine lv_lload_n hx hb d_PB_realResult_88 rfl (lv_at hl 2 rfl) ?_
        obtain ⟨x4, e_x4, h⟩ := bd_o h
        refine q_V (As := [.long a1, .long a2]) (rest := []) (n := 2) hx hb hml hown hts (c_Real_quotient l o3 n K3 a1 a2 _ e_x4) rfl rfl m_155 m_156 m_157 m_158 m_11 (by decide +kernel) ⟨Nat.le_of_ble_eq_true rfl, Nat.le_of_ble_eq_true rfl⟩ (rAt_rc hRe_o3) (p1_bl) (fun U hU hW => p1_mv hU hW hNB hRe_o3) rfl hl.1 rfl (Nat.le_of_ble_eq_true rfl) d_PB_realResult_89 ⟨Nat.zero_le _, Nat.zero_le _⟩ ?_
        exact hret 92 ls _ (Option.some.inj h) d_PB_realResult_92
      have h := ite_f hc3 h
      refine lv_tableOut (tgt := 93) hx hb d_PB_realResult_25 (by have n0 := lv_neT hc0 (show ((0 : Int32)).toInt = 0 from rfl); have n1 := lv_neT hc1 (show ((1 : Int32)).toInt = 1 from rfl); have n2 := lv_neT hc2 (show ((2 : Int32)).toInt = 2 from rfl); have n3 := lv_neT hc3 (show ((3 : Int32)).toInt = 3 from rfl); omega) rfl ?_
      refine lv_aload hx hb d_PB_realResult_93 (lv_at hl 3 rfl) ?_
      refine lv_lload_n hx hb d_PB_realResult_95 rfl (lv_at hl 1 rfl) ?_
      refine lv_lload_n hx hb d_PB_realResult_96 rfl (lv_at hl 2 rfl) ?_
      obtain ⟨x5, e_x5, h⟩ := bd_o h
      refine q_V (As := [.long a1, .long a2]) (rest := []) (n := 2) hx hb hml hown hts (c_Real_remainder l o3 n K3 a1 a2 _ e_x5) rfl rfl m_159 m_160 m_161 m_162 m_11 (by decide +kernel) ⟨Nat.le_of_ble_eq_true rfl, Nat.le_of_ble_eq_true rfl⟩ (rAt_rc hRe_o3) (p1_bl) (fun U hU hW => p1_mv hU hW hNB hRe_o3) rfl hl.1 rfl (Nat.le_of_ble_eq_true rfl) d_PB_realResult_97 ⟨Nat.zero_le _, Nat.zero_le _⟩ ?_
      exact hret 100 ls _ (Option.some.inj h) d_PB_realResult_100
    · have h := ite_f hc h
      exact hJ18 ls (lv_sub hl [3] rfl) h
-- PB_wholeFromReal
theorem d_PB_wholeFromReal_0 : decode b_PB_wholeFromReal 0 = .ok (.aload_n 2, 1) := by decide +kernel
theorem d_PB_wholeFromReal_1 : decode b_PB_wholeFromReal 1 = .ok (.lload_n 0, 1) := by decide +kernel
theorem d_PB_wholeFromReal_2 : decode b_PB_wholeFromReal 2 = .ok (.invokevirtual 149, 3) := by decide +kernel
theorem d_PB_wholeFromReal_5 : decode b_PB_wholeFromReal 5 = .ok (.lstore 4, 2) := by decide +kernel
theorem d_PB_wholeFromReal_7 : decode b_PB_wholeFromReal 7 = .ok (.iload_n 3, 1) := by decide +kernel
theorem d_PB_wholeFromReal_8 : decode b_PB_wholeFromReal 8 = .ok (.iconst 4, 1) := by decide +kernel
theorem d_PB_wholeFromReal_9 : decode b_PB_wholeFromReal 9 = .ok (.if_icmp .ne 6, 3) := by decide +kernel
theorem d_PB_wholeFromReal_12 : decode b_PB_wholeFromReal 12 = .ok (.lload 4, 2) := by decide +kernel
theorem d_PB_wholeFromReal_14 : decode b_PB_wholeFromReal 14 = .ok (.lreturn, 1) := by decide +kernel
theorem d_PB_wholeFromReal_15 : decode b_PB_wholeFromReal 15 = .ok (.ldc2_w 152, 3) := by decide +kernel
theorem d_PB_wholeFromReal_18 : decode b_PB_wholeFromReal 18 = .ok (.ldc2_w 154, 3) := by decide +kernel
theorem d_PB_wholeFromReal_21 : decode b_PB_wholeFromReal 21 = .ok (.lload 4, 2) := by decide +kernel
theorem d_PB_wholeFromReal_23 : decode b_PB_wholeFromReal 23 = .ok (.invokestatic 156, 3) := by decide +kernel
theorem d_PB_wholeFromReal_26 : decode b_PB_wholeFromReal 26 = .ok (.invokestatic 161, 3) := by decide +kernel
theorem d_PB_wholeFromReal_29 : decode b_PB_wholeFromReal 29 = .ok (.iload_n 3, 1) := by decide +kernel
theorem d_PB_wholeFromReal_30 : decode b_PB_wholeFromReal 30 = .ok (.invokestatic 41, 3) := by decide +kernel
theorem d_PB_wholeFromReal_33 : decode b_PB_wholeFromReal 33 = .ok (.lreturn, 1) := by decide +kernel
def F_PB_wholeFromReal (K1 : rK) (a0 : Int64) (a2 : Int32) : Int64 := lt_ (F_Real_toLong K1 a0) fun x1 => if ¬ a2 = (4 : Int32) then (F_PB_wholeOf (if (if x1 < (2147483647 : Int64) then x1 else (2147483647 : Int64)) < (-2147483648 : Int64) then (-2147483648 : Int64) else if x1 < (2147483647 : Int64) then x1 else (2147483647 : Int64)) a2) else x1
set_option maxHeartbeats 4000000 in
set_option maxRecDepth 100000 in
theorem c_PB_wholeFromReal (l : Launch) (o1 : Nat) (K1 : rK) (a0 : Int64) (a2 : Int32) : Met l y_PB_wholeFromReal (.code y_PB_wholeFromReal b_PB_wholeFromReal 6 (some .long) :: BIG) ({ frames := 3, cells := 0, slots := 0, locals := 70 } : Room) (va_Pc [.long a0, .ref o1, .int a2] (pre1 o1 K1)) (pQ (.long (F_PB_wholeFromReal K1 a0 a2))) 0 0 (fun _ => False) := by
  refine pOpen_l rfl (Nat.le_of_ble_eq_true rfl) ?_
  intro p e s m args below meth c Q ls hx hb hml hown hts hT hp hl hret
  obtain ⟨hNB, hRe_o1⟩ := hp
  have hown : s.vm.findClass R_PB = some m.cls := hown
  have hl : lv_has ls 6 [(0, .long a0), (2, .ref o1), (3, .int a2)] := hl
  obtain ⟨r, h⟩ : ∃ r, F_PB_wholeFromReal K1 a0 a2 = r := ⟨_, rfl⟩
  rw [h] at hret
  have h : (lt_ (F_Real_toLong K1 a0) fun x1 => if ¬ a2 = (4 : Int32) then (F_PB_wholeOf (if (if x1 < (2147483647 : Int64) then x1 else (2147483647 : Int64)) < (-2147483648 : Int64) then (-2147483648 : Int64) else if x1 < (2147483647 : Int64) then x1 else (2147483647 : Int64)) a2) else x1) = r := h
  refine lv_aload_n hx hb d_PB_wholeFromReal_0 rfl (lv_at hl 1 rfl) ?_
  refine lv_lload_n hx hb d_PB_wholeFromReal_1 rfl (lv_at hl 0 rfl) ?_
  refine q_V (As := [.long a0]) (rest := []) (n := 1) hx hb hml hown hts (c_Real_toLong l o1 K1 a0) rfl rfl m_163 m_164 m_165 m_166 m_11 (by decide +kernel) ⟨Nat.le_of_ble_eq_true rfl, Nat.le_of_ble_eq_true rfl⟩ (rAt_rc hRe_o1) (p1_bl) (fun U hU hW => p1_mv hU hW hNB hRe_o1) rfl hl.1 rfl (Nat.le_of_ble_eq_true rfl) d_PB_wholeFromReal_2 ⟨Nat.zero_le _, Nat.zero_le _⟩ ?_
  refine lv_topl (fun x1 e_x1 => ?_)
  have h := lt_h e_x1 h
  refine lv_lstore hx hb d_PB_wholeFromReal_5 hl (by decide) rfl (fun ls hl => ?_)
  have hl : lv_has ls 6 [(4, .long x1), (0, .long a0), (2, .ref o1), (3, .int a2)] := hl
  refine lv_iload_n hx hb d_PB_wholeFromReal_7 rfl (lv_at hl 3 rfl) ?_
  refine lv_iconst hx hb d_PB_wholeFromReal_8 ic_4 ?_
  refine lv_icmp_ne (tgt := 15) hx hb d_PB_wholeFromReal_9 rfl (fun hc => ?_) (fun hc => ?_)
  · have h := ite_t hc h
    refine lv_ldc2 hx hb hown (hT _ m_167) d_PB_wholeFromReal_15 ?_
    refine lv_ldc2 hx hb hown (hT _ m_168) d_PB_wholeFromReal_18 ?_
    refine lv_lload hx hb d_PB_wholeFromReal_21 (lv_at hl 0 rfl) ?_
    refine q_lmin hx hb (hml.trans hl.1.symm) hown (hT _ m_169) (hT _ m_170) (hT _ m_28) (hT _ m_171) (Nat.le_of_ble_eq_true rfl) (Nat.le_of_ble_eq_true rfl) (Nat.zero_le _) (Nat.zero_le _) d_PB_wholeFromReal_23 ?_
    refine q_lmax hx hb (hml.trans hl.1.symm) hown (hT _ m_172) (hT _ m_116) (hT _ m_28) (hT _ m_117) (Nat.le_of_ble_eq_true rfl) (Nat.le_of_ble_eq_true rfl) (Nat.zero_le _) (Nat.zero_le _) d_PB_wholeFromReal_26 ?_
    refine lv_iload_n hx hb d_PB_wholeFromReal_29 rfl (lv_at hl 3 rfl) ?_
    refine q_S (As := [.long (if (if x1 < (2147483647 : Int64) then x1 else (2147483647 : Int64)) < (-2147483648 : Int64) then (-2147483648 : Int64) else if x1 < (2147483647 : Int64) then x1 else (2147483647 : Int64)), .int a2]) (rest := []) (n := 2) hx hb hml hown hts (c_PB_wholeOf l (if (if x1 < (2147483647 : Int64) then x1 else (2147483647 : Int64)) < (-2147483648 : Int64) then (-2147483648 : Int64) else if x1 < (2147483647 : Int64) then x1 else (2147483647 : Int64)) a2) rfl rfl m_173 m_174 m_175 m_3 (by decide +kernel) ⟨Nat.le_of_ble_eq_true rfl, Nat.le_of_ble_eq_true rfl⟩ (p0_bl) (fun U hU hW => p0_mv hU hW hNB) rfl hl.1 rfl (Nat.le_of_ble_eq_true rfl) d_PB_wholeFromReal_30 ⟨Nat.zero_le _, Nat.zero_le _⟩ ?_
    exact hret 33 ls _ h d_PB_wholeFromReal_33
  · have hc := not_not_intro hc
    have h := ite_f hc h
    refine lv_lload hx hb d_PB_wholeFromReal_12 (lv_at hl 0 rfl) ?_
    exact hret 14 ls _ h d_PB_wholeFromReal_14
-- Lt_clear
theorem d_Lt_clear_0 : decode b_Lt_clear 0 = .ok (.aload_n 0, 1) := by decide +kernel
theorem d_Lt_clear_1 : decode b_Lt_clear 1 = .ok (.iconst 0, 1) := by decide +kernel
theorem d_Lt_clear_2 : decode b_Lt_clear 2 = .ok (.putfield 13, 3) := by decide +kernel
theorem d_Lt_clear_5 : decode b_Lt_clear 5 = .ok (.aload_n 0, 1) := by decide +kernel
theorem d_Lt_clear_6 : decode b_Lt_clear 6 = .ok (.iconst 0, 1) := by decide +kernel
theorem d_Lt_clear_7 : decode b_Lt_clear 7 = .ok (.putfield 17, 3) := by decide +kernel
theorem d_Lt_clear_10 : decode b_Lt_clear 10 = .ok (.return_, 1) := by decide +kernel
def F_Lt_clear (len : Int32) (tk : Int32) : Int32 × Int32 := ((0 : Int32), (0 : Int32))
set_option maxHeartbeats 4000000 in
set_option maxRecDepth 100000 in
theorem c_Lt_clear (l : Launch) (D : va_G) (A : Nat → Prop) (cI cL cC : ClassId) (ad : Nat → Nat) (X : va_W) (len : Int32) (tk : Int32) (row : Nat → Int32) (dig : Int64) (pw : Int32) (used : Int32) (lost : Int32) (lim : Nat → Int64) (r : Int32 × Int32) (h : F_Lt_clear len tk = r) : Met l y_Lt_clear (.code y_Lt_clear b_Lt_clear 1 none :: BIG) ({ frames := 0, cells := 0, slots := 0, locals := 0 } : Room) (va_Pc [.ref (ad 1)] (gPre D A (tysV cI cL cC) (gC cI cL cC ad X len tk row dig pw used lost lim))) (gQ D A none (gC cI cL cC ad X r.1 r.2 row dig pw used lost lim)) 0 0 A := by
  refine gOpen_v rfl (Nat.le_of_ble_eq_true rfl) ?_
  intro p e s m args below meth c Q ls hx hb hml hown hts hT hNB hP hK hD hl hret
  have hown : s.vm.findClass R_Lt = some m.cls := hown
  have hS : va_S A s.heap s.heap [] := va_S.rf
  have hl : lv_has ls 1 [(0, .ref (ad 1))] := hl
  have h : (((0 : Int32), (0 : Int32))) = r := h
  refine lv_aload_n hx hb d_Lt_clear_0 rfl (lv_at hl 0 rfl) ?_
  refine lv_iconst hx hb d_Lt_clear_1 ic_0 ?_
  refine va_put (D := D) (ci := 1) (C := R_Lt) (T := T_Lt) (N := 3) hx hb hT in_Lt ty_Lt tyok_Lt nm_Lt hown hK hP hD hS 1 rfl rfl 1 (by decide) (hT _ m_176) (fun _ h9 => h9) rfl (ty := .int) (by decide +kernel) rfl rfl (by decide : 1 < 3) d_Lt_clear_2 (fun H locs hP hD hS => ?_)
  have hP : va_P D cls (gC cI cL cC ad X (0 : Int32) tk row dig pw used lost lim) H := hP
  have hD : va_D A (gC cI cL cC ad X (0 : Int32) tk row dig pw used lost lim) := hD
  refine lv_aload_n hx hb d_Lt_clear_5 rfl (lv_at hl 0 rfl) ?_
  refine lv_iconst hx hb d_Lt_clear_6 ic_0 ?_
  refine va_put (D := D) (ci := 1) (C := R_Lt) (T := T_Lt) (N := 3) hx hb hT in_Lt ty_Lt tyok_Lt nm_Lt hown hK hP hD hS 1 rfl rfl 2 (by decide) (hT _ m_177) (fun _ h9 => h9) rfl (ty := .int) (by decide +kernel) rfl rfl (by decide : 2 < 3) d_Lt_clear_7 (fun H locs hP hD hS => ?_)
  have hP : va_P D cls (gC cI cL cC ad X (0 : Int32) (0 : Int32) row dig pw used lost lim) H := hP
  have hD : va_D A (gC cI cL cC ad X (0 : Int32) (0 : Int32) row dig pw used lost lim) := hD
  subst h
  exact hret 10 ls _ _ hP hD hS d_Lt_clear_10
-- Lt_count
theorem d_Lt_count_0 : decode b_Lt_count 0 = .ok (.aload_n 0, 1) := by decide +kernel
theorem d_Lt_count_1 : decode b_Lt_count 1 = .ok (.getfield 13, 3) := by decide +kernel
theorem d_Lt_count_4 : decode b_Lt_count 4 = .ok (.ireturn, 1) := by decide +kernel
def F_Lt_count (len : Int32) : Int32 := len
set_option maxHeartbeats 4000000 in
set_option maxRecDepth 100000 in
theorem c_Lt_count (l : Launch) (D : va_G) (A : Nat → Prop) (cI cL cC : ClassId) (ad : Nat → Nat) (X : va_W) (len : Int32) (tk : Int32) (row : Nat → Int32) (dig : Int64) (pw : Int32) (used : Int32) (lost : Int32) (lim : Nat → Int64) (r : Int32) (h : F_Lt_count len = r) : Met l y_Lt_count (.code y_Lt_count b_Lt_count 1 (some .int) :: BIG) ({ frames := 0, cells := 0, slots := 0, locals := 0 } : Room) (va_Pc [.ref (ad 1)] (gPre D A (tysV cI cL cC) (gC cI cL cC ad X len tk row dig pw used lost lim))) (gQ D A (some (.int r)) (gC cI cL cC ad X len tk row dig pw used lost lim)) 0 0 A := by
  refine gOpen_i rfl (Nat.le_of_ble_eq_true rfl) ?_
  intro p e s m args below meth c Q ls hx hb hml hown hts hT hNB hP hK hD hl hret
  have hown : s.vm.findClass R_Lt = some m.cls := hown
  have hS : va_S A s.heap s.heap [] := va_S.rf
  have hl : lv_has ls 1 [(0, .ref (ad 1))] := hl
  have h : (len) = r := h
  refine lv_aload_n hx hb d_Lt_count_0 rfl (lv_at hl 0 rfl) ?_
  refine va_get (D := D) (ci := 1) (C := R_Lt) (T := T_Lt) (N := 3) hx hb hT in_Lt hown hK hP 1 rfl rfl 1 (by decide) (hT _ m_176) (fun _ h9 => h9) rfl d_Lt_count_1 ?_
  subst h
  exact hret 4 ls _ _ _ rfl hP hD hS d_Lt_count_4
-- Lt_next
theorem d_Lt_next_0 : decode b_Lt_next 0 = .ok (.lconst 0, 1) := by decide +kernel
theorem d_Lt_next_1 : decode b_Lt_next 1 = .ok (.lstore_n 2, 1) := by decide +kernel
theorem d_Lt_next_2 : decode b_Lt_next 2 = .ok (.iconst 0, 1) := by decide +kernel
theorem d_Lt_next_3 : decode b_Lt_next 3 = .ok (.istore 4, 2) := by decide +kernel
theorem d_Lt_next_5 : decode b_Lt_next 5 = .ok (.iload 4, 2) := by decide +kernel
theorem d_Lt_next_7 : decode b_Lt_next 7 = .ok (.iload_n 1, 1) := by decide +kernel
theorem d_Lt_next_8 : decode b_Lt_next 8 = .ok (.if_icmp .ge 55, 3) := by decide +kernel
theorem d_Lt_next_11 : decode b_Lt_next 11 = .ok (.aload_n 0, 1) := by decide +kernel
theorem d_Lt_next_12 : decode b_Lt_next 12 = .ok (.getfield 17, 3) := by decide +kernel
theorem d_Lt_next_15 : decode b_Lt_next 15 = .ok (.aload_n 0, 1) := by decide +kernel
theorem d_Lt_next_16 : decode b_Lt_next 16 = .ok (.getfield 13, 3) := by decide +kernel
theorem d_Lt_next_19 : decode b_Lt_next 19 = .ok (.if_icmp .ge 44, 3) := by decide +kernel
theorem d_Lt_next_22 : decode b_Lt_next 22 = .ok (.aload_n 0, 1) := by decide +kernel
theorem d_Lt_next_23 : decode b_Lt_next 23 = .ok (.getfield 17, 3) := by decide +kernel
theorem d_Lt_next_26 : decode b_Lt_next 26 = .ok (.bipush 32, 2) := by decide +kernel
theorem d_Lt_next_28 : decode b_Lt_next 28 = .ok (.if_icmp .ge 35, 3) := by decide +kernel
theorem d_Lt_next_31 : decode b_Lt_next 31 = .ok (.lload_n 2, 1) := by decide +kernel
theorem d_Lt_next_32 : decode b_Lt_next 32 = .ok (.bipush 8, 2) := by decide +kernel
theorem d_Lt_next_34 : decode b_Lt_next 34 = .ok (.lshl, 1) := by decide +kernel
theorem d_Lt_next_35 : decode b_Lt_next 35 = .ok (.aload_n 0, 1) := by decide +kernel
theorem d_Lt_next_36 : decode b_Lt_next 36 = .ok (.getfield 9, 3) := by decide +kernel
theorem d_Lt_next_39 : decode b_Lt_next 39 = .ok (.aload_n 0, 1) := by decide +kernel
theorem d_Lt_next_40 : decode b_Lt_next 40 = .ok (.getfield 17, 3) := by decide +kernel
theorem d_Lt_next_43 : decode b_Lt_next 43 = .ok (.caload, 1) := by decide +kernel
theorem d_Lt_next_44 : decode b_Lt_next 44 = .ok (.i2l, 1) := by decide +kernel
theorem d_Lt_next_45 : decode b_Lt_next 45 = .ok (.lor, 1) := by decide +kernel
theorem d_Lt_next_46 : decode b_Lt_next 46 = .ok (.lstore_n 2, 1) := by decide +kernel
theorem d_Lt_next_47 : decode b_Lt_next 47 = .ok (.aload_n 0, 1) := by decide +kernel
theorem d_Lt_next_48 : decode b_Lt_next 48 = .ok (.dup, 1) := by decide +kernel
theorem d_Lt_next_49 : decode b_Lt_next 49 = .ok (.getfield 17, 3) := by decide +kernel
theorem d_Lt_next_52 : decode b_Lt_next 52 = .ok (.iconst 1, 1) := by decide +kernel
theorem d_Lt_next_53 : decode b_Lt_next 53 = .ok (.iadd, 1) := by decide +kernel
theorem d_Lt_next_54 : decode b_Lt_next 54 = .ok (.putfield 17, 3) := by decide +kernel
theorem d_Lt_next_57 : decode b_Lt_next 57 = .ok (.iinc 4 1, 3) := by decide +kernel
theorem d_Lt_next_60 : decode b_Lt_next 60 = .ok (.goto (-55), 3) := by decide +kernel
theorem d_Lt_next_63 : decode b_Lt_next 63 = .ok (.lload_n 2, 1) := by decide +kernel
theorem d_Lt_next_64 : decode b_Lt_next 64 = .ok (.lreturn, 1) := by decide +kernel
def F_Lt_next_L5 (len : Int32) (row : Nat → Int32) (a1 : Int32) (j63 : (Int64 → Int32 → Option (Int64 × Int32))) : Nat → Int64 → Int32 → Int32 → Option (Int64 × Int32)
  | 0, _, _, _ => none
  | n+1, y3, y4, tk_5 => if a1 ≤ y4 then (j63 y3 tk_5) else (if len ≤ tk_5 then (j63 y3 tk_5) else (if (32 : Int32) ≤ tk_5 then (j63 y3 tk_5) else (gz_ (tk_5 < 0 ∨ 32 ≤ (tk_5).toNatClampNeg) <| lt_ ((y3 <<< (((8 : Int32)).toInt64 &&& 63)) ||| ((row (tk_5).toNatClampNeg).toInt64)) fun x6 => lt_ (tk_5 + (1 : Int32)) fun x7 => lt_ (y4 + Int32.ofInt 1) fun x8 => F_Lt_next_L5 len row a1 j63 n x6 x8 x7)))
def F_Lt_next (n : Nat) (len : Int32) (tk : Int32) (row : Nat → Int32) (a1 : Int32) : Option (Int64 × Int32) := lt_ (fun (y1 : Int64) (tk_2 : Int32) => some (y1, tk_2)) fun j63 => F_Lt_next_L5 len row a1 j63 n (0 : Int64) (0 : Int32) tk
set_option maxHeartbeats 4000000 in
set_option maxRecDepth 100000 in
theorem c_Lt_next (l : Launch) (D : va_G) (A : Nat → Prop) (cI cL cC : ClassId) (ad : Nat → Nat) (X : va_W) (len : Int32) (tk : Int32) (row : Nat → Int32) (dig : Int64) (pw : Int32) (used : Int32) (lost : Int32) (lim : Nat → Int64) (n : Nat) (a1 : Int32) (r : Int64 × Int32) (h : F_Lt_next n len tk row a1 = some r) : Met l y_Lt_next (.code y_Lt_next b_Lt_next 5 (some .long) :: BIG) ({ frames := 0, cells := 0, slots := 0, locals := 0 } : Room) (va_Pc [.ref (ad 1), .int a1] (gPre D A (tysV cI cL cC) (gC cI cL cC ad X len tk row dig pw used lost lim))) (gQ D A (some (.long r.1)) (gC cI cL cC ad X len r.2 row dig pw used lost lim)) 0 0 A := by
  refine gOpen_l rfl (Nat.le_of_ble_eq_true rfl) ?_
  intro p e s m args below meth c Q ls hx hb hml hown hts hT hNB hP hK hD hl hret
  have hown : s.vm.findClass R_Lt = some m.cls := hown
  have hS : va_S A s.heap s.heap [] := va_S.rf
  have hl : lv_has ls 5 [(0, .ref (ad 1)), (1, .int a1)] := hl
  have h : (lt_ (fun (y1 : Int64) (tk_2 : Int32) => some (y1, tk_2)) fun j63 => F_Lt_next_L5 len row a1 j63 n (0 : Int64) (0 : Int32) tk) = some r := h
  refine lv_lconst hx hb d_Lt_next_0 lc_0 ?_
  refine lv_lstore_n hx hb d_Lt_next_1 rfl hl (by decide) rfl (fun ls hl => ?_)
  have hl : lv_has ls 5 [(2, .long (0 : Int64)), (0, .ref (ad 1)), (1, .int a1)] := hl
  refine lv_iconst hx hb d_Lt_next_2 ic_0 ?_
  refine lv_istore hx hb d_Lt_next_3 hl (by decide) rfl (fun ls hl => ?_)
  have hl : lv_has ls 5 [(4, .int (0 : Int32)), (2, .long (0 : Int64)), (0, .ref (ad 1)), (1, .int a1)] := hl
  obtain ⟨j63, e_j63, h⟩ := lt_o h
  have hJ63 : ∀ (y1 : Int64) (tk_2 : Int32) (ls : Array Slot) (H : Heap) (locs : List Loc), lv_has ls 5 [(2, .long y1)] → va_P D cls (gC cI cL cC ad X len tk_2 row dig pw used lost lim) H → va_D A (gC cI cL cC ad X len tk_2 row dig pw used lost lim) → va_S A s.heap H locs → j63 y1 tk_2 = some r → W p l e ({ frames := 0, cells := 0, slots := 0, locals := 0 } : Room) s m args below meth c H locs 0 0 Q (F0 m 63 ls []) := by
    intro y1 tk_2 ls H locs hl hP hD hS h
    rw [e_j63] at h
    refine lv_lload_n hx hb d_Lt_next_63 rfl (lv_at hl 0 rfl) ?_
    obtain rfl := Option.some.inj h
    exact hret 64 ls _ _ _ rfl hP hD hS d_Lt_next_64
  have hL5 : ∀ (n : Nat) (y3 : Int64) (y4 : Int32) (tk_5 : Int32) (ls : Array Slot) (H : Heap) (locs : List Loc), lv_has ls 5 [(0, .ref (ad 1)), (1, .int a1), (2, .long y3), (4, .int y4)] → va_P D cls (gC cI cL cC ad X len tk_5 row dig pw used lost lim) H → va_D A (gC cI cL cC ad X len tk_5 row dig pw used lost lim) → va_S A s.heap H locs → F_Lt_next_L5 len row a1 j63 n y3 y4 tk_5 = some r → W p l e ({ frames := 0, cells := 0, slots := 0, locals := 0 } : Room) s m args below meth c H locs 0 0 Q (F0 m 5 ls []) := by
    intro n
    induction n with
    | zero => intro y3 y4 tk_5 ls H locs hl hP hD hS h; exact no_s h
    | succ n ih =>
      intro y3 y4 tk_5 ls H locs hl hP hD hS h
      have h : (if a1 ≤ y4 then (j63 y3 tk_5) else (if len ≤ tk_5 then (j63 y3 tk_5) else (if (32 : Int32) ≤ tk_5 then (j63 y3 tk_5) else (gz_ (tk_5 < 0 ∨ 32 ≤ (tk_5).toNatClampNeg) <| lt_ ((y3 <<< (((8 : Int32)).toInt64 &&& 63)) ||| ((row (tk_5).toNatClampNeg).toInt64)) fun x6 => lt_ (tk_5 + (1 : Int32)) fun x7 => lt_ (y4 + Int32.ofInt 1) fun x8 => F_Lt_next_L5 len row a1 j63 n x6 x8 x7)))) = some r := h
      refine lv_iload hx hb d_Lt_next_5 (lv_at hl 3 rfl) ?_
      refine lv_iload_n hx hb d_Lt_next_7 rfl (lv_at hl 1 rfl) ?_
      refine lv_icmp_ge (tgt := 63) hx hb d_Lt_next_8 rfl (fun hc => ?_) (fun hc => ?_)
      · have h := ite_t hc h
        exact hJ63 _ _ ls _ _ (lv_sub hl [2] rfl) hP hD hS h
      · have h := ite_f hc h
        refine lv_aload_n hx hb d_Lt_next_11 rfl (lv_at hl 0 rfl) ?_
        refine va_get (D := D) (ci := 1) (C := R_Lt) (T := T_Lt) (N := 3) hx hb hT in_Lt hown hK hP 1 rfl rfl 2 (by decide) (hT _ m_177) (fun _ h9 => h9) rfl d_Lt_next_12 ?_
        refine lv_aload_n hx hb d_Lt_next_15 rfl (lv_at hl 0 rfl) ?_
        refine va_get (D := D) (ci := 1) (C := R_Lt) (T := T_Lt) (N := 3) hx hb hT in_Lt hown hK hP 1 rfl rfl 1 (by decide) (hT _ m_176) (fun _ h9 => h9) rfl d_Lt_next_16 ?_
        refine lv_icmp_ge (tgt := 63) hx hb d_Lt_next_19 rfl (fun hc => ?_) (fun hc => ?_)
        · have h := ite_t hc h
          exact hJ63 _ _ ls _ _ (lv_sub hl [2] rfl) hP hD hS h
        · have h := ite_f hc h
          refine lv_aload_n hx hb d_Lt_next_22 rfl (lv_at hl 0 rfl) ?_
          refine va_get (D := D) (ci := 1) (C := R_Lt) (T := T_Lt) (N := 3) hx hb hT in_Lt hown hK hP 1 rfl rfl 2 (by decide) (hT _ m_177) (fun _ h9 => h9) rfl d_Lt_next_23 ?_
          refine lv_bipush hx hb d_Lt_next_26 bp_32 ?_
          refine lv_icmp_ge (tgt := 63) hx hb d_Lt_next_28 rfl (fun hc => ?_) (fun hc => ?_)
          · have h := ite_t hc h
            exact hJ63 _ _ ls _ _ (lv_sub hl [2] rfl) hP hD hS h
          · have h := ite_f hc h
            refine lv_lload_n hx hb d_Lt_next_31 rfl (lv_at hl 2 rfl) ?_
            refine lv_bipush hx hb d_Lt_next_32 bp_8 ?_
            refine lv_lshl hx hb d_Lt_next_34 rfl ?_
            refine lv_aload_n hx hb d_Lt_next_35 rfl (lv_at hl 0 rfl) ?_
            refine va_get (D := D) (ci := 1) (C := R_Lt) (T := T_Lt) (N := 3) hx hb hT in_Lt hown hK hP 1 rfl rfl 0 (by decide) (hT _ m_178) (fun _ h9 => h9) rfl d_Lt_next_36 ?_
            refine lv_aload_n hx hb d_Lt_next_39 rfl (lv_at hl 0 rfl) ?_
            refine va_get (D := D) (ci := 1) (C := R_Lt) (T := T_Lt) (N := 3) hx hb hT in_Lt hown hK hP 1 rfl rfl 2 (by decide) (hT _ m_177) (fun _ h9 => h9) rfl d_Lt_next_40 ?_
            have hi := gz_n h
            have h := gz_h h
            refine va_cald hx hb hK hP 2 2 rfl rfl hi d_Lt_next_43 ?_
            refine lv_i2l hx hb d_Lt_next_44 rfl ?_
            refine lv_lor hx hb d_Lt_next_45 ?_
            refine lv_topl (fun x6 e_x6 => ?_)
            have h := lt_h e_x6 h
            refine lv_lstore_n hx hb d_Lt_next_46 rfl hl (by decide) rfl (fun ls hl => ?_)
            have hl : lv_has ls 5 [(2, .long x6), (0, .ref (ad 1)), (1, .int a1), (4, .int y4)] := hl
            refine lv_aload_n hx hb d_Lt_next_47 rfl (lv_at hl 1 rfl) ?_
            refine lv_dup hx hb d_Lt_next_48 rfl ?_
            refine va_get (D := D) (ci := 1) (C := R_Lt) (T := T_Lt) (N := 3) hx hb hT in_Lt hown hK hP 1 rfl rfl 2 (by decide) (hT _ m_177) (fun _ h9 => h9) rfl d_Lt_next_49 ?_
            refine lv_iconst hx hb d_Lt_next_52 ic_1 ?_
            refine lv_iadd hx hb d_Lt_next_53 ?_
            refine lv_topi (fun x7 e_x7 => ?_)
            have h := lt_h e_x7 h
            refine va_put (D := D) (ci := 1) (C := R_Lt) (T := T_Lt) (N := 3) hx hb hT in_Lt ty_Lt tyok_Lt nm_Lt hown hK hP hD hS 1 rfl rfl 2 (by decide) (hT _ m_177) (fun _ h9 => h9) rfl (ty := .int) (by decide +kernel) rfl rfl (by decide : 2 < 3) d_Lt_next_54 (fun H locs hP hD hS => ?_)
            have hP : va_P D cls (gC cI cL cC ad X len x7 row dig pw used lost lim) H := hP
            have hD : va_D A (gC cI cL cC ad X len x7 row dig pw used lost lim) := hD
            obtain ⟨x8, e_x8⟩ : ∃ z, z = y4 + Int32.ofInt 1 := ⟨_, rfl⟩
            have h := lt_h e_x8 h
            refine lv_iinc (k := 3) hx hb d_Lt_next_57 hl rfl e_x8.symm (by decide) rfl (fun ls hl => ?_)
            have hl : lv_has ls 5 [(4, .int x8), (2, .long x6), (0, .ref (ad 1)), (1, .int a1)] := hl
            refine lv_goto (tgt := 5) hx hb d_Lt_next_60 rfl ?_
            exact ih _ _ _ ls _ _ (lv_sub hl [2, 3, 1, 0] rfl) hP hD hS h
  exact hL5 n _ _ _ ls _ _ (lv_sub hl [2, 3, 1, 0] rfl) hP hD hS h
-- Lt_put_i
theorem d_Lt_put_i_0 : decode b_Lt_put_i 0 = .ok (.aload_n 0, 1) := by decide +kernel
theorem d_Lt_put_i_1 : decode b_Lt_put_i 1 = .ok (.getfield 13, 3) := by decide +kernel
theorem d_Lt_put_i_4 : decode b_Lt_put_i 4 = .ok (.bipush 32, 2) := by decide +kernel
theorem d_Lt_put_i_6 : decode b_Lt_put_i 6 = .ok (.if_icmp .ge 23, 3) := by decide +kernel
theorem d_Lt_put_i_9 : decode b_Lt_put_i 9 = .ok (.aload_n 0, 1) := by decide +kernel
theorem d_Lt_put_i_10 : decode b_Lt_put_i 10 = .ok (.getfield 9, 3) := by decide +kernel
theorem d_Lt_put_i_13 : decode b_Lt_put_i 13 = .ok (.aload_n 0, 1) := by decide +kernel
theorem d_Lt_put_i_14 : decode b_Lt_put_i 14 = .ok (.getfield 13, 3) := by decide +kernel
theorem d_Lt_put_i_17 : decode b_Lt_put_i 17 = .ok (.iload_n 1, 1) := by decide +kernel
theorem d_Lt_put_i_18 : decode b_Lt_put_i 18 = .ok (.castore, 1) := by decide +kernel
theorem d_Lt_put_i_19 : decode b_Lt_put_i 19 = .ok (.aload_n 0, 1) := by decide +kernel
theorem d_Lt_put_i_20 : decode b_Lt_put_i 20 = .ok (.dup, 1) := by decide +kernel
theorem d_Lt_put_i_21 : decode b_Lt_put_i 21 = .ok (.getfield 13, 3) := by decide +kernel
theorem d_Lt_put_i_24 : decode b_Lt_put_i 24 = .ok (.iconst 1, 1) := by decide +kernel
theorem d_Lt_put_i_25 : decode b_Lt_put_i 25 = .ok (.iadd, 1) := by decide +kernel
theorem d_Lt_put_i_26 : decode b_Lt_put_i 26 = .ok (.putfield 13, 3) := by decide +kernel
theorem d_Lt_put_i_29 : decode b_Lt_put_i 29 = .ok (.return_, 1) := by decide +kernel
def F_Lt_put_i (n : Nat) (len : Int32) (row : Nat → Int32) (a1 : Int32) : Option (Int32 × (Nat → Int32)) := lt_ (fun (len_1 : Int32) (row_2 : (Nat → Int32)) => some (len_1, row_2)) fun j29 => if (32 : Int32) ≤ len then (j29 len row) else (gz_ (len < 0 ∨ 32 ≤ (len).toNatClampNeg) <| lt_ (upd row (len).toNatClampNeg (vp_nar .char a1)) fun row_3 => lt_ (len + (1 : Int32)) fun x4 => j29 x4 row_3)
set_option maxHeartbeats 4000000 in
set_option maxRecDepth 100000 in
theorem c_Lt_put_i (l : Launch) (D : va_G) (A : Nat → Prop) (cI cL cC : ClassId) (ad : Nat → Nat) (X : va_W) (len : Int32) (tk : Int32) (row : Nat → Int32) (dig : Int64) (pw : Int32) (used : Int32) (lost : Int32) (lim : Nat → Int64) (n : Nat) (a1 : Int32) (r : Int32 × (Nat → Int32)) (h : F_Lt_put_i n len row a1 = some r) : Met l y_Lt_put_i (.code y_Lt_put_i b_Lt_put_i 2 none :: BIG) ({ frames := 0, cells := 0, slots := 0, locals := 0 } : Room) (va_Pc [.ref (ad 1), .int a1] (gPre D A (tysV cI cL cC) (gC cI cL cC ad X len tk row dig pw used lost lim))) (gQ D A none (gC cI cL cC ad X r.1 tk r.2 dig pw used lost lim)) 0 0 A := by
  refine gOpen_v rfl (Nat.le_of_ble_eq_true rfl) ?_
  intro p e s m args below meth c Q ls hx hb hml hown hts hT hNB hP hK hD hl hret
  have hown : s.vm.findClass R_Lt = some m.cls := hown
  have hS : va_S A s.heap s.heap [] := va_S.rf
  have hl : lv_has ls 2 [(0, .ref (ad 1)), (1, .int a1)] := hl
  have h : (lt_ (fun (len_1 : Int32) (row_2 : (Nat → Int32)) => some (len_1, row_2)) fun j29 => if (32 : Int32) ≤ len then (j29 len row) else (gz_ (len < 0 ∨ 32 ≤ (len).toNatClampNeg) <| lt_ (upd row (len).toNatClampNeg (vp_nar .char a1)) fun row_3 => lt_ (len + (1 : Int32)) fun x4 => j29 x4 row_3)) = some r := h
  refine lv_aload_n hx hb d_Lt_put_i_0 rfl (lv_at hl 0 rfl) ?_
  refine va_get (D := D) (ci := 1) (C := R_Lt) (T := T_Lt) (N := 3) hx hb hT in_Lt hown hK hP 1 rfl rfl 1 (by decide) (hT _ m_176) (fun _ h9 => h9) rfl d_Lt_put_i_1 ?_
  refine lv_bipush hx hb d_Lt_put_i_4 bp_32 ?_
  obtain ⟨j29, e_j29, h⟩ := lt_o h
  have hJ29 : ∀ (len_1 : Int32) (row_2 : (Nat → Int32)) (ls : Array Slot) (H : Heap) (locs : List Loc), lv_has ls 2 [] → va_P D cls (gC cI cL cC ad X len_1 tk row_2 dig pw used lost lim) H → va_D A (gC cI cL cC ad X len_1 tk row_2 dig pw used lost lim) → va_S A s.heap H locs → j29 len_1 row_2 = some r → W p l e ({ frames := 0, cells := 0, slots := 0, locals := 0 } : Room) s m args below meth c H locs 0 0 Q (F0 m 29 ls []) := by
    intro len_1 row_2 ls H locs hl hP hD hS h
    rw [e_j29] at h
    obtain rfl := Option.some.inj h
    exact hret 29 ls _ _ hP hD hS d_Lt_put_i_29
  refine lv_icmp_ge (tgt := 29) hx hb d_Lt_put_i_6 rfl (fun hc => ?_) (fun hc => ?_)
  · have h := ite_t hc h
    exact hJ29 _ _ ls _ _ (lv_sub hl [] rfl) hP hD hS h
  · have h := ite_f hc h
    refine lv_aload_n hx hb d_Lt_put_i_9 rfl (lv_at hl 0 rfl) ?_
    refine va_get (D := D) (ci := 1) (C := R_Lt) (T := T_Lt) (N := 3) hx hb hT in_Lt hown hK hP 1 rfl rfl 0 (by decide) (hT _ m_178) (fun _ h9 => h9) rfl d_Lt_put_i_10 ?_
    refine lv_aload_n hx hb d_Lt_put_i_13 rfl (lv_at hl 0 rfl) ?_
    refine va_get (D := D) (ci := 1) (C := R_Lt) (T := T_Lt) (N := 3) hx hb hT in_Lt hown hK hP 1 rfl rfl 1 (by decide) (hT _ m_176) (fun _ h9 => h9) rfl d_Lt_put_i_14 ?_
    refine lv_iload_n hx hb d_Lt_put_i_17 rfl (lv_at hl 1 rfl) ?_
    have hi := gz_n h
    have h := gz_h h
    refine va_cast hx hb hK hP hD hS 2 2 rfl rfl hi d_Lt_put_i_18 (fun H locs hP hD hS => ?_)
    have hP : va_P D cls (gC cI cL cC ad X len tk (upd row (len).toNatClampNeg (vp_nar .char a1)) dig pw used lost lim) H := hP
    have hD : va_D A (gC cI cL cC ad X len tk (upd row (len).toNatClampNeg (vp_nar .char a1)) dig pw used lost lim) := hD
    obtain ⟨row_3, e_row_3, h⟩ := lt_o h
    rw [← e_row_3] at hP hD
    refine lv_aload_n hx hb d_Lt_put_i_19 rfl (lv_at hl 0 rfl) ?_
    refine lv_dup hx hb d_Lt_put_i_20 rfl ?_
    refine va_get (D := D) (ci := 1) (C := R_Lt) (T := T_Lt) (N := 3) hx hb hT in_Lt hown hK hP 1 rfl rfl 1 (by decide) (hT _ m_176) (fun _ h9 => h9) rfl d_Lt_put_i_21 ?_
    refine lv_iconst hx hb d_Lt_put_i_24 ic_1 ?_
    refine lv_iadd hx hb d_Lt_put_i_25 ?_
    refine lv_topi (fun x4 e_x4 => ?_)
    have h := lt_h e_x4 h
    refine va_put (D := D) (ci := 1) (C := R_Lt) (T := T_Lt) (N := 3) hx hb hT in_Lt ty_Lt tyok_Lt nm_Lt hown hK hP hD hS 1 rfl rfl 1 (by decide) (hT _ m_176) (fun _ h9 => h9) rfl (ty := .int) (by decide +kernel) rfl rfl (by decide : 1 < 3) d_Lt_put_i_26 (fun H locs hP hD hS => ?_)
    have hP : va_P D cls (gC cI cL cC ad X x4 tk row_3 dig pw used lost lim) H := hP
    have hD : va_D A (gC cI cL cC ad X x4 tk row_3 dig pw used lost lim) := hD
    exact hJ29 _ _ ls _ _ (lv_sub hl [] rfl) hP hD hS h
-- Lt_putDigits
theorem d_Lt_putDigits_0 : decode b_Lt_putDigits 0 = .ok (.iload_n 3, 1) := by decide +kernel
theorem d_Lt_putDigits_1 : decode b_Lt_putDigits 1 = .ok (.ifCond .lt 14, 3) := by decide +kernel
theorem d_Lt_putDigits_4 : decode b_Lt_putDigits 4 = .ok (.iload_n 3, 1) := by decide +kernel
theorem d_Lt_putDigits_5 : decode b_Lt_putDigits 5 = .ok (.bipush 32, 2) := by decide +kernel
theorem d_Lt_putDigits_7 : decode b_Lt_putDigits 7 = .ok (.aload_n 0, 1) := by decide +kernel
theorem d_Lt_putDigits_8 : decode b_Lt_putDigits 8 = .ok (.getfield 13, 3) := by decide +kernel
theorem d_Lt_putDigits_11 : decode b_Lt_putDigits 11 = .ok (.isub, 1) := by decide +kernel
theorem d_Lt_putDigits_12 : decode b_Lt_putDigits 12 = .ok (.if_icmp .le 4, 3) := by decide +kernel
theorem d_Lt_putDigits_15 : decode b_Lt_putDigits 15 = .ok (.return_, 1) := by decide +kernel
theorem d_Lt_putDigits_16 : decode b_Lt_putDigits 16 = .ok (.lload_n 1, 1) := by decide +kernel
theorem d_Lt_putDigits_17 : decode b_Lt_putDigits 17 = .ok (.lstore 4, 2) := by decide +kernel
theorem d_Lt_putDigits_19 : decode b_Lt_putDigits 19 = .ok (.aload_n 0, 1) := by decide +kernel
theorem d_Lt_putDigits_20 : decode b_Lt_putDigits 20 = .ok (.getfield 13, 3) := by decide +kernel
theorem d_Lt_putDigits_23 : decode b_Lt_putDigits 23 = .ok (.iload_n 3, 1) := by decide +kernel
theorem d_Lt_putDigits_24 : decode b_Lt_putDigits 24 = .ok (.iadd, 1) := by decide +kernel
theorem d_Lt_putDigits_25 : decode b_Lt_putDigits 25 = .ok (.iconst 1, 1) := by decide +kernel
theorem d_Lt_putDigits_26 : decode b_Lt_putDigits 26 = .ok (.isub, 1) := by decide +kernel
theorem d_Lt_putDigits_27 : decode b_Lt_putDigits 27 = .ok (.istore 6, 2) := by decide +kernel
theorem d_Lt_putDigits_29 : decode b_Lt_putDigits 29 = .ok (.iload 6, 2) := by decide +kernel
theorem d_Lt_putDigits_31 : decode b_Lt_putDigits 31 = .ok (.aload_n 0, 1) := by decide +kernel
theorem d_Lt_putDigits_32 : decode b_Lt_putDigits 32 = .ok (.getfield 13, 3) := by decide +kernel
theorem d_Lt_putDigits_35 : decode b_Lt_putDigits 35 = .ok (.if_icmp .lt 36, 3) := by decide +kernel
theorem d_Lt_putDigits_38 : decode b_Lt_putDigits 38 = .ok (.aload_n 0, 1) := by decide +kernel
theorem d_Lt_putDigits_39 : decode b_Lt_putDigits 39 = .ok (.getfield 9, 3) := by decide +kernel
theorem d_Lt_putDigits_42 : decode b_Lt_putDigits 42 = .ok (.iload 6, 2) := by decide +kernel
theorem d_Lt_putDigits_44 : decode b_Lt_putDigits 44 = .ok (.ldc2_w 60, 3) := by decide +kernel
theorem d_Lt_putDigits_47 : decode b_Lt_putDigits 47 = .ok (.lload 4, 2) := by decide +kernel
theorem d_Lt_putDigits_49 : decode b_Lt_putDigits 49 = .ok (.ldc2_w 62, 3) := by decide +kernel
theorem d_Lt_putDigits_52 : decode b_Lt_putDigits 52 = .ok (.lrem, 1) := by decide +kernel
theorem d_Lt_putDigits_53 : decode b_Lt_putDigits 53 = .ok (.lsub, 1) := by decide +kernel
theorem d_Lt_putDigits_54 : decode b_Lt_putDigits 54 = .ok (.l2i, 1) := by decide +kernel
theorem d_Lt_putDigits_55 : decode b_Lt_putDigits 55 = .ok (.i2c, 1) := by decide +kernel
theorem d_Lt_putDigits_56 : decode b_Lt_putDigits 56 = .ok (.castore, 1) := by decide +kernel
theorem d_Lt_putDigits_57 : decode b_Lt_putDigits 57 = .ok (.lload 4, 2) := by decide +kernel
theorem d_Lt_putDigits_59 : decode b_Lt_putDigits 59 = .ok (.ldc2_w 62, 3) := by decide +kernel
theorem d_Lt_putDigits_62 : decode b_Lt_putDigits 62 = .ok (.ldiv, 1) := by decide +kernel
theorem d_Lt_putDigits_63 : decode b_Lt_putDigits 63 = .ok (.lstore 4, 2) := by decide +kernel
theorem d_Lt_putDigits_65 : decode b_Lt_putDigits 65 = .ok (.iinc 6 (-1), 3) := by decide +kernel
theorem d_Lt_putDigits_68 : decode b_Lt_putDigits 68 = .ok (.goto (-39), 3) := by decide +kernel
theorem d_Lt_putDigits_71 : decode b_Lt_putDigits 71 = .ok (.aload_n 0, 1) := by decide +kernel
theorem d_Lt_putDigits_72 : decode b_Lt_putDigits 72 = .ok (.dup, 1) := by decide +kernel
theorem d_Lt_putDigits_73 : decode b_Lt_putDigits 73 = .ok (.getfield 13, 3) := by decide +kernel
theorem d_Lt_putDigits_76 : decode b_Lt_putDigits 76 = .ok (.iload_n 3, 1) := by decide +kernel
theorem d_Lt_putDigits_77 : decode b_Lt_putDigits 77 = .ok (.iadd, 1) := by decide +kernel
theorem d_Lt_putDigits_78 : decode b_Lt_putDigits 78 = .ok (.putfield 13, 3) := by decide +kernel
theorem d_Lt_putDigits_81 : decode b_Lt_putDigits 81 = .ok (.return_, 1) := by decide +kernel
def F_Lt_putDigits_L29 (a2 : Int32) (j71 : (Int32 → (Nat → Int32) → Option (Int32 × (Nat → Int32)))) : Nat → Int64 → Int32 → Int32 → (Nat → Int32) → Option (Int32 × (Nat → Int32))
  | 0, _, _, _, _ => none
  | n+1, y7, y8, len_9, row_10 => if y8 < len_9 then (j71 len_9 row_10) else (gz_ (y8 < 0 ∨ 32 ≤ (y8).toNatClampNeg) <| lt_ (upd row_10 (y8).toNatClampNeg (vp_nar .char (((((48 : Int64) - (y7 - y7 / (10 : Int64) * (10 : Int64))).toInt32).toUInt32 % 65536).toInt32))) fun row_11 => lt_ (y7 / (10 : Int64)) fun x12 => lt_ (y8 + Int32.ofInt (-1)) fun x13 => F_Lt_putDigits_L29 a2 j71 n x12 x13 len_9 row_11)
def F_Lt_putDigits (n : Nat) (len : Int32) (row : Nat → Int32) (a1 : Int64) (a2 : Int32) : Option (Int32 × (Nat → Int32)) := lt_ (fun (len_1 : Int32) (row_2 : (Nat → Int32)) => some (len_1, row_2)) fun j15 => if a2 < 0 then (j15 len row) else (if a2 ≤ ((32 : Int32) - len) then (lt_ ((len + a2) - (1 : Int32)) fun x3 => lt_ (fun (len_4 : Int32) (row_5 : (Nat → Int32)) => lt_ (len_4 + a2) fun x6 => some (x6, row_5)) fun j71 => F_Lt_putDigits_L29 a2 j71 n a1 x3 len row) else (j15 len row))
set_option maxHeartbeats 4000000 in
set_option maxRecDepth 100000 in
theorem c_Lt_putDigits (l : Launch) (D : va_G) (A : Nat → Prop) (cI cL cC : ClassId) (ad : Nat → Nat) (X : va_W) (len : Int32) (tk : Int32) (row : Nat → Int32) (dig : Int64) (pw : Int32) (used : Int32) (lost : Int32) (lim : Nat → Int64) (n : Nat) (a1 : Int64) (a2 : Int32) (r : Int32 × (Nat → Int32)) (h : F_Lt_putDigits n len row a1 a2 = some r) : Met l y_Lt_putDigits (.code y_Lt_putDigits b_Lt_putDigits 7 none :: BIG) ({ frames := 0, cells := 0, slots := 0, locals := 0 } : Room) (va_Pc [.ref (ad 1), .long a1, .int a2] (gPre D A (tysV cI cL cC) (gC cI cL cC ad X len tk row dig pw used lost lim))) (gQ D A none (gC cI cL cC ad X r.1 tk r.2 dig pw used lost lim)) 0 0 A := by
  refine gOpen_v rfl (Nat.le_of_ble_eq_true rfl) ?_
  intro p e s m args below meth c Q ls hx hb hml hown hts hT hNB hP hK hD hl hret
  have hown : s.vm.findClass R_Lt = some m.cls := hown
  have hS : va_S A s.heap s.heap [] := va_S.rf
  have hl : lv_has ls 7 [(0, .ref (ad 1)), (1, .long a1), (3, .int a2)] := hl
  have h : (lt_ (fun (len_1 : Int32) (row_2 : (Nat → Int32)) => some (len_1, row_2)) fun j15 => if a2 < 0 then (j15 len row) else (if a2 ≤ ((32 : Int32) - len) then (lt_ ((len + a2) - (1 : Int32)) fun x3 => lt_ (fun (len_4 : Int32) (row_5 : (Nat → Int32)) => lt_ (len_4 + a2) fun x6 => some (x6, row_5)) fun j71 => F_Lt_putDigits_L29 a2 j71 n a1 x3 len row) else (j15 len row))) = some r := h
  refine lv_iload_n hx hb d_Lt_putDigits_0 rfl (lv_at hl 2 rfl) ?_
  obtain ⟨j15, e_j15, h⟩ := lt_o h
  have hJ15 : ∀ (len_1 : Int32) (row_2 : (Nat → Int32)) (ls : Array Slot) (H : Heap) (locs : List Loc), lv_has ls 7 [] → va_P D cls (gC cI cL cC ad X len_1 tk row_2 dig pw used lost lim) H → va_D A (gC cI cL cC ad X len_1 tk row_2 dig pw used lost lim) → va_S A s.heap H locs → j15 len_1 row_2 = some r → W p l e ({ frames := 0, cells := 0, slots := 0, locals := 0 } : Room) s m args below meth c H locs 0 0 Q (F0 m 15 ls []) := by
    intro len_1 row_2 ls H locs hl hP hD hS h
    rw [e_j15] at h
    obtain rfl := Option.some.inj h
    exact hret 15 ls _ _ hP hD hS d_Lt_putDigits_15
  refine lv_if_lt (tgt := 15) hx hb d_Lt_putDigits_1 rfl (fun hc => ?_) (fun hc => ?_)
  · have h := ite_t hc h
    exact hJ15 _ _ ls _ _ (lv_sub hl [] rfl) hP hD hS h
  · have h := ite_f hc h
    refine lv_iload_n hx hb d_Lt_putDigits_4 rfl (lv_at hl 2 rfl) ?_
    refine lv_bipush hx hb d_Lt_putDigits_5 bp_32 ?_
    refine lv_aload_n hx hb d_Lt_putDigits_7 rfl (lv_at hl 0 rfl) ?_
    refine va_get (D := D) (ci := 1) (C := R_Lt) (T := T_Lt) (N := 3) hx hb hT in_Lt hown hK hP 1 rfl rfl 1 (by decide) (hT _ m_176) (fun _ h9 => h9) rfl d_Lt_putDigits_8 ?_
    refine lv_isub hx hb d_Lt_putDigits_11 ?_
    refine lv_icmp_le (tgt := 16) hx hb d_Lt_putDigits_12 rfl (fun hc => ?_) (fun hc => ?_)
    · have h := ite_t hc h
      refine lv_lload_n hx hb d_Lt_putDigits_16 rfl (lv_at hl 1 rfl) ?_
      refine lv_lstore hx hb d_Lt_putDigits_17 hl (by decide) rfl (fun ls hl => ?_)
      have hl : lv_has ls 7 [(4, .long a1), (0, .ref (ad 1)), (1, .long a1), (3, .int a2)] := hl
      refine lv_aload_n hx hb d_Lt_putDigits_19 rfl (lv_at hl 1 rfl) ?_
      refine va_get (D := D) (ci := 1) (C := R_Lt) (T := T_Lt) (N := 3) hx hb hT in_Lt hown hK hP 1 rfl rfl 1 (by decide) (hT _ m_176) (fun _ h9 => h9) rfl d_Lt_putDigits_20 ?_
      refine lv_iload_n hx hb d_Lt_putDigits_23 rfl (lv_at hl 3 rfl) ?_
      refine lv_iadd hx hb d_Lt_putDigits_24 ?_
      refine lv_iconst hx hb d_Lt_putDigits_25 ic_1 ?_
      refine lv_isub hx hb d_Lt_putDigits_26 ?_
      refine lv_topi (fun x3 e_x3 => ?_)
      have h := lt_h e_x3 h
      refine lv_istore hx hb d_Lt_putDigits_27 hl (by decide) rfl (fun ls hl => ?_)
      have hl : lv_has ls 7 [(6, .int x3), (4, .long a1), (0, .ref (ad 1)), (1, .long a1), (3, .int a2)] := hl
      obtain ⟨j71, e_j71, h⟩ := lt_o h
      have hJ71 : ∀ (len_4 : Int32) (row_5 : (Nat → Int32)) (ls : Array Slot) (H : Heap) (locs : List Loc), lv_has ls 7 [(0, .ref (ad 1)), (3, .int a2)] → va_P D cls (gC cI cL cC ad X len_4 tk row_5 dig pw used lost lim) H → va_D A (gC cI cL cC ad X len_4 tk row_5 dig pw used lost lim) → va_S A s.heap H locs → j71 len_4 row_5 = some r → W p l e ({ frames := 0, cells := 0, slots := 0, locals := 0 } : Room) s m args below meth c H locs 0 0 Q (F0 m 71 ls []) := by
        intro len_4 row_5 ls H locs hl hP hD hS h
        rw [e_j71] at h
        refine lv_aload_n hx hb d_Lt_putDigits_71 rfl (lv_at hl 0 rfl) ?_
        refine lv_dup hx hb d_Lt_putDigits_72 rfl ?_
        refine va_get (D := D) (ci := 1) (C := R_Lt) (T := T_Lt) (N := 3) hx hb hT in_Lt hown hK hP 1 rfl rfl 1 (by decide) (hT _ m_176) (fun _ h9 => h9) rfl d_Lt_putDigits_73 ?_
        refine lv_iload_n hx hb d_Lt_putDigits_76 rfl (lv_at hl 1 rfl) ?_
        refine lv_iadd hx hb d_Lt_putDigits_77 ?_
        refine lv_topi (fun x6 e_x6 => ?_)
        have h := lt_h e_x6 h
        refine va_put (D := D) (ci := 1) (C := R_Lt) (T := T_Lt) (N := 3) hx hb hT in_Lt ty_Lt tyok_Lt nm_Lt hown hK hP hD hS 1 rfl rfl 1 (by decide) (hT _ m_176) (fun _ h9 => h9) rfl (ty := .int) (by decide +kernel) rfl rfl (by decide : 1 < 3) d_Lt_putDigits_78 (fun H locs hP hD hS => ?_)
        have hP : va_P D cls (gC cI cL cC ad X x6 tk row_5 dig pw used lost lim) H := hP
        have hD : va_D A (gC cI cL cC ad X x6 tk row_5 dig pw used lost lim) := hD
        obtain rfl := Option.some.inj h
        exact hret 81 ls _ _ hP hD hS d_Lt_putDigits_81
      have hL29 : ∀ (n : Nat) (y7 : Int64) (y8 : Int32) (len_9 : Int32) (row_10 : (Nat → Int32)) (ls : Array Slot) (H : Heap) (locs : List Loc), lv_has ls 7 [(0, .ref (ad 1)), (3, .int a2), (4, .long y7), (6, .int y8)] → va_P D cls (gC cI cL cC ad X len_9 tk row_10 dig pw used lost lim) H → va_D A (gC cI cL cC ad X len_9 tk row_10 dig pw used lost lim) → va_S A s.heap H locs → F_Lt_putDigits_L29 a2 j71 n y7 y8 len_9 row_10 = some r → W p l e ({ frames := 0, cells := 0, slots := 0, locals := 0 } : Room) s m args below meth c H locs 0 0 Q (F0 m 29 ls []) := by
        intro n
        induction n with
        | zero => intro y7 y8 len_9 row_10 ls H locs hl hP hD hS h; exact no_s h
        | succ n ih =>
          intro y7 y8 len_9 row_10 ls H locs hl hP hD hS h
          have h : (if y8 < len_9 then (j71 len_9 row_10) else (gz_ (y8 < 0 ∨ 32 ≤ (y8).toNatClampNeg) <| lt_ (upd row_10 (y8).toNatClampNeg (vp_nar .char (((((48 : Int64) - (y7 - y7 / (10 : Int64) * (10 : Int64))).toInt32).toUInt32 % 65536).toInt32))) fun row_11 => lt_ (y7 / (10 : Int64)) fun x12 => lt_ (y8 + Int32.ofInt (-1)) fun x13 => F_Lt_putDigits_L29 a2 j71 n x12 x13 len_9 row_11)) = some r := h
          refine lv_iload hx hb d_Lt_putDigits_29 (lv_at hl 3 rfl) ?_
          refine lv_aload_n hx hb d_Lt_putDigits_31 rfl (lv_at hl 0 rfl) ?_
          refine va_get (D := D) (ci := 1) (C := R_Lt) (T := T_Lt) (N := 3) hx hb hT in_Lt hown hK hP 1 rfl rfl 1 (by decide) (hT _ m_176) (fun _ h9 => h9) rfl d_Lt_putDigits_32 ?_
          refine lv_icmp_lt (tgt := 71) hx hb d_Lt_putDigits_35 rfl (fun hc => ?_) (fun hc => ?_)
          · have h := ite_t hc h
            exact hJ71 _ _ ls _ _ (lv_sub hl [0, 1] rfl) hP hD hS h
          · have h := ite_f hc h
            refine lv_aload_n hx hb d_Lt_putDigits_38 rfl (lv_at hl 0 rfl) ?_
            refine va_get (D := D) (ci := 1) (C := R_Lt) (T := T_Lt) (N := 3) hx hb hT in_Lt hown hK hP 1 rfl rfl 0 (by decide) (hT _ m_178) (fun _ h9 => h9) rfl d_Lt_putDigits_39 ?_
            refine lv_iload hx hb d_Lt_putDigits_42 (lv_at hl 3 rfl) ?_
            refine lv_ldc2 hx hb hown (hT _ m_179) d_Lt_putDigits_44 ?_
            refine lv_lload hx hb d_Lt_putDigits_47 (lv_at hl 2 rfl) ?_
            refine lv_ldc2 hx hb hown (hT _ m_120) d_Lt_putDigits_49 ?_
            refine lv_lrem hx hb d_Lt_putDigits_52 (by decide) ?_
            refine lv_lsub hx hb d_Lt_putDigits_53 ?_
            refine lv_l2i hx hb d_Lt_putDigits_54 rfl ?_
            refine lv_i2c hx hb d_Lt_putDigits_55 rfl ?_
            have hi := gz_n h
            have h := gz_h h
            refine va_cast hx hb hK hP hD hS 2 2 rfl rfl hi d_Lt_putDigits_56 (fun H locs hP hD hS => ?_)
            have hP : va_P D cls (gC cI cL cC ad X len_9 tk (upd row_10 (y8).toNatClampNeg (vp_nar .char (((((48 : Int64) - (y7 - y7 / (10 : Int64) * (10 : Int64))).toInt32).toUInt32 % 65536).toInt32))) dig pw used lost lim) H := hP
            have hD : va_D A (gC cI cL cC ad X len_9 tk (upd row_10 (y8).toNatClampNeg (vp_nar .char (((((48 : Int64) - (y7 - y7 / (10 : Int64) * (10 : Int64))).toInt32).toUInt32 % 65536).toInt32))) dig pw used lost lim) := hD
            obtain ⟨row_11, e_row_11, h⟩ := lt_o h
            rw [← e_row_11] at hP hD
            refine lv_lload hx hb d_Lt_putDigits_57 (lv_at hl 2 rfl) ?_
            refine lv_ldc2 hx hb hown (hT _ m_120) d_Lt_putDigits_59 ?_
            refine lv_ldiv hx hb d_Lt_putDigits_62 (by decide) ?_
            refine lv_topl (fun x12 e_x12 => ?_)
            have h := lt_h e_x12 h
            refine lv_lstore hx hb d_Lt_putDigits_63 hl (by decide) rfl (fun ls hl => ?_)
            have hl : lv_has ls 7 [(4, .long x12), (0, .ref (ad 1)), (3, .int a2), (6, .int y8)] := hl
            obtain ⟨x13, e_x13⟩ : ∃ z, z = y8 + Int32.ofInt (-1) := ⟨_, rfl⟩
            have h := lt_h e_x13 h
            refine lv_iinc (k := 3) hx hb d_Lt_putDigits_65 hl rfl e_x13.symm (by decide) rfl (fun ls hl => ?_)
            have hl : lv_has ls 7 [(6, .int x13), (4, .long x12), (0, .ref (ad 1)), (3, .int a2)] := hl
            refine lv_goto (tgt := 29) hx hb d_Lt_putDigits_68 rfl ?_
            exact ih _ _ _ _ ls _ _ (lv_sub hl [2, 3, 1, 0] rfl) hP hD hS h
      exact hL29 n _ _ _ _ ls _ _ (lv_sub hl [2, 4, 1, 0] rfl) hP hD hS h
    · have h := ite_f hc h
      exact hJ15 _ _ ls _ _ (lv_sub hl [] rfl) hP hD hS h
-- Lt_putWhole
theorem d_Lt_putWhole_0 : decode b_Lt_putWhole 0 = .ok (.lload_n 1, 1) := by decide +kernel
theorem d_Lt_putWhole_1 : decode b_Lt_putWhole 1 = .ok (.lconst 0, 1) := by decide +kernel
theorem d_Lt_putWhole_2 : decode b_Lt_putWhole 2 = .ok (.lcmp, 1) := by decide +kernel
theorem d_Lt_putWhole_3 : decode b_Lt_putWhole 3 = .ok (.ifCond .ge 9, 3) := by decide +kernel
theorem d_Lt_putWhole_6 : decode b_Lt_putWhole 6 = .ok (.aload_n 0, 1) := by decide +kernel
theorem d_Lt_putWhole_7 : decode b_Lt_putWhole 7 = .ok (.bipush 45, 2) := by decide +kernel
theorem d_Lt_putWhole_9 : decode b_Lt_putWhole 9 = .ok (.invokevirtual 29, 3) := by decide +kernel
theorem d_Lt_putWhole_12 : decode b_Lt_putWhole 12 = .ok (.aload_n 0, 1) := by decide +kernel
theorem d_Lt_putWhole_13 : decode b_Lt_putWhole 13 = .ok (.lload_n 1, 1) := by decide +kernel
theorem d_Lt_putWhole_14 : decode b_Lt_putWhole 14 = .ok (.lconst 0, 1) := by decide +kernel
theorem d_Lt_putWhole_15 : decode b_Lt_putWhole 15 = .ok (.lcmp, 1) := by decide +kernel
theorem d_Lt_putWhole_16 : decode b_Lt_putWhole 16 = .ok (.ifCond .ge 7, 3) := by decide +kernel
theorem d_Lt_putWhole_19 : decode b_Lt_putWhole 19 = .ok (.lload_n 1, 1) := by decide +kernel
theorem d_Lt_putWhole_20 : decode b_Lt_putWhole 20 = .ok (.goto 5, 3) := by decide +kernel
theorem d_Lt_putWhole_23 : decode b_Lt_putWhole 23 = .ok (.lload_n 1, 1) := by decide +kernel
theorem d_Lt_putWhole_24 : decode b_Lt_putWhole 24 = .ok (.lneg, 1) := by decide +kernel
theorem d_Lt_putWhole_25 : decode b_Lt_putWhole 25 = .ok (.lload_n 1, 1) := by decide +kernel
theorem d_Lt_putWhole_26 : decode b_Lt_putWhole 26 = .ok (.invokestatic 33, 3) := by decide +kernel
theorem d_Lt_putWhole_29 : decode b_Lt_putWhole 29 = .ok (.invokevirtual 37, 3) := by decide +kernel
theorem d_Lt_putWhole_32 : decode b_Lt_putWhole 32 = .ok (.return_, 1) := by decide +kernel
def F_Lt_putWhole (n : Nat) (len : Int32) (row : Nat → Int32) (a1 : Int64) : Option (Int32 × (Nat → Int32)) := lt_ (fun (len_1 : Int32) (row_2 : (Nat → Int32)) => lt_ (if (0 : Int64) ≤ a1 then -a1 else a1) fun x3 => (F_Lt_digitCount n a1).bind fun x4 => (F_Lt_putDigits n len_1 row_2 x3 x4).bind fun x5 => some (x5.1, x5.2)) fun j12 => if (0 : Int64) ≤ a1 then (j12 len row) else ((F_Lt_put_i n len row (45 : Int32)).bind fun x6 => j12 x6.1 x6.2)
set_option maxHeartbeats 4000000 in
set_option maxRecDepth 100000 in
theorem c_Lt_putWhole (l : Launch) (D : va_G) (A : Nat → Prop) (cI cL cC : ClassId) (ad : Nat → Nat) (X : va_W) (len : Int32) (tk : Int32) (row : Nat → Int32) (dig : Int64) (pw : Int32) (used : Int32) (lost : Int32) (lim : Nat → Int64) (n : Nat) (a1 : Int64) (r : Int32 × (Nat → Int32)) (h : F_Lt_putWhole n len row a1 = some r) : Met l y_Lt_putWhole (.code y_Lt_putWhole b_Lt_putWhole 3 none :: BIG) ({ frames := 1, cells := 0, slots := 0, locals := 26 } : Room) (va_Pc [.ref (ad 1), .long a1] (gPre D A (tysV cI cL cC) (gC cI cL cC ad X len tk row dig pw used lost lim))) (gQ D A none (gC cI cL cC ad X r.1 tk r.2 dig pw used lost lim)) 0 0 A := by
  refine gOpen_v rfl (Nat.le_of_ble_eq_true rfl) ?_
  intro p e s m args below meth c Q ls hx hb hml hown hts hT hNB hP hK hD hl hret
  have hown : s.vm.findClass R_Lt = some m.cls := hown
  have hS : va_S A s.heap s.heap [] := va_S.rf
  have hl : lv_has ls 3 [(0, .ref (ad 1)), (1, .long a1)] := hl
  have h : (lt_ (fun (len_1 : Int32) (row_2 : (Nat → Int32)) => lt_ (if (0 : Int64) ≤ a1 then -a1 else a1) fun x3 => (F_Lt_digitCount n a1).bind fun x4 => (F_Lt_putDigits n len_1 row_2 x3 x4).bind fun x5 => some (x5.1, x5.2)) fun j12 => if (0 : Int64) ≤ a1 then (j12 len row) else ((F_Lt_put_i n len row (45 : Int32)).bind fun x6 => j12 x6.1 x6.2)) = some r := h
  refine lv_lload_n hx hb d_Lt_putWhole_0 rfl (lv_at hl 1 rfl) ?_
  refine lv_lconst hx hb d_Lt_putWhole_1 lc_0 ?_
  refine W.lcmp hx hb d_Lt_putWhole_2 ?_
  obtain ⟨j12, e_j12, h⟩ := lt_o h
  have hJ12 : ∀ (len_1 : Int32) (row_2 : (Nat → Int32)) (ls : Array Slot) (H : Heap) (locs : List Loc), lv_has ls 3 [(0, .ref (ad 1)), (1, .long a1)] → va_P D cls (gC cI cL cC ad X len_1 tk row_2 dig pw used lost lim) H → va_D A (gC cI cL cC ad X len_1 tk row_2 dig pw used lost lim) → va_S A s.heap H locs → j12 len_1 row_2 = some r → W p l e ({ frames := 1, cells := 0, slots := 0, locals := 26 } : Room) s m args below meth c H locs 0 0 Q (F0 m 12 ls []) := by
    intro len_1 row_2 ls H locs hl hP hD hS h
    rw [e_j12] at h
    refine lv_aload_n hx hb d_Lt_putWhole_12 rfl (lv_at hl 0 rfl) ?_
    refine lv_lload_n hx hb d_Lt_putWhole_13 rfl (lv_at hl 1 rfl) ?_
    refine lv_lconst hx hb d_Lt_putWhole_14 lc_0 ?_
    refine W.lcmp hx hb d_Lt_putWhole_15 ?_
    obtain ⟨x3, e_x3, h⟩ := lt_o h
    have hJ25 : ∀ (x3' : Int64) (ls : Array Slot), x3 = x3' → lv_has ls 3 [(1, .long a1)] → W p l e ({ frames := 1, cells := 0, slots := 0, locals := 26 } : Room) s m args below meth c H locs 0 0 Q (F0 m 25 ls [.long x3', .ref (ad 1)]) := by
      intro x3' ls q_x3 hl
      subst q_x3
      refine lv_lload_n hx hb d_Lt_putWhole_25 rfl (lv_at hl 0 rfl) ?_
      obtain ⟨x4, e_x4, h⟩ := bd_o h
      refine q_S (As := [.long a1]) (rest := [.long x3, .ref (ad 1)]) (n := 1) hx hb hml hown hts (c_Lt_digitCount l n a1 _ e_x4) rfl rfl m_180 m_181 m_182 m_183 (by decide +kernel) ⟨Nat.le_of_ble_eq_true rfl, Nat.le_of_ble_eq_true rfl⟩ (p0_bl) (fun U hU hW => p0_mv hU hW hNB) rfl hl.1 rfl (Nat.le_of_ble_eq_true rfl) d_Lt_putWhole_26 ⟨Nat.zero_le _, Nat.zero_le _⟩ ?_
      obtain ⟨x5, e_x5, h⟩ := bd_o h
      refine q_GV (D := D) (A := A) (C := R_Lt) (b := ad 1) (As := [.long x3, .int x4]) (rest := []) (n := 2) hx hb hml hown hts (c_Lt_putDigits l D A cI cL cC ad X len_1 tk row_2 dig pw used lost lim n x3 x4 x5 e_x5) rfl rfl m_184 m_185 m_186 m_187 m_183 (by decide +kernel) ⟨Nat.le_of_ble_eq_true rfl, Nat.le_of_ble_eq_true rfl⟩ (va_recv hK hP (ci := 1) rfl (q0 := 1) rfl) hNB hK hP hD hS rfl hl.1 rfl (Nat.le_of_ble_eq_true rfl) d_Lt_putWhole_29 ⟨Nat.zero_le _, Nat.zero_le _⟩ (fun H locs hP hD hS => ?_)
      have hP : va_P D cls (gC cI cL cC ad X x5.1 tk x5.2 dig pw used lost lim) H := hP
      have hD : va_D A (gC cI cL cC ad X x5.1 tk x5.2 dig pw used lost lim) := hD
      obtain rfl := Option.some.inj h
      exact hret 32 ls _ _ hP hD hS d_Lt_putWhole_32
    refine lv_if_ge (tgt := 23) hx hb d_Lt_putWhole_16 rfl (fun hc => ?_) (fun hc => ?_)
    · have hc := (lg_cmp_ge _ _).mp hc
      have e_x3 := e_x3.trans (if_pos hc)
      refine lv_lload_n hx hb d_Lt_putWhole_23 rfl (lv_at hl 1 rfl) ?_
      refine lv_lneg hx hb d_Lt_putWhole_24 ?_
      exact hJ25 _ ls e_x3 (lv_sub hl [1] rfl)
    · have hc := mt (lg_cmp_ge _ _).mpr hc
      have e_x3 := e_x3.trans (if_neg hc)
      refine lv_lload_n hx hb d_Lt_putWhole_19 rfl (lv_at hl 1 rfl) ?_
      refine lv_goto (tgt := 25) hx hb d_Lt_putWhole_20 rfl ?_
      exact hJ25 _ ls e_x3 (lv_sub hl [1] rfl)
  refine lv_if_ge (tgt := 12) hx hb d_Lt_putWhole_3 rfl (fun hc => ?_) (fun hc => ?_)
  · have hc := (lg_cmp_ge _ _).mp hc
    have h := ite_t hc h
    exact hJ12 _ _ ls _ _ (lv_sub hl [0, 1] rfl) hP hD hS h
  · have hc := mt (lg_cmp_ge _ _).mpr hc
    have h := ite_f hc h
    refine lv_aload_n hx hb d_Lt_putWhole_6 rfl (lv_at hl 0 rfl) ?_
    refine lv_bipush hx hb d_Lt_putWhole_7 bp_45 ?_
    obtain ⟨x6, e_x6, h⟩ := bd_o h
    refine q_GV (D := D) (A := A) (C := R_Lt) (b := ad 1) (As := [.int (45 : Int32)]) (rest := []) (n := 1) hx hb hml hown hts (c_Lt_put_i l D A cI cL cC ad X len tk row dig pw used lost lim n (45 : Int32) x6 e_x6) rfl rfl m_188 m_189 m_190 m_191 m_183 (by decide +kernel) ⟨Nat.le_of_ble_eq_true rfl, Nat.le_of_ble_eq_true rfl⟩ (va_recv hK hP (ci := 1) rfl (q0 := 1) rfl) hNB hK hP hD hS rfl hl.1 rfl (Nat.le_of_ble_eq_true rfl) d_Lt_putWhole_9 ⟨Nat.zero_le _, Nat.zero_le _⟩ (fun H locs hP hD hS => ?_)
    have hP : va_P D cls (gC cI cL cC ad X x6.1 tk x6.2 dig pw used lost lim) H := hP
    have hD : va_D A (gC cI cL cC ad X x6.1 tk x6.2 dig pw used lost lim) := hD
    exact hJ12 _ _ ls _ _ (lv_sub hl [0, 1] rfl) hP hD hS h
-- BW_place
theorem d_BW_place_0 : decode b_BW_place 0 = .ok (.aload_n 0, 1) := by decide +kernel
theorem d_BW_place_1 : decode b_BW_place 1 = .ok (.iload_n 3, 1) := by decide +kernel
theorem d_BW_place_2 : decode b_BW_place 2 = .ok (.bipush 63, 2) := by decide +kernel
theorem d_BW_place_4 : decode b_BW_place 4 = .ok (.iadd, 1) := by decide +kernel
theorem d_BW_place_5 : decode b_BW_place 5 = .ok (.bipush 32, 2) := by decide +kernel
theorem d_BW_place_7 : decode b_BW_place 7 = .ok (.idiv, 1) := by decide +kernel
theorem d_BW_place_8 : decode b_BW_place 8 = .ok (.iconst 1, 1) := by decide +kernel
theorem d_BW_place_9 : decode b_BW_place 9 = .ok (.iadd, 1) := by decide +kernel
theorem d_BW_place_10 : decode b_BW_place 10 = .ok (.bipush 36, 2) := by decide +kernel
theorem d_BW_place_12 : decode b_BW_place 12 = .ok (.invokestatic 29, 3) := by decide +kernel
theorem d_BW_place_15 : decode b_BW_place 15 = .ok (.putfield 48, 3) := by decide +kernel
theorem d_BW_place_18 : decode b_BW_place 18 = .ok (.iconst 0, 1) := by decide +kernel
theorem d_BW_place_19 : decode b_BW_place 19 = .ok (.istore 4, 2) := by decide +kernel
theorem d_BW_place_21 : decode b_BW_place 21 = .ok (.iload 4, 2) := by decide +kernel
theorem d_BW_place_23 : decode b_BW_place 23 = .ok (.aload_n 0, 1) := by decide +kernel
theorem d_BW_place_24 : decode b_BW_place 24 = .ok (.getfield 48, 3) := by decide +kernel
theorem d_BW_place_27 : decode b_BW_place 27 = .ok (.if_icmp .ge 27, 3) := by decide +kernel
theorem d_BW_place_30 : decode b_BW_place 30 = .ok (.aload_n 0, 1) := by decide +kernel
theorem d_BW_place_31 : decode b_BW_place 31 = .ok (.getfield 11, 3) := by decide +kernel
theorem d_BW_place_34 : decode b_BW_place 34 = .ok (.iload 4, 2) := by decide +kernel
theorem d_BW_place_36 : decode b_BW_place 36 = .ok (.lload_n 1, 1) := by decide +kernel
theorem d_BW_place_37 : decode b_BW_place 37 = .ok (.iload 4, 2) := by decide +kernel
theorem d_BW_place_39 : decode b_BW_place 39 = .ok (.bipush 32, 2) := by decide +kernel
theorem d_BW_place_41 : decode b_BW_place 41 = .ok (.imul, 1) := by decide +kernel
theorem d_BW_place_42 : decode b_BW_place 42 = .ok (.iload_n 3, 1) := by decide +kernel
theorem d_BW_place_43 : decode b_BW_place 43 = .ok (.isub, 1) := by decide +kernel
theorem d_BW_place_44 : decode b_BW_place 44 = .ok (.invokestatic 52, 3) := by decide +kernel
theorem d_BW_place_47 : decode b_BW_place 47 = .ok (.lastore, 1) := by decide +kernel
theorem d_BW_place_48 : decode b_BW_place 48 = .ok (.iinc 4 1, 3) := by decide +kernel
theorem d_BW_place_51 : decode b_BW_place 51 = .ok (.goto (-30), 3) := by decide +kernel
theorem d_BW_place_54 : decode b_BW_place 54 = .ok (.return_, 1) := by decide +kernel
def F_BW_place_L21 (a1 : Int64) (a2 : Int32) (j54 : (Int32 → (Nat → Int64) → Option (Int32 × (Nat → Int64)))) : Nat → Int32 → Int32 → (Nat → Int64) → Option (Int32 × (Nat → Int64))
  | 0, _, _, _ => none
  | n+1, y4, used_5, lim_6 => if used_5 ≤ y4 then (j54 used_5 lim_6) else (gz_ (y4 < 0 ∨ 36 ≤ (y4).toNatClampNeg) <| lt_ (vp_updL lim_6 (y4).toNatClampNeg (F_BW_slice a1 ((y4 * (32 : Int32)) - a2))) fun lim_7 => lt_ (y4 + Int32.ofInt 1) fun x8 => F_BW_place_L21 a1 a2 j54 n x8 used_5 lim_7)
def F_BW_place (n : Nat) (used : Int32) (lim : Nat → Int64) (a1 : Int64) (a2 : Int32) : Option (Int32 × (Nat → Int64)) := lt_ (if (36 : Int32) < (((a2 + (63 : Int32)) / (32 : Int32)) + (1 : Int32)) then (36 : Int32) else ((a2 + (63 : Int32)) / (32 : Int32)) + (1 : Int32)) fun x1 => lt_ (fun (used_2 : Int32) (lim_3 : (Nat → Int64)) => some (used_2, lim_3)) fun j54 => F_BW_place_L21 a1 a2 j54 n (0 : Int32) x1 lim
set_option maxHeartbeats 4000000 in
set_option maxRecDepth 100000 in
theorem c_BW_place (l : Launch) (D : va_G) (A : Nat → Prop) (cI cL cC : ClassId) (ad : Nat → Nat) (X : va_W) (len : Int32) (tk : Int32) (row : Nat → Int32) (dig : Int64) (pw : Int32) (used : Int32) (lost : Int32) (lim : Nat → Int64) (n : Nat) (a1 : Int64) (a2 : Int32) (r : Int32 × (Nat → Int64)) (h : F_BW_place n used lim a1 a2 = some r) : Met l y_BW_place (.code y_BW_place b_BW_place 5 none :: BIG) ({ frames := 1, cells := 0, slots := 0, locals := 23 } : Room) (va_Pc [.ref (ad 4), .long a1, .int a2] (gPre D A (tysV cI cL cC) (gC cI cL cC ad X len tk row dig pw used lost lim))) (gQ D A none (gC cI cL cC ad X len tk row dig pw r.1 lost r.2)) 0 0 A := by
  refine gOpen_v rfl (Nat.le_of_ble_eq_true rfl) ?_
  intro p e s m args below meth c Q ls hx hb hml hown hts hT hNB hP hK hD hl hret
  have hown : s.vm.findClass R_BW = some m.cls := hown
  have hS : va_S A s.heap s.heap [] := va_S.rf
  have hl : lv_has ls 5 [(0, .ref (ad 4)), (1, .long a1), (3, .int a2)] := hl
  have h : (lt_ (if (36 : Int32) < (((a2 + (63 : Int32)) / (32 : Int32)) + (1 : Int32)) then (36 : Int32) else ((a2 + (63 : Int32)) / (32 : Int32)) + (1 : Int32)) fun x1 => lt_ (fun (used_2 : Int32) (lim_3 : (Nat → Int64)) => some (used_2, lim_3)) fun j54 => F_BW_place_L21 a1 a2 j54 n (0 : Int32) x1 lim) = some r := h
  refine lv_aload_n hx hb d_BW_place_0 rfl (lv_at hl 0 rfl) ?_
  refine lv_iload_n hx hb d_BW_place_1 rfl (lv_at hl 2 rfl) ?_
  refine lv_bipush hx hb d_BW_place_2 bp_63 ?_
  refine lv_iadd hx hb d_BW_place_4 ?_
  refine lv_bipush hx hb d_BW_place_5 bp_32 ?_
  refine lv_idiv hx hb d_BW_place_7 (by decide) ?_
  refine lv_iconst hx hb d_BW_place_8 ic_1 ?_
  refine lv_iadd hx hb d_BW_place_9 ?_
  refine lv_bipush hx hb d_BW_place_10 bp_36 ?_
  refine va_mmin hx hb (hml.trans hl.1.symm) hown (hT _ m_199) (hT _ m_101) (hT _ m_28) (hT _ m_102) (Nat.le_of_ble_eq_true rfl) (Nat.le_of_ble_eq_true rfl) (Nat.zero_le _) (Nat.zero_le _) d_BW_place_12 ?_
  refine lv_topi (fun x1 e_x1 => ?_)
  have h := lt_h e_x1 h
  refine va_put (D := D) (ci := 3) (C := R_BW) (T := T_BW) (N := 3) hx hb hT in_BW ty_BW tyok_BW nm_BW hown hK hP hD hS 4 rfl rfl 1 (by decide) (hT _ m_200) (fun _ h9 => h9) rfl (ty := .int) (by decide +kernel) rfl rfl (by decide : 1 < 3) d_BW_place_15 (fun H locs hP hD hS => ?_)
  have hP : va_P D cls (gC cI cL cC ad X len tk row dig pw x1 lost lim) H := hP
  have hD : va_D A (gC cI cL cC ad X len tk row dig pw x1 lost lim) := hD
  refine lv_iconst hx hb d_BW_place_18 ic_0 ?_
  refine lv_istore hx hb d_BW_place_19 hl (by decide) rfl (fun ls hl => ?_)
  have hl : lv_has ls 5 [(4, .int (0 : Int32)), (0, .ref (ad 4)), (1, .long a1), (3, .int a2)] := hl
  obtain ⟨j54, e_j54, h⟩ := lt_o h
  have hJ54 : ∀ (used_2 : Int32) (lim_3 : (Nat → Int64)) (ls : Array Slot) (H : Heap) (locs : List Loc), lv_has ls 5 [] → va_P D cls (gC cI cL cC ad X len tk row dig pw used_2 lost lim_3) H → va_D A (gC cI cL cC ad X len tk row dig pw used_2 lost lim_3) → va_S A s.heap H locs → j54 used_2 lim_3 = some r → W p l e ({ frames := 1, cells := 0, slots := 0, locals := 23 } : Room) s m args below meth c H locs 0 0 Q (F0 m 54 ls []) := by
    intro used_2 lim_3 ls H locs hl hP hD hS h
    rw [e_j54] at h
    obtain rfl := Option.some.inj h
    exact hret 54 ls _ _ hP hD hS d_BW_place_54
  have hL21 : ∀ (n : Nat) (y4 : Int32) (used_5 : Int32) (lim_6 : (Nat → Int64)) (ls : Array Slot) (H : Heap) (locs : List Loc), lv_has ls 5 [(0, .ref (ad 4)), (1, .long a1), (3, .int a2), (4, .int y4)] → va_P D cls (gC cI cL cC ad X len tk row dig pw used_5 lost lim_6) H → va_D A (gC cI cL cC ad X len tk row dig pw used_5 lost lim_6) → va_S A s.heap H locs → F_BW_place_L21 a1 a2 j54 n y4 used_5 lim_6 = some r → W p l e ({ frames := 1, cells := 0, slots := 0, locals := 23 } : Room) s m args below meth c H locs 0 0 Q (F0 m 21 ls []) := by
    intro n
    induction n with
    | zero => intro y4 used_5 lim_6 ls H locs hl hP hD hS h; exact no_s h
    | succ n ih =>
      intro y4 used_5 lim_6 ls H locs hl hP hD hS h
      have h : (if used_5 ≤ y4 then (j54 used_5 lim_6) else (gz_ (y4 < 0 ∨ 36 ≤ (y4).toNatClampNeg) <| lt_ (vp_updL lim_6 (y4).toNatClampNeg (F_BW_slice a1 ((y4 * (32 : Int32)) - a2))) fun lim_7 => lt_ (y4 + Int32.ofInt 1) fun x8 => F_BW_place_L21 a1 a2 j54 n x8 used_5 lim_7)) = some r := h
      refine lv_iload hx hb d_BW_place_21 (lv_at hl 3 rfl) ?_
      refine lv_aload_n hx hb d_BW_place_23 rfl (lv_at hl 0 rfl) ?_
      refine va_get (D := D) (ci := 3) (C := R_BW) (T := T_BW) (N := 3) hx hb hT in_BW hown hK hP 4 rfl rfl 1 (by decide) (hT _ m_200) (fun _ h9 => h9) rfl d_BW_place_24 ?_
      refine lv_icmp_ge (tgt := 54) hx hb d_BW_place_27 rfl (fun hc => ?_) (fun hc => ?_)
      · have h := ite_t hc h
        exact hJ54 _ _ ls _ _ (lv_sub hl [] rfl) hP hD hS h
      · have h := ite_f hc h
        refine lv_aload_n hx hb d_BW_place_30 rfl (lv_at hl 0 rfl) ?_
        refine va_get (D := D) (ci := 3) (C := R_BW) (T := T_BW) (N := 3) hx hb hT in_BW hown hK hP 4 rfl rfl 0 (by decide) (hT _ m_201) (fun _ h9 => h9) rfl d_BW_place_31 ?_
        refine lv_iload hx hb d_BW_place_34 (lv_at hl 3 rfl) ?_
        refine lv_lload_n hx hb d_BW_place_36 rfl (lv_at hl 1 rfl) ?_
        refine lv_iload hx hb d_BW_place_37 (lv_at hl 3 rfl) ?_
        refine lv_bipush hx hb d_BW_place_39 bp_32 ?_
        refine lv_imul hx hb d_BW_place_41 ?_
        refine lv_iload_n hx hb d_BW_place_42 rfl (lv_at hl 2 rfl) ?_
        refine lv_isub hx hb d_BW_place_43 ?_
        refine q_S (As := [.long a1, .int ((y4 * (32 : Int32)) - a2)]) (rest := [.int y4, .ref (ad 5)]) (n := 2) hx hb hml hown hts (c_BW_slice l a1 ((y4 * (32 : Int32)) - a2)) rfl rfl m_202 m_203 m_204 m_205 (by decide +kernel) ⟨Nat.le_of_ble_eq_true rfl, Nat.le_of_ble_eq_true rfl⟩ (p0_bl) (fun U hU hW => p0_mv hU hW hNB) rfl hl.1 rfl (Nat.le_of_ble_eq_true rfl) d_BW_place_44 ⟨Nat.zero_le _, Nat.zero_le _⟩ ?_
        have hi := gz_n h
        have h := gz_h h
        refine va_last hx hb hK hP hD hS 5 1 rfl rfl hi d_BW_place_47 (fun H locs hP hD hS => ?_)
        have hP : va_P D cls (gC cI cL cC ad X len tk row dig pw used_5 lost (vp_updL lim_6 (y4).toNatClampNeg (F_BW_slice a1 ((y4 * (32 : Int32)) - a2)))) H := hP
        have hD : va_D A (gC cI cL cC ad X len tk row dig pw used_5 lost (vp_updL lim_6 (y4).toNatClampNeg (F_BW_slice a1 ((y4 * (32 : Int32)) - a2)))) := hD
        obtain ⟨lim_7, e_lim_7, h⟩ := lt_o h
        rw [← e_lim_7] at hP hD
        obtain ⟨x8, e_x8⟩ : ∃ z, z = y4 + Int32.ofInt 1 := ⟨_, rfl⟩
        have h := lt_h e_x8 h
        refine lv_iinc (k := 3) hx hb d_BW_place_48 hl rfl e_x8.symm (by decide) rfl (fun ls hl => ?_)
        have hl : lv_has ls 5 [(4, .int x8), (0, .ref (ad 4)), (1, .long a1), (3, .int a2)] := hl
        refine lv_goto (tgt := 21) hx hb d_BW_place_51 rfl ?_
        exact ih _ _ _ ls _ _ (lv_sub hl [1, 2, 3, 0] rfl) hP hD hS h
  exact hL21 n _ _ _ ls _ _ (lv_sub hl [1, 2, 3, 0] rfl) hP hD hS h
-- BW_multiply
theorem d_BW_multiply_0 : decode b_BW_multiply 0 = .ok (.lconst 0, 1) := by decide +kernel
theorem d_BW_multiply_1 : decode b_BW_multiply 1 = .ok (.lstore_n 3, 1) := by decide +kernel
theorem d_BW_multiply_2 : decode b_BW_multiply 2 = .ok (.iconst 0, 1) := by decide +kernel
theorem d_BW_multiply_3 : decode b_BW_multiply 3 = .ok (.istore 5, 2) := by decide +kernel
theorem d_BW_multiply_5 : decode b_BW_multiply 5 = .ok (.iload 5, 2) := by decide +kernel
theorem d_BW_multiply_7 : decode b_BW_multiply 7 = .ok (.aload_n 0, 1) := by decide +kernel
theorem d_BW_multiply_8 : decode b_BW_multiply 8 = .ok (.getfield 48, 3) := by decide +kernel
theorem d_BW_multiply_11 : decode b_BW_multiply 11 = .ok (.if_icmp .ge 41, 3) := by decide +kernel
theorem d_BW_multiply_14 : decode b_BW_multiply 14 = .ok (.aload_n 0, 1) := by decide +kernel
theorem d_BW_multiply_15 : decode b_BW_multiply 15 = .ok (.getfield 11, 3) := by decide +kernel
theorem d_BW_multiply_18 : decode b_BW_multiply 18 = .ok (.iload 5, 2) := by decide +kernel
theorem d_BW_multiply_20 : decode b_BW_multiply 20 = .ok (.laload, 1) := by decide +kernel
theorem d_BW_multiply_21 : decode b_BW_multiply 21 = .ok (.lload_n 1, 1) := by decide +kernel
theorem d_BW_multiply_22 : decode b_BW_multiply 22 = .ok (.lmul, 1) := by decide +kernel
theorem d_BW_multiply_23 : decode b_BW_multiply 23 = .ok (.lload_n 3, 1) := by decide +kernel
theorem d_BW_multiply_24 : decode b_BW_multiply 24 = .ok (.ladd, 1) := by decide +kernel
theorem d_BW_multiply_25 : decode b_BW_multiply 25 = .ok (.lstore 6, 2) := by decide +kernel
theorem d_BW_multiply_27 : decode b_BW_multiply 27 = .ok (.aload_n 0, 1) := by decide +kernel
theorem d_BW_multiply_28 : decode b_BW_multiply 28 = .ok (.getfield 11, 3) := by decide +kernel
theorem d_BW_multiply_31 : decode b_BW_multiply 31 = .ok (.iload 5, 2) := by decide +kernel
theorem d_BW_multiply_33 : decode b_BW_multiply 33 = .ok (.lload 6, 2) := by decide +kernel
theorem d_BW_multiply_35 : decode b_BW_multiply 35 = .ok (.ldc2_w 56, 3) := by decide +kernel
theorem d_BW_multiply_38 : decode b_BW_multiply 38 = .ok (.land, 1) := by decide +kernel
theorem d_BW_multiply_39 : decode b_BW_multiply 39 = .ok (.lastore, 1) := by decide +kernel
theorem d_BW_multiply_40 : decode b_BW_multiply 40 = .ok (.lload 6, 2) := by decide +kernel
theorem d_BW_multiply_42 : decode b_BW_multiply 42 = .ok (.bipush 32, 2) := by decide +kernel
theorem d_BW_multiply_44 : decode b_BW_multiply 44 = .ok (.lushr, 1) := by decide +kernel
theorem d_BW_multiply_45 : decode b_BW_multiply 45 = .ok (.lstore_n 3, 1) := by decide +kernel
theorem d_BW_multiply_46 : decode b_BW_multiply 46 = .ok (.iinc 5 1, 3) := by decide +kernel
theorem d_BW_multiply_49 : decode b_BW_multiply 49 = .ok (.goto (-44), 3) := by decide +kernel
theorem d_BW_multiply_52 : decode b_BW_multiply 52 = .ok (.lload_n 3, 1) := by decide +kernel
theorem d_BW_multiply_53 : decode b_BW_multiply 53 = .ok (.lconst 0, 1) := by decide +kernel
theorem d_BW_multiply_54 : decode b_BW_multiply 54 = .ok (.lcmp, 1) := by decide +kernel
theorem d_BW_multiply_55 : decode b_BW_multiply 55 = .ok (.ifCond .eq 32, 3) := by decide +kernel
theorem d_BW_multiply_58 : decode b_BW_multiply 58 = .ok (.aload_n 0, 1) := by decide +kernel
theorem d_BW_multiply_59 : decode b_BW_multiply 59 = .ok (.getfield 48, 3) := by decide +kernel
theorem d_BW_multiply_62 : decode b_BW_multiply 62 = .ok (.bipush 36, 2) := by decide +kernel
theorem d_BW_multiply_64 : decode b_BW_multiply 64 = .ok (.if_icmp .ge 23, 3) := by decide +kernel
theorem d_BW_multiply_67 : decode b_BW_multiply 67 = .ok (.aload_n 0, 1) := by decide +kernel
theorem d_BW_multiply_68 : decode b_BW_multiply 68 = .ok (.getfield 11, 3) := by decide +kernel
theorem d_BW_multiply_71 : decode b_BW_multiply 71 = .ok (.aload_n 0, 1) := by decide +kernel
theorem d_BW_multiply_72 : decode b_BW_multiply 72 = .ok (.getfield 48, 3) := by decide +kernel
theorem d_BW_multiply_75 : decode b_BW_multiply 75 = .ok (.lload_n 3, 1) := by decide +kernel
theorem d_BW_multiply_76 : decode b_BW_multiply 76 = .ok (.lastore, 1) := by decide +kernel
theorem d_BW_multiply_77 : decode b_BW_multiply 77 = .ok (.aload_n 0, 1) := by decide +kernel
theorem d_BW_multiply_78 : decode b_BW_multiply 78 = .ok (.dup, 1) := by decide +kernel
theorem d_BW_multiply_79 : decode b_BW_multiply 79 = .ok (.getfield 48, 3) := by decide +kernel
theorem d_BW_multiply_82 : decode b_BW_multiply 82 = .ok (.iconst 1, 1) := by decide +kernel
theorem d_BW_multiply_83 : decode b_BW_multiply 83 = .ok (.iadd, 1) := by decide +kernel
theorem d_BW_multiply_84 : decode b_BW_multiply 84 = .ok (.putfield 48, 3) := by decide +kernel
theorem d_BW_multiply_87 : decode b_BW_multiply 87 = .ok (.return_, 1) := by decide +kernel
def F_BW_multiply_L5 (a1 : Int64) (j52 : (Int64 → Int32 → (Nat → Int64) → Option (Int32 × (Nat → Int64)))) : Nat → Int64 → Int32 → Int32 → (Nat → Int64) → Option (Int32 × (Nat → Int64))
  | 0, _, _, _, _ => none
  | n+1, y8, y9, used_10, lim_11 => if used_10 ≤ y9 then (j52 y8 used_10 lim_11) else (gz_ (y9 < 0 ∨ 36 ≤ (y9).toNatClampNeg) <| lt_ (((lim_11 (y9).toNatClampNeg) * a1) + y8) fun x12 => gz_ (y9 < 0 ∨ 36 ≤ (y9).toNatClampNeg) <| lt_ (vp_updL lim_11 (y9).toNatClampNeg (x12 &&& (4294967295 : Int64))) fun lim_13 => lt_ (((x12).toUInt64 >>> (((32 : Int32)).toInt64.toUInt64 &&& Int64.toUInt64 63)).toInt64) fun x14 => lt_ (y9 + Int32.ofInt 1) fun x15 => F_BW_multiply_L5 a1 j52 n x14 x15 used_10 lim_13)
def F_BW_multiply (n : Nat) (used : Int32) (lim : Nat → Int64) (a1 : Int64) : Option (Int32 × (Nat → Int64)) := lt_ (fun (y1 : Int64) (used_2 : Int32) (lim_3 : (Nat → Int64)) => lt_ (fun (used_4 : Int32) (lim_5 : (Nat → Int64)) => some (used_4, lim_5)) fun j87 => if y1 = (0 : Int64) then (j87 used_2 lim_3) else (if (36 : Int32) ≤ used_2 then (j87 used_2 lim_3) else (gz_ (used_2 < 0 ∨ 36 ≤ (used_2).toNatClampNeg) <| lt_ (vp_updL lim_3 (used_2).toNatClampNeg y1) fun lim_6 => lt_ (used_2 + (1 : Int32)) fun x7 => j87 x7 lim_6))) fun j52 => F_BW_multiply_L5 a1 j52 n (0 : Int64) (0 : Int32) used lim
set_option maxHeartbeats 4000000 in
set_option maxRecDepth 100000 in
theorem c_BW_multiply (l : Launch) (D : va_G) (A : Nat → Prop) (cI cL cC : ClassId) (ad : Nat → Nat) (X : va_W) (len : Int32) (tk : Int32) (row : Nat → Int32) (dig : Int64) (pw : Int32) (used : Int32) (lost : Int32) (lim : Nat → Int64) (n : Nat) (a1 : Int64) (r : Int32 × (Nat → Int64)) (h : F_BW_multiply n used lim a1 = some r) : Met l y_BW_multiply (.code y_BW_multiply b_BW_multiply 8 none :: BIG) ({ frames := 0, cells := 0, slots := 0, locals := 0 } : Room) (va_Pc [.ref (ad 4), .long a1] (gPre D A (tysV cI cL cC) (gC cI cL cC ad X len tk row dig pw used lost lim))) (gQ D A none (gC cI cL cC ad X len tk row dig pw r.1 lost r.2)) 0 0 A := by
  refine gOpen_v rfl (Nat.le_of_ble_eq_true rfl) ?_
  intro p e s m args below meth c Q ls hx hb hml hown hts hT hNB hP hK hD hl hret
  have hown : s.vm.findClass R_BW = some m.cls := hown
  have hS : va_S A s.heap s.heap [] := va_S.rf
  have hl : lv_has ls 8 [(0, .ref (ad 4)), (1, .long a1)] := hl
  have h : (lt_ (fun (y1 : Int64) (used_2 : Int32) (lim_3 : (Nat → Int64)) => lt_ (fun (used_4 : Int32) (lim_5 : (Nat → Int64)) => some (used_4, lim_5)) fun j87 => if y1 = (0 : Int64) then (j87 used_2 lim_3) else (if (36 : Int32) ≤ used_2 then (j87 used_2 lim_3) else (gz_ (used_2 < 0 ∨ 36 ≤ (used_2).toNatClampNeg) <| lt_ (vp_updL lim_3 (used_2).toNatClampNeg y1) fun lim_6 => lt_ (used_2 + (1 : Int32)) fun x7 => j87 x7 lim_6))) fun j52 => F_BW_multiply_L5 a1 j52 n (0 : Int64) (0 : Int32) used lim) = some r := h
  refine lv_lconst hx hb d_BW_multiply_0 lc_0 ?_
  refine lv_lstore_n hx hb d_BW_multiply_1 rfl hl (by decide) rfl (fun ls hl => ?_)
  have hl : lv_has ls 8 [(3, .long (0 : Int64)), (0, .ref (ad 4)), (1, .long a1)] := hl
  refine lv_iconst hx hb d_BW_multiply_2 ic_0 ?_
  refine lv_istore hx hb d_BW_multiply_3 hl (by decide) rfl (fun ls hl => ?_)
  have hl : lv_has ls 8 [(5, .int (0 : Int32)), (3, .long (0 : Int64)), (0, .ref (ad 4)), (1, .long a1)] := hl
  obtain ⟨j52, e_j52, h⟩ := lt_o h
  have hJ52 : ∀ (y1 : Int64) (used_2 : Int32) (lim_3 : (Nat → Int64)) (ls : Array Slot) (H : Heap) (locs : List Loc), lv_has ls 8 [(0, .ref (ad 4)), (3, .long y1)] → va_P D cls (gC cI cL cC ad X len tk row dig pw used_2 lost lim_3) H → va_D A (gC cI cL cC ad X len tk row dig pw used_2 lost lim_3) → va_S A s.heap H locs → j52 y1 used_2 lim_3 = some r → W p l e ({ frames := 0, cells := 0, slots := 0, locals := 0 } : Room) s m args below meth c H locs 0 0 Q (F0 m 52 ls []) := by
    intro y1 used_2 lim_3 ls H locs hl hP hD hS h
    rw [e_j52] at h
    refine lv_lload_n hx hb d_BW_multiply_52 rfl (lv_at hl 1 rfl) ?_
    refine lv_lconst hx hb d_BW_multiply_53 lc_0 ?_
    refine W.lcmp hx hb d_BW_multiply_54 ?_
    obtain ⟨j87, e_j87, h⟩ := lt_o h
    have hJ87 : ∀ (used_4 : Int32) (lim_5 : (Nat → Int64)) (ls : Array Slot) (H : Heap) (locs : List Loc), lv_has ls 8 [] → va_P D cls (gC cI cL cC ad X len tk row dig pw used_4 lost lim_5) H → va_D A (gC cI cL cC ad X len tk row dig pw used_4 lost lim_5) → va_S A s.heap H locs → j87 used_4 lim_5 = some r → W p l e ({ frames := 0, cells := 0, slots := 0, locals := 0 } : Room) s m args below meth c H locs 0 0 Q (F0 m 87 ls []) := by
      intro used_4 lim_5 ls H locs hl hP hD hS h
      rw [e_j87] at h
      obtain rfl := Option.some.inj h
      exact hret 87 ls _ _ hP hD hS d_BW_multiply_87
    refine lv_if_eq (tgt := 87) hx hb d_BW_multiply_55 rfl (fun hc => ?_) (fun hc => ?_)
    · have hc := (lg_cmp_eq _ _).mp hc
      have h := ite_t hc h
      exact hJ87 _ _ ls _ _ (lv_sub hl [] rfl) hP hD hS h
    · have hc := mt (lg_cmp_eq _ _).mpr hc
      have h := ite_f hc h
      refine lv_aload_n hx hb d_BW_multiply_58 rfl (lv_at hl 0 rfl) ?_
      refine va_get (D := D) (ci := 3) (C := R_BW) (T := T_BW) (N := 3) hx hb hT in_BW hown hK hP 4 rfl rfl 1 (by decide) (hT _ m_200) (fun _ h9 => h9) rfl d_BW_multiply_59 ?_
      refine lv_bipush hx hb d_BW_multiply_62 bp_36 ?_
      refine lv_icmp_ge (tgt := 87) hx hb d_BW_multiply_64 rfl (fun hc => ?_) (fun hc => ?_)
      · have h := ite_t hc h
        exact hJ87 _ _ ls _ _ (lv_sub hl [] rfl) hP hD hS h
      · have h := ite_f hc h
        refine lv_aload_n hx hb d_BW_multiply_67 rfl (lv_at hl 0 rfl) ?_
        refine va_get (D := D) (ci := 3) (C := R_BW) (T := T_BW) (N := 3) hx hb hT in_BW hown hK hP 4 rfl rfl 0 (by decide) (hT _ m_201) (fun _ h9 => h9) rfl d_BW_multiply_68 ?_
        refine lv_aload_n hx hb d_BW_multiply_71 rfl (lv_at hl 0 rfl) ?_
        refine va_get (D := D) (ci := 3) (C := R_BW) (T := T_BW) (N := 3) hx hb hT in_BW hown hK hP 4 rfl rfl 1 (by decide) (hT _ m_200) (fun _ h9 => h9) rfl d_BW_multiply_72 ?_
        refine lv_lload_n hx hb d_BW_multiply_75 rfl (lv_at hl 1 rfl) ?_
        have hi := gz_n h
        have h := gz_h h
        refine va_last hx hb hK hP hD hS 5 1 rfl rfl hi d_BW_multiply_76 (fun H locs hP hD hS => ?_)
        have hP : va_P D cls (gC cI cL cC ad X len tk row dig pw used_2 lost (vp_updL lim_3 (used_2).toNatClampNeg y1)) H := hP
        have hD : va_D A (gC cI cL cC ad X len tk row dig pw used_2 lost (vp_updL lim_3 (used_2).toNatClampNeg y1)) := hD
        obtain ⟨lim_6, e_lim_6, h⟩ := lt_o h
        rw [← e_lim_6] at hP hD
        refine lv_aload_n hx hb d_BW_multiply_77 rfl (lv_at hl 0 rfl) ?_
        refine lv_dup hx hb d_BW_multiply_78 rfl ?_
        refine va_get (D := D) (ci := 3) (C := R_BW) (T := T_BW) (N := 3) hx hb hT in_BW hown hK hP 4 rfl rfl 1 (by decide) (hT _ m_200) (fun _ h9 => h9) rfl d_BW_multiply_79 ?_
        refine lv_iconst hx hb d_BW_multiply_82 ic_1 ?_
        refine lv_iadd hx hb d_BW_multiply_83 ?_
        refine lv_topi (fun x7 e_x7 => ?_)
        have h := lt_h e_x7 h
        refine va_put (D := D) (ci := 3) (C := R_BW) (T := T_BW) (N := 3) hx hb hT in_BW ty_BW tyok_BW nm_BW hown hK hP hD hS 4 rfl rfl 1 (by decide) (hT _ m_200) (fun _ h9 => h9) rfl (ty := .int) (by decide +kernel) rfl rfl (by decide : 1 < 3) d_BW_multiply_84 (fun H locs hP hD hS => ?_)
        have hP : va_P D cls (gC cI cL cC ad X len tk row dig pw x7 lost lim_6) H := hP
        have hD : va_D A (gC cI cL cC ad X len tk row dig pw x7 lost lim_6) := hD
        exact hJ87 _ _ ls _ _ (lv_sub hl [] rfl) hP hD hS h
  have hL5 : ∀ (n : Nat) (y8 : Int64) (y9 : Int32) (used_10 : Int32) (lim_11 : (Nat → Int64)) (ls : Array Slot) (H : Heap) (locs : List Loc), lv_has ls 8 [(0, .ref (ad 4)), (1, .long a1), (3, .long y8), (5, .int y9)] → va_P D cls (gC cI cL cC ad X len tk row dig pw used_10 lost lim_11) H → va_D A (gC cI cL cC ad X len tk row dig pw used_10 lost lim_11) → va_S A s.heap H locs → F_BW_multiply_L5 a1 j52 n y8 y9 used_10 lim_11 = some r → W p l e ({ frames := 0, cells := 0, slots := 0, locals := 0 } : Room) s m args below meth c H locs 0 0 Q (F0 m 5 ls []) := by
    intro n
    induction n with
    | zero => intro y8 y9 used_10 lim_11 ls H locs hl hP hD hS h; exact no_s h
    | succ n ih =>
      intro y8 y9 used_10 lim_11 ls H locs hl hP hD hS h
      have h : (if used_10 ≤ y9 then (j52 y8 used_10 lim_11) else (gz_ (y9 < 0 ∨ 36 ≤ (y9).toNatClampNeg) <| lt_ (((lim_11 (y9).toNatClampNeg) * a1) + y8) fun x12 => gz_ (y9 < 0 ∨ 36 ≤ (y9).toNatClampNeg) <| lt_ (vp_updL lim_11 (y9).toNatClampNeg (x12 &&& (4294967295 : Int64))) fun lim_13 => lt_ (((x12).toUInt64 >>> (((32 : Int32)).toInt64.toUInt64 &&& Int64.toUInt64 63)).toInt64) fun x14 => lt_ (y9 + Int32.ofInt 1) fun x15 => F_BW_multiply_L5 a1 j52 n x14 x15 used_10 lim_13)) = some r := h
      refine lv_iload hx hb d_BW_multiply_5 (lv_at hl 3 rfl) ?_
      refine lv_aload_n hx hb d_BW_multiply_7 rfl (lv_at hl 0 rfl) ?_
      refine va_get (D := D) (ci := 3) (C := R_BW) (T := T_BW) (N := 3) hx hb hT in_BW hown hK hP 4 rfl rfl 1 (by decide) (hT _ m_200) (fun _ h9 => h9) rfl d_BW_multiply_8 ?_
      refine lv_icmp_ge (tgt := 52) hx hb d_BW_multiply_11 rfl (fun hc => ?_) (fun hc => ?_)
      · have h := ite_t hc h
        exact hJ52 _ _ _ ls _ _ (lv_sub hl [0, 2] rfl) hP hD hS h
      · have h := ite_f hc h
        refine lv_aload_n hx hb d_BW_multiply_14 rfl (lv_at hl 0 rfl) ?_
        refine va_get (D := D) (ci := 3) (C := R_BW) (T := T_BW) (N := 3) hx hb hT in_BW hown hK hP 4 rfl rfl 0 (by decide) (hT _ m_201) (fun _ h9 => h9) rfl d_BW_multiply_15 ?_
        refine lv_iload hx hb d_BW_multiply_18 (lv_at hl 3 rfl) ?_
        have hi := gz_n h
        have h := gz_h h
        refine va_lald hx hb hK hP 5 1 rfl rfl hi d_BW_multiply_20 ?_
        refine lv_lload_n hx hb d_BW_multiply_21 rfl (lv_at hl 1 rfl) ?_
        refine lv_lmul hx hb d_BW_multiply_22 ?_
        refine lv_lload_n hx hb d_BW_multiply_23 rfl (lv_at hl 2 rfl) ?_
        refine lv_ladd hx hb d_BW_multiply_24 ?_
        refine lv_topl (fun x12 e_x12 => ?_)
        have h := lt_h e_x12 h
        refine lv_lstore hx hb d_BW_multiply_25 hl (by decide) rfl (fun ls hl => ?_)
        have hl : lv_has ls 8 [(6, .long x12), (0, .ref (ad 4)), (1, .long a1), (3, .long y8), (5, .int y9)] := hl
        refine lv_aload_n hx hb d_BW_multiply_27 rfl (lv_at hl 1 rfl) ?_
        refine va_get (D := D) (ci := 3) (C := R_BW) (T := T_BW) (N := 3) hx hb hT in_BW hown hK hP 4 rfl rfl 0 (by decide) (hT _ m_201) (fun _ h9 => h9) rfl d_BW_multiply_28 ?_
        refine lv_iload hx hb d_BW_multiply_31 (lv_at hl 4 rfl) ?_
        refine lv_lload hx hb d_BW_multiply_33 (lv_at hl 0 rfl) ?_
        refine lv_ldc2 hx hb hown (hT _ m_119) d_BW_multiply_35 ?_
        refine lv_land hx hb d_BW_multiply_38 ?_
        have hi := gz_n h
        have h := gz_h h
        refine va_last hx hb hK hP hD hS 5 1 rfl rfl hi d_BW_multiply_39 (fun H locs hP hD hS => ?_)
        have hP : va_P D cls (gC cI cL cC ad X len tk row dig pw used_10 lost (vp_updL lim_11 (y9).toNatClampNeg (x12 &&& (4294967295 : Int64)))) H := hP
        have hD : va_D A (gC cI cL cC ad X len tk row dig pw used_10 lost (vp_updL lim_11 (y9).toNatClampNeg (x12 &&& (4294967295 : Int64)))) := hD
        obtain ⟨lim_13, e_lim_13, h⟩ := lt_o h
        rw [← e_lim_13] at hP hD
        refine lv_lload hx hb d_BW_multiply_40 (lv_at hl 0 rfl) ?_
        refine lv_bipush hx hb d_BW_multiply_42 bp_32 ?_
        refine lv_lushr hx hb d_BW_multiply_44 rfl ?_
        refine lv_topl (fun x14 e_x14 => ?_)
        have h := lt_h e_x14 h
        refine lv_lstore_n hx hb d_BW_multiply_45 rfl hl (by decide) rfl (fun ls hl => ?_)
        have hl : lv_has ls 8 [(3, .long x14), (6, .long x12), (0, .ref (ad 4)), (1, .long a1), (5, .int y9)] := hl
        obtain ⟨x15, e_x15⟩ : ∃ z, z = y9 + Int32.ofInt 1 := ⟨_, rfl⟩
        have h := lt_h e_x15 h
        refine lv_iinc (k := 4) hx hb d_BW_multiply_46 hl rfl e_x15.symm (by decide) rfl (fun ls hl => ?_)
        have hl : lv_has ls 8 [(5, .int x15), (3, .long x14), (6, .long x12), (0, .ref (ad 4)), (1, .long a1)] := hl
        refine lv_goto (tgt := 5) hx hb d_BW_multiply_49 rfl ?_
        exact ih _ _ _ _ ls _ _ (lv_sub hl [3, 4, 1, 0] rfl) hP hD hS h
  exact hL5 n _ _ _ _ ls _ _ (lv_sub hl [2, 3, 1, 0] rfl) hP hD hS h
-- BW_divide
theorem d_BW_divide_0 : decode b_BW_divide 0 = .ok (.lload_n 1, 1) := by decide +kernel
theorem d_BW_divide_1 : decode b_BW_divide 1 = .ok (.lconst 0, 1) := by decide +kernel
theorem d_BW_divide_2 : decode b_BW_divide 2 = .ok (.lcmp, 1) := by decide +kernel
theorem d_BW_divide_3 : decode b_BW_divide 3 = .ok (.ifCond .ne 4, 3) := by decide +kernel
theorem d_BW_divide_6 : decode b_BW_divide 6 = .ok (.return_, 1) := by decide +kernel
theorem d_BW_divide_7 : decode b_BW_divide 7 = .ok (.lconst 0, 1) := by decide +kernel
theorem d_BW_divide_8 : decode b_BW_divide 8 = .ok (.lstore_n 3, 1) := by decide +kernel
theorem d_BW_divide_9 : decode b_BW_divide 9 = .ok (.aload_n 0, 1) := by decide +kernel
theorem d_BW_divide_10 : decode b_BW_divide 10 = .ok (.getfield 48, 3) := by decide +kernel
theorem d_BW_divide_13 : decode b_BW_divide 13 = .ok (.iconst 1, 1) := by decide +kernel
theorem d_BW_divide_14 : decode b_BW_divide 14 = .ok (.isub, 1) := by decide +kernel
theorem d_BW_divide_15 : decode b_BW_divide 15 = .ok (.istore 5, 2) := by decide +kernel
theorem d_BW_divide_17 : decode b_BW_divide 17 = .ok (.iload 5, 2) := by decide +kernel
theorem d_BW_divide_19 : decode b_BW_divide 19 = .ok (.ifCond .lt 39, 3) := by decide +kernel
theorem d_BW_divide_22 : decode b_BW_divide 22 = .ok (.lload_n 3, 1) := by decide +kernel
theorem d_BW_divide_23 : decode b_BW_divide 23 = .ok (.bipush 32, 2) := by decide +kernel
theorem d_BW_divide_25 : decode b_BW_divide 25 = .ok (.lshl, 1) := by decide +kernel
theorem d_BW_divide_26 : decode b_BW_divide 26 = .ok (.aload_n 0, 1) := by decide +kernel
theorem d_BW_divide_27 : decode b_BW_divide 27 = .ok (.getfield 11, 3) := by decide +kernel
theorem d_BW_divide_30 : decode b_BW_divide 30 = .ok (.iload 5, 2) := by decide +kernel
theorem d_BW_divide_32 : decode b_BW_divide 32 = .ok (.laload, 1) := by decide +kernel
theorem d_BW_divide_33 : decode b_BW_divide 33 = .ok (.lor, 1) := by decide +kernel
theorem d_BW_divide_34 : decode b_BW_divide 34 = .ok (.lstore 6, 2) := by decide +kernel
theorem d_BW_divide_36 : decode b_BW_divide 36 = .ok (.aload_n 0, 1) := by decide +kernel
theorem d_BW_divide_37 : decode b_BW_divide 37 = .ok (.getfield 11, 3) := by decide +kernel
theorem d_BW_divide_40 : decode b_BW_divide 40 = .ok (.iload 5, 2) := by decide +kernel
theorem d_BW_divide_42 : decode b_BW_divide 42 = .ok (.lload 6, 2) := by decide +kernel
theorem d_BW_divide_44 : decode b_BW_divide 44 = .ok (.lload_n 1, 1) := by decide +kernel
theorem d_BW_divide_45 : decode b_BW_divide 45 = .ok (.ldiv, 1) := by decide +kernel
theorem d_BW_divide_46 : decode b_BW_divide 46 = .ok (.lastore, 1) := by decide +kernel
theorem d_BW_divide_47 : decode b_BW_divide 47 = .ok (.lload 6, 2) := by decide +kernel
theorem d_BW_divide_49 : decode b_BW_divide 49 = .ok (.lload_n 1, 1) := by decide +kernel
theorem d_BW_divide_50 : decode b_BW_divide 50 = .ok (.lrem, 1) := by decide +kernel
theorem d_BW_divide_51 : decode b_BW_divide 51 = .ok (.lstore_n 3, 1) := by decide +kernel
theorem d_BW_divide_52 : decode b_BW_divide 52 = .ok (.iinc 5 (-1), 3) := by decide +kernel
theorem d_BW_divide_55 : decode b_BW_divide 55 = .ok (.goto (-38), 3) := by decide +kernel
theorem d_BW_divide_58 : decode b_BW_divide 58 = .ok (.aload_n 0, 1) := by decide +kernel
theorem d_BW_divide_59 : decode b_BW_divide 59 = .ok (.aload_n 0, 1) := by decide +kernel
theorem d_BW_divide_60 : decode b_BW_divide 60 = .ok (.getfield 15, 3) := by decide +kernel
theorem d_BW_divide_63 : decode b_BW_divide 63 = .ok (.ifCond .ne 9, 3) := by decide +kernel
theorem d_BW_divide_66 : decode b_BW_divide 66 = .ok (.lload_n 3, 1) := by decide +kernel
theorem d_BW_divide_67 : decode b_BW_divide 67 = .ok (.lconst 0, 1) := by decide +kernel
theorem d_BW_divide_68 : decode b_BW_divide 68 = .ok (.lcmp, 1) := by decide +kernel
theorem d_BW_divide_69 : decode b_BW_divide 69 = .ok (.ifCond .eq 7, 3) := by decide +kernel
theorem d_BW_divide_72 : decode b_BW_divide 72 = .ok (.iconst 1, 1) := by decide +kernel
theorem d_BW_divide_73 : decode b_BW_divide 73 = .ok (.goto 4, 3) := by decide +kernel
theorem d_BW_divide_76 : decode b_BW_divide 76 = .ok (.iconst 0, 1) := by decide +kernel
theorem d_BW_divide_77 : decode b_BW_divide 77 = .ok (.putfield 15, 3) := by decide +kernel
theorem d_BW_divide_80 : decode b_BW_divide 80 = .ok (.aload_n 0, 1) := by decide +kernel
theorem d_BW_divide_81 : decode b_BW_divide 81 = .ok (.getfield 48, 3) := by decide +kernel
theorem d_BW_divide_84 : decode b_BW_divide 84 = .ok (.ifCond .le 32, 3) := by decide +kernel
theorem d_BW_divide_87 : decode b_BW_divide 87 = .ok (.aload_n 0, 1) := by decide +kernel
theorem d_BW_divide_88 : decode b_BW_divide 88 = .ok (.getfield 11, 3) := by decide +kernel
theorem d_BW_divide_91 : decode b_BW_divide 91 = .ok (.aload_n 0, 1) := by decide +kernel
theorem d_BW_divide_92 : decode b_BW_divide 92 = .ok (.getfield 48, 3) := by decide +kernel
theorem d_BW_divide_95 : decode b_BW_divide 95 = .ok (.iconst 1, 1) := by decide +kernel
theorem d_BW_divide_96 : decode b_BW_divide 96 = .ok (.isub, 1) := by decide +kernel
theorem d_BW_divide_97 : decode b_BW_divide 97 = .ok (.laload, 1) := by decide +kernel
theorem d_BW_divide_98 : decode b_BW_divide 98 = .ok (.lconst 0, 1) := by decide +kernel
theorem d_BW_divide_99 : decode b_BW_divide 99 = .ok (.lcmp, 1) := by decide +kernel
theorem d_BW_divide_100 : decode b_BW_divide 100 = .ok (.ifCond .ne 16, 3) := by decide +kernel
theorem d_BW_divide_103 : decode b_BW_divide 103 = .ok (.aload_n 0, 1) := by decide +kernel
theorem d_BW_divide_104 : decode b_BW_divide 104 = .ok (.dup, 1) := by decide +kernel
theorem d_BW_divide_105 : decode b_BW_divide 105 = .ok (.getfield 48, 3) := by decide +kernel
theorem d_BW_divide_108 : decode b_BW_divide 108 = .ok (.iconst 1, 1) := by decide +kernel
theorem d_BW_divide_109 : decode b_BW_divide 109 = .ok (.isub, 1) := by decide +kernel
theorem d_BW_divide_110 : decode b_BW_divide 110 = .ok (.putfield 48, 3) := by decide +kernel
theorem d_BW_divide_113 : decode b_BW_divide 113 = .ok (.goto (-33), 3) := by decide +kernel
theorem d_BW_divide_116 : decode b_BW_divide 116 = .ok (.return_, 1) := by decide +kernel
def F_BW_divide_L80 (j116 : (Int32 → Int32 → (Nat → Int64) → Option (Int32 × Int32 × (Nat → Int64)))) : Nat → Int32 → Int32 → (Nat → Int64) → Option (Int32 × Int32 × (Nat → Int64))
  | 0, _, _, _ => none
  | n+1, used_10, lost_11, lim_12 => if used_10 ≤ 0 then (j116 used_10 lost_11 lim_12) else (gz_ (used_10 - (1 : Int32) < 0 ∨ 36 ≤ (used_10 - (1 : Int32)).toNatClampNeg) <| if ¬ (lim_12 (used_10 - (1 : Int32)).toNatClampNeg) = (0 : Int64) then (j116 used_10 lost_11 lim_12) else (lt_ (used_10 - (1 : Int32)) fun x13 => F_BW_divide_L80 j116 n x13 lost_11 lim_12))
def F_BW_divide_L17 (a1 : Int64) (j58 : (Int64 → Int32 → Int32 → (Nat → Int64) → Option (Int32 × Int32 × (Nat → Int64)))) : Nat → Int64 → Int32 → Int32 → Int32 → (Nat → Int64) → Option (Int32 × Int32 × (Nat → Int64))
  | 0, _, _, _, _, _ => none
  | n+1, y14, y15, used_16, lost_17, lim_18 => if y15 < 0 then (j58 y14 used_16 lost_17 lim_18) else (gz_ (y15 < 0 ∨ 36 ≤ (y15).toNatClampNeg) <| lt_ ((y14 <<< (((32 : Int32)).toInt64 &&& 63)) ||| (lim_18 (y15).toNatClampNeg)) fun x19 => gz_ (a1 = 0) <| gz_ (y15 < 0 ∨ 36 ≤ (y15).toNatClampNeg) <| lt_ (vp_updL lim_18 (y15).toNatClampNeg (x19 / a1)) fun lim_20 => gz_ (a1 = 0) <| lt_ (x19 - x19 / a1 * a1) fun x21 => lt_ (y15 + Int32.ofInt (-1)) fun x22 => F_BW_divide_L17 a1 j58 n x21 x22 used_16 lost_17 lim_20)
def F_BW_divide (n : Nat) (used : Int32) (lost : Int32) (lim : Nat → Int64) (a1 : Int64) : Option (Int32 × Int32 × (Nat → Int64)) := if ¬ a1 = (0 : Int64) then (lt_ (used - (1 : Int32)) fun x1 => lt_ (fun (y2 : Int64) (used_3 : Int32) (lost_4 : Int32) (lim_5 : (Nat → Int64)) => lt_ (if ¬ lost_4 = 0 then (1 : Int32) else if y2 = (0 : Int64) then (0 : Int32) else (1 : Int32)) fun x6 => lt_ (fun (used_7 : Int32) (lost_8 : Int32) (lim_9 : (Nat → Int64)) => some (used_7, lost_8, lim_9)) fun j116 => F_BW_divide_L80 j116 n used_3 x6 lim_5) fun j58 => F_BW_divide_L17 a1 j58 n (0 : Int64) x1 used lost lim) else (some (used, lost, lim))
set_option maxHeartbeats 4000000 in
set_option maxRecDepth 100000 in
theorem c_BW_divide (l : Launch) (D : va_G) (A : Nat → Prop) (cI cL cC : ClassId) (ad : Nat → Nat) (X : va_W) (len : Int32) (tk : Int32) (row : Nat → Int32) (dig : Int64) (pw : Int32) (used : Int32) (lost : Int32) (lim : Nat → Int64) (n : Nat) (a1 : Int64) (r : Int32 × Int32 × (Nat → Int64)) (h : F_BW_divide n used lost lim a1 = some r) : Met l y_BW_divide (.code y_BW_divide b_BW_divide 8 none :: BIG) ({ frames := 0, cells := 0, slots := 0, locals := 0 } : Room) (va_Pc [.ref (ad 4), .long a1] (gPre D A (tysV cI cL cC) (gC cI cL cC ad X len tk row dig pw used lost lim))) (gQ D A none (gC cI cL cC ad X len tk row dig pw r.1 r.2.1 r.2.2)) 0 0 A := by
  refine gOpen_v rfl (Nat.le_of_ble_eq_true rfl) ?_
  intro p e s m args below meth c Q ls hx hb hml hown hts hT hNB hP hK hD hl hret
  have hown : s.vm.findClass R_BW = some m.cls := hown
  have hS : va_S A s.heap s.heap [] := va_S.rf
  have hl : lv_has ls 8 [(0, .ref (ad 4)), (1, .long a1)] := hl
  have h : (if ¬ a1 = (0 : Int64) then (lt_ (used - (1 : Int32)) fun x1 => lt_ (fun (y2 : Int64) (used_3 : Int32) (lost_4 : Int32) (lim_5 : (Nat → Int64)) => lt_ (if ¬ lost_4 = 0 then (1 : Int32) else if y2 = (0 : Int64) then (0 : Int32) else (1 : Int32)) fun x6 => lt_ (fun (used_7 : Int32) (lost_8 : Int32) (lim_9 : (Nat → Int64)) => some (used_7, lost_8, lim_9)) fun j116 => F_BW_divide_L80 j116 n used_3 x6 lim_5) fun j58 => F_BW_divide_L17 a1 j58 n (0 : Int64) x1 used lost lim) else (some (used, lost, lim))) = some r := h
  refine lv_lload_n hx hb d_BW_divide_0 rfl (lv_at hl 1 rfl) ?_
  refine lv_lconst hx hb d_BW_divide_1 lc_0 ?_
  refine W.lcmp hx hb d_BW_divide_2 ?_
  refine lv_if_ne (tgt := 7) hx hb d_BW_divide_3 rfl (fun hc => ?_) (fun hc => ?_)
  · have hc := mt (lg_cmp_eq _ _).mpr hc
    have h := ite_t hc h
    refine lv_lconst hx hb d_BW_divide_7 lc_0 ?_
    refine lv_lstore_n hx hb d_BW_divide_8 rfl hl (by decide) rfl (fun ls hl => ?_)
    have hl : lv_has ls 8 [(3, .long (0 : Int64)), (0, .ref (ad 4)), (1, .long a1)] := hl
    refine lv_aload_n hx hb d_BW_divide_9 rfl (lv_at hl 1 rfl) ?_
    refine va_get (D := D) (ci := 3) (C := R_BW) (T := T_BW) (N := 3) hx hb hT in_BW hown hK hP 4 rfl rfl 1 (by decide) (hT _ m_200) (fun _ h9 => h9) rfl d_BW_divide_10 ?_
    refine lv_iconst hx hb d_BW_divide_13 ic_1 ?_
    refine lv_isub hx hb d_BW_divide_14 ?_
    refine lv_topi (fun x1 e_x1 => ?_)
    have h := lt_h e_x1 h
    refine lv_istore hx hb d_BW_divide_15 hl (by decide) rfl (fun ls hl => ?_)
    have hl : lv_has ls 8 [(5, .int x1), (3, .long (0 : Int64)), (0, .ref (ad 4)), (1, .long a1)] := hl
    obtain ⟨j58, e_j58, h⟩ := lt_o h
    have hJ58 : ∀ (y2 : Int64) (used_3 : Int32) (lost_4 : Int32) (lim_5 : (Nat → Int64)) (ls : Array Slot) (H : Heap) (locs : List Loc), lv_has ls 8 [(0, .ref (ad 4)), (3, .long y2)] → va_P D cls (gC cI cL cC ad X len tk row dig pw used_3 lost_4 lim_5) H → va_D A (gC cI cL cC ad X len tk row dig pw used_3 lost_4 lim_5) → va_S A s.heap H locs → j58 y2 used_3 lost_4 lim_5 = some r → W p l e ({ frames := 0, cells := 0, slots := 0, locals := 0 } : Room) s m args below meth c H locs 0 0 Q (F0 m 58 ls []) := by
      intro y2 used_3 lost_4 lim_5 ls H locs hl hP hD hS h
      rw [e_j58] at h
      refine lv_aload_n hx hb d_BW_divide_58 rfl (lv_at hl 0 rfl) ?_
      refine lv_aload_n hx hb d_BW_divide_59 rfl (lv_at hl 0 rfl) ?_
      refine va_get (D := D) (ci := 3) (C := R_BW) (T := T_BW) (N := 3) hx hb hT in_BW hown hK hP 4 rfl rfl 2 (by decide) (hT _ m_206) (fun _ h9 => h9) rfl d_BW_divide_60 ?_
      obtain ⟨x6, e_x6, h⟩ := lt_o h
      have hJ77 : ∀ (x6' : Int32) (ls : Array Slot), x6 = x6' → lv_has ls 8 [(0, .ref (ad 4))] → W p l e ({ frames := 0, cells := 0, slots := 0, locals := 0 } : Room) s m args below meth c H locs 0 0 Q (F0 m 77 ls [.int x6', .ref (ad 4)]) := by
        intro x6' ls q_x6 hl
        subst q_x6
        refine va_put (D := D) (ci := 3) (C := R_BW) (T := T_BW) (N := 3) hx hb hT in_BW ty_BW tyok_BW nm_BW hown hK hP hD hS 4 rfl rfl 2 (by decide) (hT _ m_206) (fun _ h9 => h9) rfl (ty := .boolean) (by decide +kernel) (nb_1 ((by rw [e_x6]; exact ite01 (Or.inr rfl) (ite01 (Or.inl rfl) (Or.inr rfl))))) (nb_2 ((by rw [e_x6]; exact ite01 (Or.inr rfl) (ite01 (Or.inl rfl) (Or.inr rfl))))) (by decide : 2 < 3) d_BW_divide_77 (fun H locs hP hD hS => ?_)
        have hP : va_P D cls (gC cI cL cC ad X len tk row dig pw used_3 x6 lim_5) H := hP
        have hD : va_D A (gC cI cL cC ad X len tk row dig pw used_3 x6 lim_5) := hD
        obtain ⟨j116, e_j116, h⟩ := lt_o h
        have hJ116 : ∀ (used_7 : Int32) (lost_8 : Int32) (lim_9 : (Nat → Int64)) (ls : Array Slot) (H : Heap) (locs : List Loc), lv_has ls 8 [] → va_P D cls (gC cI cL cC ad X len tk row dig pw used_7 lost_8 lim_9) H → va_D A (gC cI cL cC ad X len tk row dig pw used_7 lost_8 lim_9) → va_S A s.heap H locs → j116 used_7 lost_8 lim_9 = some r → W p l e ({ frames := 0, cells := 0, slots := 0, locals := 0 } : Room) s m args below meth c H locs 0 0 Q (F0 m 116 ls []) := by
          intro used_7 lost_8 lim_9 ls H locs hl hP hD hS h
          rw [e_j116] at h
          obtain rfl := Option.some.inj h
          exact hret 116 ls _ _ hP hD hS d_BW_divide_116
        have hL80 : ∀ (n : Nat) (used_10 : Int32) (lost_11 : Int32) (lim_12 : (Nat → Int64)) (ls : Array Slot) (H : Heap) (locs : List Loc), lv_has ls 8 [(0, .ref (ad 4))] → va_P D cls (gC cI cL cC ad X len tk row dig pw used_10 lost_11 lim_12) H → va_D A (gC cI cL cC ad X len tk row dig pw used_10 lost_11 lim_12) → va_S A s.heap H locs → F_BW_divide_L80 j116 n used_10 lost_11 lim_12 = some r → W p l e ({ frames := 0, cells := 0, slots := 0, locals := 0 } : Room) s m args below meth c H locs 0 0 Q (F0 m 80 ls []) := by
          intro n
          induction n with
          | zero => intro used_10 lost_11 lim_12 ls H locs hl hP hD hS h; exact no_s h
          | succ n ih =>
            intro used_10 lost_11 lim_12 ls H locs hl hP hD hS h
            have h : (if used_10 ≤ 0 then (j116 used_10 lost_11 lim_12) else (gz_ (used_10 - (1 : Int32) < 0 ∨ 36 ≤ (used_10 - (1 : Int32)).toNatClampNeg) <| if ¬ (lim_12 (used_10 - (1 : Int32)).toNatClampNeg) = (0 : Int64) then (j116 used_10 lost_11 lim_12) else (lt_ (used_10 - (1 : Int32)) fun x13 => F_BW_divide_L80 j116 n x13 lost_11 lim_12))) = some r := h
            refine lv_aload_n hx hb d_BW_divide_80 rfl (lv_at hl 0 rfl) ?_
            refine va_get (D := D) (ci := 3) (C := R_BW) (T := T_BW) (N := 3) hx hb hT in_BW hown hK hP 4 rfl rfl 1 (by decide) (hT _ m_200) (fun _ h9 => h9) rfl d_BW_divide_81 ?_
            refine lv_if_le (tgt := 116) hx hb d_BW_divide_84 rfl (fun hc => ?_) (fun hc => ?_)
            · have h := ite_t hc h
              exact hJ116 _ _ _ ls _ _ (lv_sub hl [] rfl) hP hD hS h
            · have h := ite_f hc h
              refine lv_aload_n hx hb d_BW_divide_87 rfl (lv_at hl 0 rfl) ?_
              refine va_get (D := D) (ci := 3) (C := R_BW) (T := T_BW) (N := 3) hx hb hT in_BW hown hK hP 4 rfl rfl 0 (by decide) (hT _ m_201) (fun _ h9 => h9) rfl d_BW_divide_88 ?_
              refine lv_aload_n hx hb d_BW_divide_91 rfl (lv_at hl 0 rfl) ?_
              refine va_get (D := D) (ci := 3) (C := R_BW) (T := T_BW) (N := 3) hx hb hT in_BW hown hK hP 4 rfl rfl 1 (by decide) (hT _ m_200) (fun _ h9 => h9) rfl d_BW_divide_92 ?_
              refine lv_iconst hx hb d_BW_divide_95 ic_1 ?_
              refine lv_isub hx hb d_BW_divide_96 ?_
              have hi := gz_n h
              have h := gz_h h
              refine va_lald hx hb hK hP 5 1 rfl rfl hi d_BW_divide_97 ?_
              refine lv_lconst hx hb d_BW_divide_98 lc_0 ?_
              refine W.lcmp hx hb d_BW_divide_99 ?_
              refine lv_if_ne (tgt := 116) hx hb d_BW_divide_100 rfl (fun hc => ?_) (fun hc => ?_)
              · have hc := mt (lg_cmp_eq _ _).mpr hc
                have h := ite_t hc h
                exact hJ116 _ _ _ ls _ _ (lv_sub hl [] rfl) hP hD hS h
              · have hc := not_not_intro ((lg_cmp_eq _ _).mp hc)
                have h := ite_f hc h
                refine lv_aload_n hx hb d_BW_divide_103 rfl (lv_at hl 0 rfl) ?_
                refine lv_dup hx hb d_BW_divide_104 rfl ?_
                refine va_get (D := D) (ci := 3) (C := R_BW) (T := T_BW) (N := 3) hx hb hT in_BW hown hK hP 4 rfl rfl 1 (by decide) (hT _ m_200) (fun _ h9 => h9) rfl d_BW_divide_105 ?_
                refine lv_iconst hx hb d_BW_divide_108 ic_1 ?_
                refine lv_isub hx hb d_BW_divide_109 ?_
                refine lv_topi (fun x13 e_x13 => ?_)
                have h := lt_h e_x13 h
                refine va_put (D := D) (ci := 3) (C := R_BW) (T := T_BW) (N := 3) hx hb hT in_BW ty_BW tyok_BW nm_BW hown hK hP hD hS 4 rfl rfl 1 (by decide) (hT _ m_200) (fun _ h9 => h9) rfl (ty := .int) (by decide +kernel) rfl rfl (by decide : 1 < 3) d_BW_divide_110 (fun H locs hP hD hS => ?_)
                have hP : va_P D cls (gC cI cL cC ad X len tk row dig pw x13 lost_11 lim_12) H := hP
                have hD : va_D A (gC cI cL cC ad X len tk row dig pw x13 lost_11 lim_12) := hD
                refine lv_goto (tgt := 80) hx hb d_BW_divide_113 rfl ?_
                exact ih _ _ _ ls _ _ (lv_sub hl [0] rfl) hP hD hS h
        exact hL80 n _ _ _ ls _ _ (lv_sub hl [0] rfl) hP hD hS h
      refine lv_if_ne (tgt := 72) hx hb d_BW_divide_63 rfl (fun hc => ?_) (fun hc => ?_)
      · have e_x6 := e_x6.trans (if_pos hc)
        refine lv_iconst hx hb d_BW_divide_72 ic_1 ?_
        refine lv_goto (tgt := 77) hx hb d_BW_divide_73 rfl ?_
        exact hJ77 _ ls e_x6 (lv_sub hl [0] rfl)
      · have hc := not_not_intro hc
        have e_x6 := e_x6.trans (if_neg hc)
        refine lv_lload_n hx hb d_BW_divide_66 rfl (lv_at hl 1 rfl) ?_
        refine lv_lconst hx hb d_BW_divide_67 lc_0 ?_
        refine W.lcmp hx hb d_BW_divide_68 ?_
        refine lv_if_eq (tgt := 76) hx hb d_BW_divide_69 rfl (fun hc => ?_) (fun hc => ?_)
        · have hc := (lg_cmp_eq _ _).mp hc
          have e_x6 := e_x6.trans (if_pos hc)
          refine lv_iconst hx hb d_BW_divide_76 ic_0 ?_
          exact hJ77 _ ls e_x6 (lv_sub hl [0] rfl)
        · have hc := mt (lg_cmp_eq _ _).mpr hc
          have e_x6 := e_x6.trans (if_neg hc)
          refine lv_iconst hx hb d_BW_divide_72 ic_1 ?_
          refine lv_goto (tgt := 77) hx hb d_BW_divide_73 rfl ?_
          exact hJ77 _ ls e_x6 (lv_sub hl [0] rfl)
    have hL17 : ∀ (n : Nat) (y14 : Int64) (y15 : Int32) (used_16 : Int32) (lost_17 : Int32) (lim_18 : (Nat → Int64)) (ls : Array Slot) (H : Heap) (locs : List Loc), lv_has ls 8 [(0, .ref (ad 4)), (1, .long a1), (3, .long y14), (5, .int y15)] → va_P D cls (gC cI cL cC ad X len tk row dig pw used_16 lost_17 lim_18) H → va_D A (gC cI cL cC ad X len tk row dig pw used_16 lost_17 lim_18) → va_S A s.heap H locs → F_BW_divide_L17 a1 j58 n y14 y15 used_16 lost_17 lim_18 = some r → W p l e ({ frames := 0, cells := 0, slots := 0, locals := 0 } : Room) s m args below meth c H locs 0 0 Q (F0 m 17 ls []) := by
      intro n
      induction n with
      | zero => intro y14 y15 used_16 lost_17 lim_18 ls H locs hl hP hD hS h; exact no_s h
      | succ n ih =>
        intro y14 y15 used_16 lost_17 lim_18 ls H locs hl hP hD hS h
        have h : (if y15 < 0 then (j58 y14 used_16 lost_17 lim_18) else (gz_ (y15 < 0 ∨ 36 ≤ (y15).toNatClampNeg) <| lt_ ((y14 <<< (((32 : Int32)).toInt64 &&& 63)) ||| (lim_18 (y15).toNatClampNeg)) fun x19 => gz_ (a1 = 0) <| gz_ (y15 < 0 ∨ 36 ≤ (y15).toNatClampNeg) <| lt_ (vp_updL lim_18 (y15).toNatClampNeg (x19 / a1)) fun lim_20 => gz_ (a1 = 0) <| lt_ (x19 - x19 / a1 * a1) fun x21 => lt_ (y15 + Int32.ofInt (-1)) fun x22 => F_BW_divide_L17 a1 j58 n x21 x22 used_16 lost_17 lim_20)) = some r := h
        refine lv_iload hx hb d_BW_divide_17 (lv_at hl 3 rfl) ?_
        refine lv_if_lt (tgt := 58) hx hb d_BW_divide_19 rfl (fun hc => ?_) (fun hc => ?_)
        · have h := ite_t hc h
          exact hJ58 _ _ _ _ ls _ _ (lv_sub hl [0, 2] rfl) hP hD hS h
        · have h := ite_f hc h
          refine lv_lload_n hx hb d_BW_divide_22 rfl (lv_at hl 2 rfl) ?_
          refine lv_bipush hx hb d_BW_divide_23 bp_32 ?_
          refine lv_lshl hx hb d_BW_divide_25 rfl ?_
          refine lv_aload_n hx hb d_BW_divide_26 rfl (lv_at hl 0 rfl) ?_
          refine va_get (D := D) (ci := 3) (C := R_BW) (T := T_BW) (N := 3) hx hb hT in_BW hown hK hP 4 rfl rfl 0 (by decide) (hT _ m_201) (fun _ h9 => h9) rfl d_BW_divide_27 ?_
          refine lv_iload hx hb d_BW_divide_30 (lv_at hl 3 rfl) ?_
          have hi := gz_n h
          have h := gz_h h
          refine va_lald hx hb hK hP 5 1 rfl rfl hi d_BW_divide_32 ?_
          refine lv_lor hx hb d_BW_divide_33 ?_
          refine lv_topl (fun x19 e_x19 => ?_)
          have h := lt_h e_x19 h
          refine lv_lstore hx hb d_BW_divide_34 hl (by decide) rfl (fun ls hl => ?_)
          have hl : lv_has ls 8 [(6, .long x19), (0, .ref (ad 4)), (1, .long a1), (3, .long y14), (5, .int y15)] := hl
          refine lv_aload_n hx hb d_BW_divide_36 rfl (lv_at hl 1 rfl) ?_
          refine va_get (D := D) (ci := 3) (C := R_BW) (T := T_BW) (N := 3) hx hb hT in_BW hown hK hP 4 rfl rfl 0 (by decide) (hT _ m_201) (fun _ h9 => h9) rfl d_BW_divide_37 ?_
          refine lv_iload hx hb d_BW_divide_40 (lv_at hl 4 rfl) ?_
          refine lv_lload hx hb d_BW_divide_42 (lv_at hl 0 rfl) ?_
          refine lv_lload_n hx hb d_BW_divide_44 rfl (lv_at hl 2 rfl) ?_
          have hz := gz_n h
          have h := gz_h h
          refine lv_ldiv hx hb d_BW_divide_45 hz ?_
          have hi := gz_n h
          have h := gz_h h
          refine va_last hx hb hK hP hD hS 5 1 rfl rfl hi d_BW_divide_46 (fun H locs hP hD hS => ?_)
          have hP : va_P D cls (gC cI cL cC ad X len tk row dig pw used_16 lost_17 (vp_updL lim_18 (y15).toNatClampNeg (x19 / a1))) H := hP
          have hD : va_D A (gC cI cL cC ad X len tk row dig pw used_16 lost_17 (vp_updL lim_18 (y15).toNatClampNeg (x19 / a1))) := hD
          obtain ⟨lim_20, e_lim_20, h⟩ := lt_o h
          rw [← e_lim_20] at hP hD
          refine lv_lload hx hb d_BW_divide_47 (lv_at hl 0 rfl) ?_
          refine lv_lload_n hx hb d_BW_divide_49 rfl (lv_at hl 2 rfl) ?_
          have hz := gz_n h
          have h := gz_h h
          refine lv_lrem hx hb d_BW_divide_50 hz ?_
          refine lv_topl (fun x21 e_x21 => ?_)
          have h := lt_h e_x21 h
          refine lv_lstore_n hx hb d_BW_divide_51 rfl hl (by decide) rfl (fun ls hl => ?_)
          have hl : lv_has ls 8 [(3, .long x21), (6, .long x19), (0, .ref (ad 4)), (1, .long a1), (5, .int y15)] := hl
          obtain ⟨x22, e_x22⟩ : ∃ z, z = y15 + Int32.ofInt (-1) := ⟨_, rfl⟩
          have h := lt_h e_x22 h
          refine lv_iinc (k := 4) hx hb d_BW_divide_52 hl rfl e_x22.symm (by decide) rfl (fun ls hl => ?_)
          have hl : lv_has ls 8 [(5, .int x22), (3, .long x21), (6, .long x19), (0, .ref (ad 4)), (1, .long a1)] := hl
          refine lv_goto (tgt := 17) hx hb d_BW_divide_55 rfl ?_
          exact ih _ _ _ _ _ ls _ _ (lv_sub hl [3, 4, 1, 0] rfl) hP hD hS h
    exact hL17 n _ _ _ _ _ ls _ _ (lv_sub hl [2, 3, 1, 0] rfl) hP hD hS h
  · have hc := not_not_intro ((lg_cmp_eq _ _).mp hc)
    have h := ite_f hc h
    obtain rfl := Option.some.inj h
    exact hret 6 ls _ _ hP hD hS d_BW_divide_6
