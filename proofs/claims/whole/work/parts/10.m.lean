-- PB_isArithmetic
theorem d_PB_isArithmetic_0 : decode b_PB_isArithmetic 0 = .ok (.iload_n 0, 1) := by decide +kernel
theorem d_PB_isArithmetic_1 : decode b_PB_isArithmetic 1 = .ok (.iconst 3, 1) := by decide +kernel
theorem d_PB_isArithmetic_2 : decode b_PB_isArithmetic 2 = .ok (.if_icmp .lt 13, 3) := by decide +kernel
theorem d_PB_isArithmetic_5 : decode b_PB_isArithmetic 5 = .ok (.iload_n 0, 1) := by decide +kernel
theorem d_PB_isArithmetic_6 : decode b_PB_isArithmetic 6 = .ok (.bipush 6, 2) := by decide +kernel
theorem d_PB_isArithmetic_8 : decode b_PB_isArithmetic 8 = .ok (.if_icmp .gt 7, 3) := by decide +kernel
theorem d_PB_isArithmetic_11 : decode b_PB_isArithmetic 11 = .ok (.iconst 1, 1) := by decide +kernel
theorem d_PB_isArithmetic_12 : decode b_PB_isArithmetic 12 = .ok (.goto 4, 3) := by decide +kernel
theorem d_PB_isArithmetic_15 : decode b_PB_isArithmetic 15 = .ok (.iconst 0, 1) := by decide +kernel
theorem d_PB_isArithmetic_16 : decode b_PB_isArithmetic 16 = .ok (.ireturn, 1) := by decide +kernel
def F_PB_isArithmetic (a0 : Int32) : Int32 := lt_ (if a0 < (3 : Int32) then (0 : Int32) else if (6 : Int32) < a0 then (0 : Int32) else (1 : Int32)) fun x1 => x1
set_option maxHeartbeats 4000000 in
set_option maxRecDepth 100000 in
theorem c_PB_isArithmetic (l : Launch) (a0 : Int32) : Met l y_PB_isArithmetic (.code y_PB_isArithmetic b_PB_isArithmetic 1 (some .boolean) :: BIG) ({ frames := 0, cells := 0, slots := 0, locals := 0 } : Room) (va_Pc [.int a0] (pre0)) (pQ (.int (F_PB_isArithmetic a0))) 0 0 (fun _ => False) := by
  refine pOpen_z rfl (Nat.le_of_ble_eq_true rfl) ?_
  intro p e s m args below meth c Q ls hx hb hml hown hts hT hp hl hret
  have hNB := hp
  have hown : s.vm.findClass R_PB = some m.cls := hown
  have hl : lv_has ls 1 [(0, .int a0)] := hl
  obtain ⟨r, h⟩ : ∃ r, F_PB_isArithmetic a0 = r := ⟨_, rfl⟩
  rw [h] at hret
  have h : (lt_ (if a0 < (3 : Int32) then (0 : Int32) else if (6 : Int32) < a0 then (0 : Int32) else (1 : Int32)) fun x1 => x1) = r := h
  refine lv_iload_n hx hb d_PB_isArithmetic_0 rfl (lv_at hl 0 rfl) ?_
  refine lv_iconst hx hb d_PB_isArithmetic_1 ic_3 ?_
  obtain ⟨x1, e_x1, h⟩ := lt_o h
  have hJ16 : ∀ (x1' : Int32) (ls : Array Slot), x1 = x1' → lv_has ls 1 [] → W p l e ({ frames := 0, cells := 0, slots := 0, locals := 0 } : Room) s m args below meth c s.heap [] 0 0 Q (F0 m 16 ls [.int x1']) := by
    intro x1' ls q_x1 hl
    subst q_x1
    exact hret 16 ls _ h d_PB_isArithmetic_16 (nb_1 ((by rw [e_x1]; exact ite01 (Or.inl rfl) (ite01 (Or.inl rfl) (Or.inr rfl)))))
  refine lv_icmp_lt (tgt := 15) hx hb d_PB_isArithmetic_2 rfl (fun hc => ?_) (fun hc => ?_)
  · have e_x1 := e_x1.trans (if_pos hc)
    refine lv_iconst hx hb d_PB_isArithmetic_15 ic_0 ?_
    exact hJ16 _ ls e_x1 (lv_sub hl [] rfl)
  · have e_x1 := e_x1.trans (if_neg hc)
    refine lv_iload_n hx hb d_PB_isArithmetic_5 rfl (lv_at hl 0 rfl) ?_
    refine lv_bipush hx hb d_PB_isArithmetic_6 bp_6 ?_
    refine lv_icmp_gt (tgt := 15) hx hb d_PB_isArithmetic_8 rfl (fun hc => ?_) (fun hc => ?_)
    · have e_x1 := e_x1.trans (if_pos hc)
      refine lv_iconst hx hb d_PB_isArithmetic_15 ic_0 ?_
      exact hJ16 _ ls e_x1 (lv_sub hl [] rfl)
    · have e_x1 := e_x1.trans (if_neg hc)
      refine lv_iconst hx hb d_PB_isArithmetic_11 ic_1 ?_
      refine lv_goto (tgt := 16) hx hb d_PB_isArithmetic_12 rfl ?_
      exact hJ16 _ ls e_x1 (lv_sub hl [] rfl)
-- PB_isWhole
theorem d_PB_isWhole_0 : decode b_PB_isWhole 0 = .ok (.iload_n 0, 1) := by decide +kernel
theorem d_PB_isWhole_1 : decode b_PB_isWhole 1 = .ok (.iconst 4, 1) := by decide +kernel
theorem d_PB_isWhole_2 : decode b_PB_isWhole 2 = .ok (.if_icmp .gt 7, 3) := by decide +kernel
theorem d_PB_isWhole_5 : decode b_PB_isWhole 5 = .ok (.iconst 1, 1) := by decide +kernel
theorem d_PB_isWhole_6 : decode b_PB_isWhole 6 = .ok (.goto 4, 3) := by decide +kernel
theorem d_PB_isWhole_9 : decode b_PB_isWhole 9 = .ok (.iconst 0, 1) := by decide +kernel
theorem d_PB_isWhole_10 : decode b_PB_isWhole 10 = .ok (.ireturn, 1) := by decide +kernel
def F_PB_isWhole (a0 : Int32) : Int32 := lt_ (if (4 : Int32) < a0 then (0 : Int32) else (1 : Int32)) fun x1 => x1
set_option maxHeartbeats 4000000 in
set_option maxRecDepth 100000 in
theorem c_PB_isWhole (l : Launch) (a0 : Int32) : Met l y_PB_isWhole (.code y_PB_isWhole b_PB_isWhole 1 (some .boolean) :: BIG) ({ frames := 0, cells := 0, slots := 0, locals := 0 } : Room) (va_Pc [.int a0] (pre0)) (pQ (.int (F_PB_isWhole a0))) 0 0 (fun _ => False) := by
  refine pOpen_z rfl (Nat.le_of_ble_eq_true rfl) ?_
  intro p e s m args below meth c Q ls hx hb hml hown hts hT hp hl hret
  have hNB := hp
  have hown : s.vm.findClass R_PB = some m.cls := hown
  have hl : lv_has ls 1 [(0, .int a0)] := hl
  obtain ⟨r, h⟩ : ∃ r, F_PB_isWhole a0 = r := ⟨_, rfl⟩
  rw [h] at hret
  have h : (lt_ (if (4 : Int32) < a0 then (0 : Int32) else (1 : Int32)) fun x1 => x1) = r := h
  refine lv_iload_n hx hb d_PB_isWhole_0 rfl (lv_at hl 0 rfl) ?_
  refine lv_iconst hx hb d_PB_isWhole_1 ic_4 ?_
  obtain ⟨x1, e_x1, h⟩ := lt_o h
  have hJ10 : ∀ (x1' : Int32) (ls : Array Slot), x1 = x1' → lv_has ls 1 [] → W p l e ({ frames := 0, cells := 0, slots := 0, locals := 0 } : Room) s m args below meth c s.heap [] 0 0 Q (F0 m 10 ls [.int x1']) := by
    intro x1' ls q_x1 hl
    subst q_x1
    exact hret 10 ls _ h d_PB_isWhole_10 (nb_1 ((by rw [e_x1]; exact ite01 (Or.inl rfl) (Or.inr rfl))))
  refine lv_icmp_gt (tgt := 9) hx hb d_PB_isWhole_2 rfl (fun hc => ?_) (fun hc => ?_)
  · have e_x1 := e_x1.trans (if_pos hc)
    refine lv_iconst hx hb d_PB_isWhole_9 ic_0 ?_
    exact hJ10 _ ls e_x1 (lv_sub hl [] rfl)
  · have e_x1 := e_x1.trans (if_neg hc)
    refine lv_iconst hx hb d_PB_isWhole_5 ic_1 ?_
    refine lv_goto (tgt := 10) hx hb d_PB_isWhole_6 rfl ?_
    exact hJ10 _ ls e_x1 (lv_sub hl [] rfl)
-- PB_lastOperator
theorem d_PB_lastOperator_0 : decode b_PB_lastOperator 0 = .ok (.iload_n 0, 1) := by decide +kernel
theorem d_PB_lastOperator_1 : decode b_PB_lastOperator 1 = .ok (.invokestatic 38, 3) := by decide +kernel
theorem d_PB_lastOperator_4 : decode b_PB_lastOperator 4 = .ok (.ifCond .eq 8, 3) := by decide +kernel
theorem d_PB_lastOperator_7 : decode b_PB_lastOperator 7 = .ok (.bipush 10, 2) := by decide +kernel
theorem d_PB_lastOperator_9 : decode b_PB_lastOperator 9 = .ok (.goto 4, 3) := by decide +kernel
theorem d_PB_lastOperator_12 : decode b_PB_lastOperator 12 = .ok (.iconst 4, 1) := by decide +kernel
theorem d_PB_lastOperator_13 : decode b_PB_lastOperator 13 = .ok (.ireturn, 1) := by decide +kernel
def F_PB_lastOperator (a0 : Int32) : Int32 := lt_ (if (F_PB_isWhole a0) = 0 then (4 : Int32) else (10 : Int32)) fun x1 => x1
set_option maxHeartbeats 4000000 in
set_option maxRecDepth 100000 in
theorem c_PB_lastOperator (l : Launch) (a0 : Int32) : Met l y_PB_lastOperator (.code y_PB_lastOperator b_PB_lastOperator 1 (some .int) :: BIG) ({ frames := 1, cells := 0, slots := 0, locals := 20 } : Room) (va_Pc [.int a0] (pre0)) (pQ (.int (F_PB_lastOperator a0))) 0 0 (fun _ => False) := by
  refine pOpen_i rfl (Nat.le_of_ble_eq_true rfl) ?_
  intro p e s m args below meth c Q ls hx hb hml hown hts hT hp hl hret
  have hNB := hp
  have hown : s.vm.findClass R_PB = some m.cls := hown
  have hl : lv_has ls 1 [(0, .int a0)] := hl
  obtain ⟨r, h⟩ : ∃ r, F_PB_lastOperator a0 = r := ⟨_, rfl⟩
  rw [h] at hret
  have h : (lt_ (if (F_PB_isWhole a0) = 0 then (4 : Int32) else (10 : Int32)) fun x1 => x1) = r := h
  refine lv_iload_n hx hb d_PB_lastOperator_0 rfl (lv_at hl 0 rfl) ?_
  refine q_S (As := [.int a0]) (rest := []) (n := 1) hx hb hml hown hts (c_PB_isWhole l a0) rfl rfl m_0 m_1 m_2 m_3 (by decide +kernel) ⟨Nat.le_of_ble_eq_true rfl, Nat.le_of_ble_eq_true rfl⟩ (p0_bl) (fun U hU hW => p0_mv hU hW hNB) rfl hl.1 rfl (Nat.le_of_ble_eq_true rfl) d_PB_lastOperator_1 ⟨Nat.zero_le _, Nat.zero_le _⟩ ?_
  obtain ⟨x1, e_x1, h⟩ := lt_o h
  have hJ13 : ∀ (x1' : Int32) (ls : Array Slot), x1 = x1' → lv_has ls 1 [] → W p l e ({ frames := 1, cells := 0, slots := 0, locals := 20 } : Room) s m args below meth c s.heap [] 0 0 Q (F0 m 13 ls [.int x1']) := by
    intro x1' ls q_x1 hl
    subst q_x1
    exact hret 13 ls _ h d_PB_lastOperator_13
  refine lv_if_eq (tgt := 12) hx hb d_PB_lastOperator_4 rfl (fun hc => ?_) (fun hc => ?_)
  · have e_x1 := e_x1.trans (if_pos hc)
    refine lv_iconst hx hb d_PB_lastOperator_12 ic_4 ?_
    exact hJ13 _ ls e_x1 (lv_sub hl [] rfl)
  · have e_x1 := e_x1.trans (if_neg hc)
    refine lv_bipush hx hb d_PB_lastOperator_7 bp_10 ?_
    refine lv_goto (tgt := 13) hx hb d_PB_lastOperator_9 rfl ?_
    exact hJ13 _ ls e_x1 (lv_sub hl [] rfl)
-- PB_wholeOf
theorem d_PB_wholeOf_0 : decode b_PB_wholeOf 0 = .ok (.iload_n 2, 1) := by decide +kernel
theorem d_PB_wholeOf_1 : decode b_PB_wholeOf 1 = .ok (.tableswitch 50 0 3 #[31, 36, 41, 46], 31) := by decide +kernel
theorem d_PB_wholeOf_32 : decode b_PB_wholeOf 32 = .ok (.lload_n 0, 1) := by decide +kernel
theorem d_PB_wholeOf_33 : decode b_PB_wholeOf 33 = .ok (.l2i, 1) := by decide +kernel
theorem d_PB_wholeOf_34 : decode b_PB_wholeOf 34 = .ok (.i2c, 1) := by decide +kernel
theorem d_PB_wholeOf_35 : decode b_PB_wholeOf 35 = .ok (.i2l, 1) := by decide +kernel
theorem d_PB_wholeOf_36 : decode b_PB_wholeOf 36 = .ok (.lreturn, 1) := by decide +kernel
theorem d_PB_wholeOf_37 : decode b_PB_wholeOf 37 = .ok (.lload_n 0, 1) := by decide +kernel
theorem d_PB_wholeOf_38 : decode b_PB_wholeOf 38 = .ok (.l2i, 1) := by decide +kernel
theorem d_PB_wholeOf_39 : decode b_PB_wholeOf 39 = .ok (.i2b, 1) := by decide +kernel
theorem d_PB_wholeOf_40 : decode b_PB_wholeOf 40 = .ok (.i2l, 1) := by decide +kernel
theorem d_PB_wholeOf_41 : decode b_PB_wholeOf 41 = .ok (.lreturn, 1) := by decide +kernel
theorem d_PB_wholeOf_42 : decode b_PB_wholeOf 42 = .ok (.lload_n 0, 1) := by decide +kernel
theorem d_PB_wholeOf_43 : decode b_PB_wholeOf 43 = .ok (.l2i, 1) := by decide +kernel
theorem d_PB_wholeOf_44 : decode b_PB_wholeOf 44 = .ok (.i2s, 1) := by decide +kernel
theorem d_PB_wholeOf_45 : decode b_PB_wholeOf 45 = .ok (.i2l, 1) := by decide +kernel
theorem d_PB_wholeOf_46 : decode b_PB_wholeOf 46 = .ok (.lreturn, 1) := by decide +kernel
theorem d_PB_wholeOf_47 : decode b_PB_wholeOf 47 = .ok (.lload_n 0, 1) := by decide +kernel
theorem d_PB_wholeOf_48 : decode b_PB_wholeOf 48 = .ok (.l2i, 1) := by decide +kernel
theorem d_PB_wholeOf_49 : decode b_PB_wholeOf 49 = .ok (.i2l, 1) := by decide +kernel
theorem d_PB_wholeOf_50 : decode b_PB_wholeOf 50 = .ok (.lreturn, 1) := by decide +kernel
theorem d_PB_wholeOf_51 : decode b_PB_wholeOf 51 = .ok (.lload_n 0, 1) := by decide +kernel
theorem d_PB_wholeOf_52 : decode b_PB_wholeOf 52 = .ok (.lreturn, 1) := by decide +kernel
def F_PB_wholeOf (a0 : Int64) (a1 : Int32) : Int64 := if a1 = (0 : Int32) then (((((a0).toInt32).toUInt32 % 65536).toInt32).toInt64) else if a1 = (1 : Int32) then ((((a0).toInt32).toInt8.toInt32).toInt64) else if a1 = (2 : Int32) then ((((a0).toInt32).toInt16.toInt32).toInt64) else if a1 = (3 : Int32) then (((a0).toInt32).toInt64) else a0
set_option maxHeartbeats 4000000 in
set_option maxRecDepth 100000 in
theorem c_PB_wholeOf (l : Launch) (a0 : Int64) (a1 : Int32) : Met l y_PB_wholeOf (.code y_PB_wholeOf b_PB_wholeOf 3 (some .long) :: BIG) ({ frames := 0, cells := 0, slots := 0, locals := 0 } : Room) (va_Pc [.long a0, .int a1] (pre0)) (pQ (.long (F_PB_wholeOf a0 a1))) 0 0 (fun _ => False) := by
  refine pOpen_l rfl (Nat.le_of_ble_eq_true rfl) ?_
  intro p e s m args below meth c Q ls hx hb hml hown hts hT hp hl hret
  have hNB := hp
  have hown : s.vm.findClass R_PB = some m.cls := hown
  have hl : lv_has ls 3 [(0, .long a0), (2, .int a1)] := hl
  obtain ⟨r, h⟩ : ∃ r, F_PB_wholeOf a0 a1 = r := ⟨_, rfl⟩
  rw [h] at hret
  have h : (if a1 = (0 : Int32) then (((((a0).toInt32).toUInt32 % 65536).toInt32).toInt64) else if a1 = (1 : Int32) then ((((a0).toInt32).toInt8.toInt32).toInt64) else if a1 = (2 : Int32) then ((((a0).toInt32).toInt16.toInt32).toInt64) else if a1 = (3 : Int32) then (((a0).toInt32).toInt64) else a0) = r := h
  refine lv_iload_n hx hb d_PB_wholeOf_0 rfl (lv_at hl 1 rfl) ?_
  by_cases hc0 : a1 = (0 : Int32)
  · have h := ite_t hc0 h
    refine lv_tableIn (off := 31) (tgt := 32) hx hb d_PB_wholeOf_1 (by rw [hc0]; decide) (by rw [hc0]; decide) (by rw [hc0]; rfl) rfl ?_
    refine lv_lload_n hx hb d_PB_wholeOf_32 rfl (lv_at hl 0 rfl) ?_
    refine lv_l2i hx hb d_PB_wholeOf_33 rfl ?_
    refine lv_i2c hx hb d_PB_wholeOf_34 rfl ?_
    refine lv_i2l hx hb d_PB_wholeOf_35 rfl ?_
    exact hret 36 ls _ h d_PB_wholeOf_36
  have h := ite_f hc0 h
  by_cases hc1 : a1 = (1 : Int32)
  · have h := ite_t hc1 h
    refine lv_tableIn (off := 36) (tgt := 37) hx hb d_PB_wholeOf_1 (by rw [hc1]; decide) (by rw [hc1]; decide) (by rw [hc1]; rfl) rfl ?_
    refine lv_lload_n hx hb d_PB_wholeOf_37 rfl (lv_at hl 0 rfl) ?_
    refine lv_l2i hx hb d_PB_wholeOf_38 rfl ?_
    refine lv_i2b hx hb d_PB_wholeOf_39 rfl ?_
    refine lv_i2l hx hb d_PB_wholeOf_40 rfl ?_
    exact hret 41 ls _ h d_PB_wholeOf_41
  have h := ite_f hc1 h
  by_cases hc2 : a1 = (2 : Int32)
  · have h := ite_t hc2 h
    refine lv_tableIn (off := 41) (tgt := 42) hx hb d_PB_wholeOf_1 (by rw [hc2]; decide) (by rw [hc2]; decide) (by rw [hc2]; rfl) rfl ?_
    refine lv_lload_n hx hb d_PB_wholeOf_42 rfl (lv_at hl 0 rfl) ?_
    refine lv_l2i hx hb d_PB_wholeOf_43 rfl ?_
    refine lv_i2s hx hb d_PB_wholeOf_44 rfl ?_
    refine lv_i2l hx hb d_PB_wholeOf_45 rfl ?_
    exact hret 46 ls _ h d_PB_wholeOf_46
  have h := ite_f hc2 h
  by_cases hc3 : a1 = (3 : Int32)
  · have h := ite_t hc3 h
    refine lv_tableIn (off := 46) (tgt := 47) hx hb d_PB_wholeOf_1 (by rw [hc3]; decide) (by rw [hc3]; decide) (by rw [hc3]; rfl) rfl ?_
    refine lv_lload_n hx hb d_PB_wholeOf_47 rfl (lv_at hl 0 rfl) ?_
    refine lv_l2i hx hb d_PB_wholeOf_48 rfl ?_
    refine lv_i2l hx hb d_PB_wholeOf_49 rfl ?_
    exact hret 50 ls _ h d_PB_wholeOf_50
  have h := ite_f hc3 h
  refine lv_tableOut (tgt := 51) hx hb d_PB_wholeOf_1 (by have n0 := lv_neT hc0 (show ((0 : Int32)).toInt = 0 from rfl); have n1 := lv_neT hc1 (show ((1 : Int32)).toInt = 1 from rfl); have n2 := lv_neT hc2 (show ((2 : Int32)).toInt = 2 from rfl); have n3 := lv_neT hc3 (show ((3 : Int32)).toInt = 3 from rfl); omega) rfl ?_
  refine lv_lload_n hx hb d_PB_wholeOf_51 rfl (lv_at hl 0 rfl) ?_
  exact hret 52 ls _ h d_PB_wholeOf_52
-- PB_order
theorem d_PB_order_0 : decode b_PB_order 0 = .ok (.lload_n 0, 1) := by decide +kernel
theorem d_PB_order_1 : decode b_PB_order 1 = .ok (.lload_n 2, 1) := by decide +kernel
theorem d_PB_order_2 : decode b_PB_order 2 = .ok (.lcmp, 1) := by decide +kernel
theorem d_PB_order_3 : decode b_PB_order 3 = .ok (.ifCond .ge 7, 3) := by decide +kernel
theorem d_PB_order_6 : decode b_PB_order 6 = .ok (.iconst (-1), 1) := by decide +kernel
theorem d_PB_order_7 : decode b_PB_order 7 = .ok (.goto 14, 3) := by decide +kernel
theorem d_PB_order_10 : decode b_PB_order 10 = .ok (.lload_n 0, 1) := by decide +kernel
theorem d_PB_order_11 : decode b_PB_order 11 = .ok (.lload_n 2, 1) := by decide +kernel
theorem d_PB_order_12 : decode b_PB_order 12 = .ok (.lcmp, 1) := by decide +kernel
theorem d_PB_order_13 : decode b_PB_order 13 = .ok (.ifCond .le 7, 3) := by decide +kernel
theorem d_PB_order_16 : decode b_PB_order 16 = .ok (.iconst 1, 1) := by decide +kernel
theorem d_PB_order_17 : decode b_PB_order 17 = .ok (.goto 4, 3) := by decide +kernel
theorem d_PB_order_20 : decode b_PB_order 20 = .ok (.iconst 0, 1) := by decide +kernel
theorem d_PB_order_21 : decode b_PB_order 21 = .ok (.ireturn, 1) := by decide +kernel
def F_PB_order (a0 : Int64) (a1 : Int64) : Int32 := lt_ (if a1 ≤ a0 then if a0 ≤ a1 then (0 : Int32) else (1 : Int32) else (-1 : Int32)) fun x1 => x1
set_option maxHeartbeats 4000000 in
set_option maxRecDepth 100000 in
theorem c_PB_order (l : Launch) (a0 : Int64) (a1 : Int64) : Met l y_PB_order (.code y_PB_order b_PB_order 4 (some .int) :: BIG) ({ frames := 0, cells := 0, slots := 0, locals := 0 } : Room) (va_Pc [.long a0, .long a1] (pre0)) (pQ (.int (F_PB_order a0 a1))) 0 0 (fun _ => False) := by
  refine pOpen_i rfl (Nat.le_of_ble_eq_true rfl) ?_
  intro p e s m args below meth c Q ls hx hb hml hown hts hT hp hl hret
  have hNB := hp
  have hown : s.vm.findClass R_PB = some m.cls := hown
  have hl : lv_has ls 4 [(0, .long a0), (2, .long a1)] := hl
  obtain ⟨r, h⟩ : ∃ r, F_PB_order a0 a1 = r := ⟨_, rfl⟩
  rw [h] at hret
  have h : (lt_ (if a1 ≤ a0 then if a0 ≤ a1 then (0 : Int32) else (1 : Int32) else (-1 : Int32)) fun x1 => x1) = r := h
  refine lv_lload_n hx hb d_PB_order_0 rfl (lv_at hl 0 rfl) ?_
  refine lv_lload_n hx hb d_PB_order_1 rfl (lv_at hl 1 rfl) ?_
  refine W.lcmp hx hb d_PB_order_2 ?_
  obtain ⟨x1, e_x1, h⟩ := lt_o h
  have hJ21 : ∀ (x1' : Int32) (ls : Array Slot), x1 = x1' → lv_has ls 4 [] → W p l e ({ frames := 0, cells := 0, slots := 0, locals := 0 } : Room) s m args below meth c s.heap [] 0 0 Q (F0 m 21 ls [.int x1']) := by
    intro x1' ls q_x1 hl
    subst q_x1
    exact hret 21 ls _ h d_PB_order_21
  refine lv_if_ge (tgt := 10) hx hb d_PB_order_3 rfl (fun hc => ?_) (fun hc => ?_)
  · have hc := (lg_cmp_ge _ _).mp hc
    have e_x1 := e_x1.trans (if_pos hc)
    refine lv_lload_n hx hb d_PB_order_10 rfl (lv_at hl 0 rfl) ?_
    refine lv_lload_n hx hb d_PB_order_11 rfl (lv_at hl 1 rfl) ?_
    refine W.lcmp hx hb d_PB_order_12 ?_
    refine lv_if_le (tgt := 20) hx hb d_PB_order_13 rfl (fun hc => ?_) (fun hc => ?_)
    · have hc := (lg_cmp_le _ _).mp hc
      have e_x1 := e_x1.trans (if_pos hc)
      refine lv_iconst hx hb d_PB_order_20 ic_0 ?_
      exact hJ21 _ ls e_x1 (lv_sub hl [] rfl)
    · have hc := mt (lg_cmp_le _ _).mpr hc
      have e_x1 := e_x1.trans (if_neg hc)
      refine lv_iconst hx hb d_PB_order_16 ic_1 ?_
      refine lv_goto (tgt := 21) hx hb d_PB_order_17 rfl ?_
      exact hJ21 _ ls e_x1 (lv_sub hl [] rfl)
  · have hc := mt (lg_cmp_ge _ _).mpr hc
    have e_x1 := e_x1.trans (if_neg hc)
    refine lv_iconst hx hb d_PB_order_6 ic_m1 ?_
    refine lv_goto (tgt := 21) hx hb d_PB_order_7 rfl ?_
    exact hJ21 _ ls e_x1 (lv_sub hl [] rfl)
-- PB_shiftedInt
theorem d_PB_shiftedInt_0 : decode b_PB_shiftedInt 0 = .ok (.iload_n 0, 1) := by decide +kernel
theorem d_PB_shiftedInt_1 : decode b_PB_shiftedInt 1 = .ok (.lookupswitch 43 #[(8, 27), (9, 35)], 27) := by decide +kernel
theorem d_PB_shiftedInt_28 : decode b_PB_shiftedInt 28 = .ok (.iload_n 1, 1) := by decide +kernel
theorem d_PB_shiftedInt_29 : decode b_PB_shiftedInt 29 = .ok (.iload_n 2, 1) := by decide +kernel
theorem d_PB_shiftedInt_30 : decode b_PB_shiftedInt 30 = .ok (.bipush 31, 2) := by decide +kernel
theorem d_PB_shiftedInt_32 : decode b_PB_shiftedInt 32 = .ok (.iand, 1) := by decide +kernel
theorem d_PB_shiftedInt_33 : decode b_PB_shiftedInt 33 = .ok (.ishl, 1) := by decide +kernel
theorem d_PB_shiftedInt_34 : decode b_PB_shiftedInt 34 = .ok (.i2l, 1) := by decide +kernel
theorem d_PB_shiftedInt_35 : decode b_PB_shiftedInt 35 = .ok (.lreturn, 1) := by decide +kernel
theorem d_PB_shiftedInt_36 : decode b_PB_shiftedInt 36 = .ok (.iload_n 1, 1) := by decide +kernel
theorem d_PB_shiftedInt_37 : decode b_PB_shiftedInt 37 = .ok (.iload_n 2, 1) := by decide +kernel
theorem d_PB_shiftedInt_38 : decode b_PB_shiftedInt 38 = .ok (.bipush 31, 2) := by decide +kernel
theorem d_PB_shiftedInt_40 : decode b_PB_shiftedInt 40 = .ok (.iand, 1) := by decide +kernel
theorem d_PB_shiftedInt_41 : decode b_PB_shiftedInt 41 = .ok (.ishr, 1) := by decide +kernel
theorem d_PB_shiftedInt_42 : decode b_PB_shiftedInt 42 = .ok (.i2l, 1) := by decide +kernel
theorem d_PB_shiftedInt_43 : decode b_PB_shiftedInt 43 = .ok (.lreturn, 1) := by decide +kernel
theorem d_PB_shiftedInt_44 : decode b_PB_shiftedInt 44 = .ok (.iload_n 1, 1) := by decide +kernel
theorem d_PB_shiftedInt_45 : decode b_PB_shiftedInt 45 = .ok (.iload_n 2, 1) := by decide +kernel
theorem d_PB_shiftedInt_46 : decode b_PB_shiftedInt 46 = .ok (.bipush 31, 2) := by decide +kernel
theorem d_PB_shiftedInt_48 : decode b_PB_shiftedInt 48 = .ok (.iand, 1) := by decide +kernel
theorem d_PB_shiftedInt_49 : decode b_PB_shiftedInt 49 = .ok (.iushr, 1) := by decide +kernel
theorem d_PB_shiftedInt_50 : decode b_PB_shiftedInt 50 = .ok (.i2l, 1) := by decide +kernel
theorem d_PB_shiftedInt_51 : decode b_PB_shiftedInt 51 = .ok (.lreturn, 1) := by decide +kernel
def F_PB_shiftedInt (a0 : Int32) (a1 : Int32) (a2 : Int32) : Int64 := if a0 = (8 : Int32) then ((a1 <<< ((a2 &&& (31 : Int32)) &&& 31)).toInt64) else if a0 = (9 : Int32) then ((a1 >>> ((a2 &&& (31 : Int32)) &&& 31)).toInt64) else ((((a1).toUInt32 >>> ((a2 &&& (31 : Int32)).toUInt32 &&& Int32.toUInt32 31)).toInt32).toInt64)
set_option maxHeartbeats 4000000 in
set_option maxRecDepth 100000 in
theorem c_PB_shiftedInt (l : Launch) (a0 : Int32) (a1 : Int32) (a2 : Int32) : Met l y_PB_shiftedInt (.code y_PB_shiftedInt b_PB_shiftedInt 3 (some .long) :: BIG) ({ frames := 0, cells := 0, slots := 0, locals := 0 } : Room) (va_Pc [.int a0, .int a1, .int a2] (pre0)) (pQ (.long (F_PB_shiftedInt a0 a1 a2))) 0 0 (fun _ => False) := by
  refine pOpen_l rfl (Nat.le_of_ble_eq_true rfl) ?_
  intro p e s m args below meth c Q ls hx hb hml hown hts hT hp hl hret
  have hNB := hp
  have hown : s.vm.findClass R_PB = some m.cls := hown
  have hl : lv_has ls 3 [(0, .int a0), (1, .int a1), (2, .int a2)] := hl
  obtain ⟨r, h⟩ : ∃ r, F_PB_shiftedInt a0 a1 a2 = r := ⟨_, rfl⟩
  rw [h] at hret
  have h : (if a0 = (8 : Int32) then ((a1 <<< ((a2 &&& (31 : Int32)) &&& 31)).toInt64) else if a0 = (9 : Int32) then ((a1 >>> ((a2 &&& (31 : Int32)) &&& 31)).toInt64) else ((((a1).toUInt32 >>> ((a2 &&& (31 : Int32)).toUInt32 &&& Int32.toUInt32 31)).toInt32).toInt64)) = r := h
  refine lv_iload_n hx hb d_PB_shiftedInt_0 rfl (lv_at hl 0 rfl) ?_
  by_cases hc8 : a0 = (8 : Int32)
  · have h := ite_t hc8 h
    refine lv_lookup (off := 27) (tgt := 28) hx hb d_PB_shiftedInt_1 (by decide) (by rw [hc8]; rfl) rfl ?_
    refine lv_iload_n hx hb d_PB_shiftedInt_28 rfl (lv_at hl 1 rfl) ?_
    refine lv_iload_n hx hb d_PB_shiftedInt_29 rfl (lv_at hl 2 rfl) ?_
    refine lv_bipush hx hb d_PB_shiftedInt_30 bp_31 ?_
    refine lv_iand hx hb d_PB_shiftedInt_32 ?_
    refine lv_ishl hx hb d_PB_shiftedInt_33 ?_
    refine lv_i2l hx hb d_PB_shiftedInt_34 rfl ?_
    exact hret 35 ls _ h d_PB_shiftedInt_35
  have h := ite_f hc8 h
  by_cases hc9 : a0 = (9 : Int32)
  · have h := ite_t hc9 h
    refine lv_lookup (off := 35) (tgt := 36) hx hb d_PB_shiftedInt_1 (by decide) (by rw [hc9]; rfl) rfl ?_
    refine lv_iload_n hx hb d_PB_shiftedInt_36 rfl (lv_at hl 1 rfl) ?_
    refine lv_iload_n hx hb d_PB_shiftedInt_37 rfl (lv_at hl 2 rfl) ?_
    refine lv_bipush hx hb d_PB_shiftedInt_38 bp_31 ?_
    refine lv_iand hx hb d_PB_shiftedInt_40 ?_
    refine lv_ishr hx hb d_PB_shiftedInt_41 ?_
    refine lv_i2l hx hb d_PB_shiftedInt_42 rfl ?_
    exact hret 43 ls _ h d_PB_shiftedInt_43
  have h := ite_f hc9 h
  refine lv_lookup (off := 43) (tgt := 44) hx hb d_PB_shiftedInt_1 (by decide) (by rw [lv_osw hc8 (show ((8 : Int32)).toInt = 8 from rfl)]; rw [lv_osw hc9 (show ((9 : Int32)).toInt = 9 from rfl)]; rfl) rfl ?_
  refine lv_iload_n hx hb d_PB_shiftedInt_44 rfl (lv_at hl 1 rfl) ?_
  refine lv_iload_n hx hb d_PB_shiftedInt_45 rfl (lv_at hl 2 rfl) ?_
  refine lv_bipush hx hb d_PB_shiftedInt_46 bp_31 ?_
  refine lv_iand hx hb d_PB_shiftedInt_48 ?_
  refine lv_iushr hx hb d_PB_shiftedInt_49 rfl ?_
  refine lv_i2l hx hb d_PB_shiftedInt_50 rfl ?_
  exact hret 51 ls _ h d_PB_shiftedInt_51
-- PB_shiftedLong
theorem d_PB_shiftedLong_0 : decode b_PB_shiftedLong 0 = .ok (.iload_n 0, 1) := by decide +kernel
theorem d_PB_shiftedLong_1 : decode b_PB_shiftedLong 1 = .ok (.lookupswitch 41 #[(8, 27), (9, 34)], 27) := by decide +kernel
theorem d_PB_shiftedLong_28 : decode b_PB_shiftedLong 28 = .ok (.lload_n 1, 1) := by decide +kernel
theorem d_PB_shiftedLong_29 : decode b_PB_shiftedLong 29 = .ok (.iload_n 3, 1) := by decide +kernel
theorem d_PB_shiftedLong_30 : decode b_PB_shiftedLong 30 = .ok (.bipush 63, 2) := by decide +kernel
theorem d_PB_shiftedLong_32 : decode b_PB_shiftedLong 32 = .ok (.iand, 1) := by decide +kernel
theorem d_PB_shiftedLong_33 : decode b_PB_shiftedLong 33 = .ok (.lshl, 1) := by decide +kernel
theorem d_PB_shiftedLong_34 : decode b_PB_shiftedLong 34 = .ok (.lreturn, 1) := by decide +kernel
theorem d_PB_shiftedLong_35 : decode b_PB_shiftedLong 35 = .ok (.lload_n 1, 1) := by decide +kernel
theorem d_PB_shiftedLong_36 : decode b_PB_shiftedLong 36 = .ok (.iload_n 3, 1) := by decide +kernel
theorem d_PB_shiftedLong_37 : decode b_PB_shiftedLong 37 = .ok (.bipush 63, 2) := by decide +kernel
theorem d_PB_shiftedLong_39 : decode b_PB_shiftedLong 39 = .ok (.iand, 1) := by decide +kernel
theorem d_PB_shiftedLong_40 : decode b_PB_shiftedLong 40 = .ok (.lshr, 1) := by decide +kernel
theorem d_PB_shiftedLong_41 : decode b_PB_shiftedLong 41 = .ok (.lreturn, 1) := by decide +kernel
theorem d_PB_shiftedLong_42 : decode b_PB_shiftedLong 42 = .ok (.lload_n 1, 1) := by decide +kernel
theorem d_PB_shiftedLong_43 : decode b_PB_shiftedLong 43 = .ok (.iload_n 3, 1) := by decide +kernel
theorem d_PB_shiftedLong_44 : decode b_PB_shiftedLong 44 = .ok (.bipush 63, 2) := by decide +kernel
theorem d_PB_shiftedLong_46 : decode b_PB_shiftedLong 46 = .ok (.iand, 1) := by decide +kernel
theorem d_PB_shiftedLong_47 : decode b_PB_shiftedLong 47 = .ok (.lushr, 1) := by decide +kernel
theorem d_PB_shiftedLong_48 : decode b_PB_shiftedLong 48 = .ok (.lreturn, 1) := by decide +kernel
def F_PB_shiftedLong (a0 : Int32) (a1 : Int64) (a2 : Int32) : Int64 := if a0 = (8 : Int32) then (a1 <<< ((a2 &&& (63 : Int32)).toInt64 &&& 63)) else if a0 = (9 : Int32) then (a1 >>> ((a2 &&& (63 : Int32)).toInt64 &&& 63)) else (((a1).toUInt64 >>> ((a2 &&& (63 : Int32)).toInt64.toUInt64 &&& Int64.toUInt64 63)).toInt64)
set_option maxHeartbeats 4000000 in
set_option maxRecDepth 100000 in
theorem c_PB_shiftedLong (l : Launch) (a0 : Int32) (a1 : Int64) (a2 : Int32) : Met l y_PB_shiftedLong (.code y_PB_shiftedLong b_PB_shiftedLong 4 (some .long) :: BIG) ({ frames := 0, cells := 0, slots := 0, locals := 0 } : Room) (va_Pc [.int a0, .long a1, .int a2] (pre0)) (pQ (.long (F_PB_shiftedLong a0 a1 a2))) 0 0 (fun _ => False) := by
  refine pOpen_l rfl (Nat.le_of_ble_eq_true rfl) ?_
  intro p e s m args below meth c Q ls hx hb hml hown hts hT hp hl hret
  have hNB := hp
  have hown : s.vm.findClass R_PB = some m.cls := hown
  have hl : lv_has ls 4 [(0, .int a0), (1, .long a1), (3, .int a2)] := hl
  obtain ⟨r, h⟩ : ∃ r, F_PB_shiftedLong a0 a1 a2 = r := ⟨_, rfl⟩
  rw [h] at hret
  have h : (if a0 = (8 : Int32) then (a1 <<< ((a2 &&& (63 : Int32)).toInt64 &&& 63)) else if a0 = (9 : Int32) then (a1 >>> ((a2 &&& (63 : Int32)).toInt64 &&& 63)) else (((a1).toUInt64 >>> ((a2 &&& (63 : Int32)).toInt64.toUInt64 &&& Int64.toUInt64 63)).toInt64)) = r := h
  refine lv_iload_n hx hb d_PB_shiftedLong_0 rfl (lv_at hl 0 rfl) ?_
  by_cases hc8 : a0 = (8 : Int32)
  · have h := ite_t hc8 h
    refine lv_lookup (off := 27) (tgt := 28) hx hb d_PB_shiftedLong_1 (by decide) (by rw [hc8]; rfl) rfl ?_
    refine lv_lload_n hx hb d_PB_shiftedLong_28 rfl (lv_at hl 1 rfl) ?_
    refine lv_iload_n hx hb d_PB_shiftedLong_29 rfl (lv_at hl 2 rfl) ?_
    refine lv_bipush hx hb d_PB_shiftedLong_30 bp_63 ?_
    refine lv_iand hx hb d_PB_shiftedLong_32 ?_
    refine lv_lshl hx hb d_PB_shiftedLong_33 rfl ?_
    exact hret 34 ls _ h d_PB_shiftedLong_34
  have h := ite_f hc8 h
  by_cases hc9 : a0 = (9 : Int32)
  · have h := ite_t hc9 h
    refine lv_lookup (off := 34) (tgt := 35) hx hb d_PB_shiftedLong_1 (by decide) (by rw [hc9]; rfl) rfl ?_
    refine lv_lload_n hx hb d_PB_shiftedLong_35 rfl (lv_at hl 1 rfl) ?_
    refine lv_iload_n hx hb d_PB_shiftedLong_36 rfl (lv_at hl 2 rfl) ?_
    refine lv_bipush hx hb d_PB_shiftedLong_37 bp_63 ?_
    refine lv_iand hx hb d_PB_shiftedLong_39 ?_
    refine lv_lshr hx hb d_PB_shiftedLong_40 rfl ?_
    exact hret 41 ls _ h d_PB_shiftedLong_41
  have h := ite_f hc9 h
  refine lv_lookup (off := 41) (tgt := 42) hx hb d_PB_shiftedLong_1 (by decide) (by rw [lv_osw hc8 (show ((8 : Int32)).toInt = 8 from rfl)]; rw [lv_osw hc9 (show ((9 : Int32)).toInt = 9 from rfl)]; rfl) rfl ?_
  refine lv_lload_n hx hb d_PB_shiftedLong_42 rfl (lv_at hl 1 rfl) ?_
  refine lv_iload_n hx hb d_PB_shiftedLong_43 rfl (lv_at hl 2 rfl) ?_
  refine lv_bipush hx hb d_PB_shiftedLong_44 bp_63 ?_
  refine lv_iand hx hb d_PB_shiftedLong_46 ?_
  refine lv_lushr hx hb d_PB_shiftedLong_47 rfl ?_
  exact hret 48 ls _ h d_PB_shiftedLong_48
-- PB_leadingZeros
theorem d_PB_leadingZeros_0 : decode b_PB_leadingZeros 0 = .ok (.iconst 0, 1) := by decide +kernel
theorem d_PB_leadingZeros_1 : decode b_PB_leadingZeros 1 = .ok (.istore_n 2, 1) := by decide +kernel
theorem d_PB_leadingZeros_2 : decode b_PB_leadingZeros 2 = .ok (.lload_n 0, 1) := by decide +kernel
theorem d_PB_leadingZeros_3 : decode b_PB_leadingZeros 3 = .ok (.lstore_n 3, 1) := by decide +kernel
theorem d_PB_leadingZeros_4 : decode b_PB_leadingZeros 4 = .ok (.bipush 32, 2) := by decide +kernel
theorem d_PB_leadingZeros_6 : decode b_PB_leadingZeros 6 = .ok (.istore 5, 2) := by decide +kernel
theorem d_PB_leadingZeros_8 : decode b_PB_leadingZeros 8 = .ok (.iload 5, 2) := by decide +kernel
theorem d_PB_leadingZeros_10 : decode b_PB_leadingZeros 10 = .ok (.ifCond .le 34, 3) := by decide +kernel
theorem d_PB_leadingZeros_13 : decode b_PB_leadingZeros 13 = .ok (.lload_n 3, 1) := by decide +kernel
theorem d_PB_leadingZeros_14 : decode b_PB_leadingZeros 14 = .ok (.bipush 64, 2) := by decide +kernel
theorem d_PB_leadingZeros_16 : decode b_PB_leadingZeros 16 = .ok (.iload 5, 2) := by decide +kernel
theorem d_PB_leadingZeros_18 : decode b_PB_leadingZeros 18 = .ok (.isub, 1) := by decide +kernel
theorem d_PB_leadingZeros_19 : decode b_PB_leadingZeros 19 = .ok (.lushr, 1) := by decide +kernel
theorem d_PB_leadingZeros_20 : decode b_PB_leadingZeros 20 = .ok (.lconst 0, 1) := by decide +kernel
theorem d_PB_leadingZeros_21 : decode b_PB_leadingZeros 21 = .ok (.lcmp, 1) := by decide +kernel
theorem d_PB_leadingZeros_22 : decode b_PB_leadingZeros 22 = .ok (.ifCond .ne 13, 3) := by decide +kernel
theorem d_PB_leadingZeros_25 : decode b_PB_leadingZeros 25 = .ok (.iload_n 2, 1) := by decide +kernel
theorem d_PB_leadingZeros_26 : decode b_PB_leadingZeros 26 = .ok (.iload 5, 2) := by decide +kernel
theorem d_PB_leadingZeros_28 : decode b_PB_leadingZeros 28 = .ok (.iadd, 1) := by decide +kernel
theorem d_PB_leadingZeros_29 : decode b_PB_leadingZeros 29 = .ok (.istore_n 2, 1) := by decide +kernel
theorem d_PB_leadingZeros_30 : decode b_PB_leadingZeros 30 = .ok (.lload_n 3, 1) := by decide +kernel
theorem d_PB_leadingZeros_31 : decode b_PB_leadingZeros 31 = .ok (.iload 5, 2) := by decide +kernel
theorem d_PB_leadingZeros_33 : decode b_PB_leadingZeros 33 = .ok (.lshl, 1) := by decide +kernel
theorem d_PB_leadingZeros_34 : decode b_PB_leadingZeros 34 = .ok (.lstore_n 3, 1) := by decide +kernel
theorem d_PB_leadingZeros_35 : decode b_PB_leadingZeros 35 = .ok (.iload 5, 2) := by decide +kernel
theorem d_PB_leadingZeros_37 : decode b_PB_leadingZeros 37 = .ok (.iconst 1, 1) := by decide +kernel
theorem d_PB_leadingZeros_38 : decode b_PB_leadingZeros 38 = .ok (.ishr, 1) := by decide +kernel
theorem d_PB_leadingZeros_39 : decode b_PB_leadingZeros 39 = .ok (.istore 5, 2) := by decide +kernel
theorem d_PB_leadingZeros_41 : decode b_PB_leadingZeros 41 = .ok (.goto (-33), 3) := by decide +kernel
theorem d_PB_leadingZeros_44 : decode b_PB_leadingZeros 44 = .ok (.iload_n 2, 1) := by decide +kernel
theorem d_PB_leadingZeros_45 : decode b_PB_leadingZeros 45 = .ok (.ireturn, 1) := by decide +kernel
def F_PB_leadingZeros_L8 (j44 : (Int32 → Option (Int32))) : Nat → Int32 → Int64 → Int32 → Option (Int32)
  | 0, _, _, _ => none
  | n+1, y2, y3, y4 => if y4 ≤ 0 then (j44 y2) else (lt_ (if ¬ (((y3).toUInt64 >>> (((64 : Int32) - y4).toInt64.toUInt64 &&& Int64.toUInt64 63)).toInt64) = (0 : Int64) then y2 else y2 + y4) fun x5 => lt_ (if ¬ (((y3).toUInt64 >>> (((64 : Int32) - y4).toInt64.toUInt64 &&& Int64.toUInt64 63)).toInt64) = (0 : Int64) then y3 else y3 <<< ((y4).toInt64 &&& 63)) fun x6 => lt_ (y4 >>> ((1 : Int32) &&& 31)) fun x7 => F_PB_leadingZeros_L8 j44 n x5 x6 x7)
def F_PB_leadingZeros (n : Nat) (a0 : Int64) : Option (Int32) := lt_ (fun (y1 : Int32) => some y1) fun j44 => F_PB_leadingZeros_L8 j44 n (0 : Int32) a0 (32 : Int32)
set_option maxHeartbeats 4000000 in
set_option maxRecDepth 100000 in
theorem c_PB_leadingZeros (l : Launch) (n : Nat) (a0 : Int64) (r : Int32) (h : F_PB_leadingZeros n a0 = some r) : Met l y_PB_leadingZeros (.code y_PB_leadingZeros b_PB_leadingZeros 6 (some .int) :: BIG) ({ frames := 0, cells := 0, slots := 0, locals := 0 } : Room) (va_Pc [.long a0] (pre0)) (pQ (.int r)) 0 0 (fun _ => False) := by
  refine pOpen_i rfl (Nat.le_of_ble_eq_true rfl) ?_
  intro p e s m args below meth c Q ls hx hb hml hown hts hT hp hl hret
  have hNB := hp
  have hown : s.vm.findClass R_PB = some m.cls := hown
  have hl : lv_has ls 6 [(0, .long a0)] := hl
  have h : (lt_ (fun (y1 : Int32) => some y1) fun j44 => F_PB_leadingZeros_L8 j44 n (0 : Int32) a0 (32 : Int32)) = some r := h
  refine lv_iconst hx hb d_PB_leadingZeros_0 ic_0 ?_
  refine lv_istore_n hx hb d_PB_leadingZeros_1 rfl hl (by decide) rfl (fun ls hl => ?_)
  have hl : lv_has ls 6 [(2, .int (0 : Int32)), (0, .long a0)] := hl
  refine lv_lload_n hx hb d_PB_leadingZeros_2 rfl (lv_at hl 1 rfl) ?_
  refine lv_lstore_n hx hb d_PB_leadingZeros_3 rfl hl (by decide) rfl (fun ls hl => ?_)
  have hl : lv_has ls 6 [(3, .long a0), (2, .int (0 : Int32)), (0, .long a0)] := hl
  refine lv_bipush hx hb d_PB_leadingZeros_4 bp_32 ?_
  refine lv_istore hx hb d_PB_leadingZeros_6 hl (by decide) rfl (fun ls hl => ?_)
  have hl : lv_has ls 6 [(5, .int (32 : Int32)), (3, .long a0), (2, .int (0 : Int32)), (0, .long a0)] := hl
  obtain ⟨j44, e_j44, h⟩ := lt_o h
  have hJ44 : ∀ (y1 : Int32) (ls : Array Slot), lv_has ls 6 [(2, .int y1)] → j44 y1 = some r → W p l e ({ frames := 0, cells := 0, slots := 0, locals := 0 } : Room) s m args below meth c s.heap [] 0 0 Q (F0 m 44 ls []) := by
    intro y1 ls hl h
    rw [e_j44] at h
    refine lv_iload_n hx hb d_PB_leadingZeros_44 rfl (lv_at hl 0 rfl) ?_
    exact hret 45 ls _ (Option.some.inj h) d_PB_leadingZeros_45
  have hL8 : ∀ (n : Nat) (y2 : Int32) (y3 : Int64) (y4 : Int32) (ls : Array Slot), lv_has ls 6 [(2, .int y2), (3, .long y3), (5, .int y4)] → F_PB_leadingZeros_L8 j44 n y2 y3 y4 = some r → W p l e ({ frames := 0, cells := 0, slots := 0, locals := 0 } : Room) s m args below meth c s.heap [] 0 0 Q (F0 m 8 ls []) := by
    intro n
    induction n with
    | zero => intro y2 y3 y4 ls hl h; exact no_s h
    | succ n ih =>
      intro y2 y3 y4 ls hl h
      have h : (if y4 ≤ 0 then (j44 y2) else (lt_ (if ¬ (((y3).toUInt64 >>> (((64 : Int32) - y4).toInt64.toUInt64 &&& Int64.toUInt64 63)).toInt64) = (0 : Int64) then y2 else y2 + y4) fun x5 => lt_ (if ¬ (((y3).toUInt64 >>> (((64 : Int32) - y4).toInt64.toUInt64 &&& Int64.toUInt64 63)).toInt64) = (0 : Int64) then y3 else y3 <<< ((y4).toInt64 &&& 63)) fun x6 => lt_ (y4 >>> ((1 : Int32) &&& 31)) fun x7 => F_PB_leadingZeros_L8 j44 n x5 x6 x7)) = some r := h
      refine lv_iload hx hb d_PB_leadingZeros_8 (lv_at hl 2 rfl) ?_
      refine lv_if_le (tgt := 44) hx hb d_PB_leadingZeros_10 rfl (fun hc => ?_) (fun hc => ?_)
      · have h := ite_t hc h
        exact hJ44 _ ls (lv_sub hl [0] rfl) h
      · have h := ite_f hc h
        refine lv_lload_n hx hb d_PB_leadingZeros_13 rfl (lv_at hl 1 rfl) ?_
        refine lv_bipush hx hb d_PB_leadingZeros_14 bp_64 ?_
        refine lv_iload hx hb d_PB_leadingZeros_16 (lv_at hl 2 rfl) ?_
        refine lv_isub hx hb d_PB_leadingZeros_18 ?_
        refine lv_lushr hx hb d_PB_leadingZeros_19 rfl ?_
        refine lv_lconst hx hb d_PB_leadingZeros_20 lc_0 ?_
        refine W.lcmp hx hb d_PB_leadingZeros_21 ?_
        obtain ⟨x5, e_x5, h⟩ := lt_o h
        obtain ⟨x6, e_x6, h⟩ := lt_o h
        have hJ35 : ∀ (x5' : Int32) (x6' : Int64) (ls : Array Slot), x5 = x5' → x6 = x6' → lv_has ls 6 [(2, .int x5'), (3, .long x6'), (5, .int y4)] → W p l e ({ frames := 0, cells := 0, slots := 0, locals := 0 } : Room) s m args below meth c s.heap [] 0 0 Q (F0 m 35 ls []) := by
          intro x5' x6' ls q_x5 q_x6 hl
          subst q_x5
          subst q_x6
          refine lv_iload hx hb d_PB_leadingZeros_35 (lv_at hl 2 rfl) ?_
          refine lv_iconst hx hb d_PB_leadingZeros_37 ic_1 ?_
          refine lv_ishr hx hb d_PB_leadingZeros_38 ?_
          refine lv_topi (fun x7 e_x7 => ?_)
          have h := lt_h e_x7 h
          refine lv_istore hx hb d_PB_leadingZeros_39 hl (by decide) rfl (fun ls hl => ?_)
          have hl : lv_has ls 6 [(5, .int x7), (2, .int x5), (3, .long x6)] := hl
          refine lv_goto (tgt := 8) hx hb d_PB_leadingZeros_41 rfl ?_
          exact ih _ _ _ ls (lv_sub hl [1, 2, 0] rfl) h
        refine lv_if_ne (tgt := 35) hx hb d_PB_leadingZeros_22 rfl (fun hc => ?_) (fun hc => ?_)
        · have hc := mt (lg_cmp_eq _ _).mpr hc
          have e_x5 := e_x5.trans (if_pos hc)
          have e_x6 := e_x6.trans (if_pos hc)
          exact hJ35 _ _ ls e_x5 e_x6 (lv_sub hl [0, 1, 2] rfl)
        · have hc := not_not_intro ((lg_cmp_eq _ _).mp hc)
          have e_x5 := e_x5.trans (if_neg hc)
          have e_x6 := e_x6.trans (if_neg hc)
          refine lv_iload_n hx hb d_PB_leadingZeros_25 rfl (lv_at hl 0 rfl) ?_
          refine lv_iload hx hb d_PB_leadingZeros_26 (lv_at hl 2 rfl) ?_
          refine lv_iadd hx hb d_PB_leadingZeros_28 ?_
          refine lv_istore_n hx hb d_PB_leadingZeros_29 rfl hl (by decide) rfl (fun ls hl => ?_)
          have hl : lv_has ls 6 [(2, .int (y2 + y4)), (3, .long y3), (5, .int y4)] := hl
          refine lv_lload_n hx hb d_PB_leadingZeros_30 rfl (lv_at hl 1 rfl) ?_
          refine lv_iload hx hb d_PB_leadingZeros_31 (lv_at hl 2 rfl) ?_
          refine lv_lshl hx hb d_PB_leadingZeros_33 rfl ?_
          refine lv_lstore_n hx hb d_PB_leadingZeros_34 rfl hl (by decide) rfl (fun ls hl => ?_)
          have hl : lv_has ls 6 [(3, .long (y3 <<< ((y4).toInt64 &&& 63))), (2, .int (y2 + y4)), (5, .int y4)] := hl
          exact hJ35 _ _ ls e_x5 e_x6 (lv_sub hl [1, 0, 2] rfl)
  exact hL8 n _ _ _ ls (lv_sub hl [2, 1, 0] rfl) h
-- Real_nan
theorem d_Real_nan_0 : decode b_Real_nan 0 = .ok (.aload_n 0, 1) := by decide +kernel
theorem d_Real_nan_1 : decode b_Real_nan 1 = .ok (.getfield 45, 3) := by decide +kernel
theorem d_Real_nan_4 : decode b_Real_nan 4 = .ok (.lconst 1, 1) := by decide +kernel
theorem d_Real_nan_5 : decode b_Real_nan 5 = .ok (.aload_n 0, 1) := by decide +kernel
theorem d_Real_nan_6 : decode b_Real_nan 6 = .ok (.getfield 31, 3) := by decide +kernel
theorem d_Real_nan_9 : decode b_Real_nan 9 = .ok (.iconst 1, 1) := by decide +kernel
theorem d_Real_nan_10 : decode b_Real_nan 10 = .ok (.isub, 1) := by decide +kernel
theorem d_Real_nan_11 : decode b_Real_nan 11 = .ok (.lshl, 1) := by decide +kernel
theorem d_Real_nan_12 : decode b_Real_nan 12 = .ok (.lor, 1) := by decide +kernel
theorem d_Real_nan_13 : decode b_Real_nan 13 = .ok (.lreturn, 1) := by decide +kernel
def F_Real_nan (K0 : rK) : Int64 := K0.2.2.2.2 ||| ((1 : Int64) <<< ((K0.1 - (1 : Int32)).toInt64 &&& 63))
set_option maxHeartbeats 4000000 in
set_option maxRecDepth 100000 in
theorem c_Real_nan (l : Launch) (o0 : Nat) (K0 : rK) : Met l y_Real_nan (.code y_Real_nan b_Real_nan 1 (some .long) :: BIG) ({ frames := 0, cells := 0, slots := 0, locals := 0 } : Room) (va_Pc [.ref o0] (pre1 o0 K0)) (pQ (.long (F_Real_nan K0))) 0 0 (fun _ => False) := by
  refine pOpen_l rfl (Nat.le_of_ble_eq_true rfl) ?_
  intro p e s m args below meth c Q ls hx hb hml hown hts hT hp hl hret
  obtain ⟨hNB, hRe_o0⟩ := hp
  have hown : s.vm.findClass R_Real = some m.cls := hown
  have hl : lv_has ls 1 [(0, .ref o0)] := hl
  obtain ⟨r, h⟩ : ∃ r, F_Real_nan K0 = r := ⟨_, rfl⟩
  rw [h] at hret
  have h : (K0.2.2.2.2 ||| ((1 : Int64) <<< ((K0.1 - (1 : Int32)).toInt64 &&& 63))) = r := h
  refine lv_aload_n hx hb d_Real_nan_0 rfl (lv_at hl 0 rfl) ?_
  refine vk_getf hx hb (hRe_o0.2.2.2.2.2) va_S.rf hown (hT _ m_4) (fun _ h9 => h9) d_Real_nan_1 ?_
  refine lv_lconst hx hb d_Real_nan_4 lc_1 ?_
  refine lv_aload_n hx hb d_Real_nan_5 rfl (lv_at hl 0 rfl) ?_
  refine vk_getf hx hb (hRe_o0.2.1) va_S.rf hown (hT _ m_5) (fun _ h9 => h9) d_Real_nan_6 ?_
  refine lv_iconst hx hb d_Real_nan_9 ic_1 ?_
  refine lv_isub hx hb d_Real_nan_10 ?_
  refine lv_lshl hx hb d_Real_nan_11 rfl ?_
  refine lv_lor hx hb d_Real_nan_12 ?_
  exact hret 13 ls _ h d_Real_nan_13
-- Real_isNegative
theorem d_Real_isNegative_0 : decode b_Real_isNegative 0 = .ok (.lload_n 1, 1) := by decide +kernel
theorem d_Real_isNegative_1 : decode b_Real_isNegative 1 = .ok (.aload_n 0, 1) := by decide +kernel
theorem d_Real_isNegative_2 : decode b_Real_isNegative 2 = .ok (.getfield 41, 3) := by decide +kernel
theorem d_Real_isNegative_5 : decode b_Real_isNegative 5 = .ok (.land, 1) := by decide +kernel
theorem d_Real_isNegative_6 : decode b_Real_isNegative 6 = .ok (.lconst 0, 1) := by decide +kernel
theorem d_Real_isNegative_7 : decode b_Real_isNegative 7 = .ok (.lcmp, 1) := by decide +kernel
theorem d_Real_isNegative_8 : decode b_Real_isNegative 8 = .ok (.ifCond .eq 7, 3) := by decide +kernel
theorem d_Real_isNegative_11 : decode b_Real_isNegative 11 = .ok (.iconst 1, 1) := by decide +kernel
theorem d_Real_isNegative_12 : decode b_Real_isNegative 12 = .ok (.goto 4, 3) := by decide +kernel
theorem d_Real_isNegative_15 : decode b_Real_isNegative 15 = .ok (.iconst 0, 1) := by decide +kernel
theorem d_Real_isNegative_16 : decode b_Real_isNegative 16 = .ok (.ireturn, 1) := by decide +kernel
def F_Real_isNegative (K0 : rK) (a1 : Int64) : Int32 := lt_ (if (a1 &&& K0.2.2.2.1) = (0 : Int64) then (0 : Int32) else (1 : Int32)) fun x1 => x1
set_option maxHeartbeats 4000000 in
set_option maxRecDepth 100000 in
theorem c_Real_isNegative (l : Launch) (o0 : Nat) (K0 : rK) (a1 : Int64) : Met l y_Real_isNegative (.code y_Real_isNegative b_Real_isNegative 3 (some .boolean) :: BIG) ({ frames := 0, cells := 0, slots := 0, locals := 0 } : Room) (va_Pc [.ref o0, .long a1] (pre1 o0 K0)) (pQ (.int (F_Real_isNegative K0 a1))) 0 0 (fun _ => False) := by
  refine pOpen_z rfl (Nat.le_of_ble_eq_true rfl) ?_
  intro p e s m args below meth c Q ls hx hb hml hown hts hT hp hl hret
  obtain ⟨hNB, hRe_o0⟩ := hp
  have hown : s.vm.findClass R_Real = some m.cls := hown
  have hl : lv_has ls 3 [(0, .ref o0), (1, .long a1)] := hl
  obtain ⟨r, h⟩ : ∃ r, F_Real_isNegative K0 a1 = r := ⟨_, rfl⟩
  rw [h] at hret
  have h : (lt_ (if (a1 &&& K0.2.2.2.1) = (0 : Int64) then (0 : Int32) else (1 : Int32)) fun x1 => x1) = r := h
  refine lv_lload_n hx hb d_Real_isNegative_0 rfl (lv_at hl 1 rfl) ?_
  refine lv_aload_n hx hb d_Real_isNegative_1 rfl (lv_at hl 0 rfl) ?_
  refine vk_getf hx hb (hRe_o0.2.2.2.2.1) va_S.rf hown (hT _ m_6) (fun _ h9 => h9) d_Real_isNegative_2 ?_
  refine lv_land hx hb d_Real_isNegative_5 ?_
  refine lv_lconst hx hb d_Real_isNegative_6 lc_0 ?_
  refine W.lcmp hx hb d_Real_isNegative_7 ?_
  obtain ⟨x1, e_x1, h⟩ := lt_o h
  have hJ16 : ∀ (x1' : Int32) (ls : Array Slot), x1 = x1' → lv_has ls 3 [] → W p l e ({ frames := 0, cells := 0, slots := 0, locals := 0 } : Room) s m args below meth c s.heap [] 0 0 Q (F0 m 16 ls [.int x1']) := by
    intro x1' ls q_x1 hl
    subst q_x1
    exact hret 16 ls _ h d_Real_isNegative_16 (nb_1 ((by rw [e_x1]; exact ite01 (Or.inl rfl) (Or.inr rfl))))
  refine lv_if_eq (tgt := 15) hx hb d_Real_isNegative_8 rfl (fun hc => ?_) (fun hc => ?_)
  · have hc := (lg_cmp_eq _ _).mp hc
    have e_x1 := e_x1.trans (if_pos hc)
    refine lv_iconst hx hb d_Real_isNegative_15 ic_0 ?_
    exact hJ16 _ ls e_x1 (lv_sub hl [] rfl)
  · have hc := mt (lg_cmp_eq _ _).mpr hc
    have e_x1 := e_x1.trans (if_neg hc)
    refine lv_iconst hx hb d_Real_isNegative_11 ic_1 ?_
    refine lv_goto (tgt := 16) hx hb d_Real_isNegative_12 rfl ?_
    exact hJ16 _ ls e_x1 (lv_sub hl [] rfl)
-- Real_magnitude
theorem d_Real_magnitude_0 : decode b_Real_magnitude 0 = .ok (.lload_n 1, 1) := by decide +kernel
theorem d_Real_magnitude_1 : decode b_Real_magnitude 1 = .ok (.aload_n 0, 1) := by decide +kernel
theorem d_Real_magnitude_2 : decode b_Real_magnitude 2 = .ok (.getfield 41, 3) := by decide +kernel
theorem d_Real_magnitude_5 : decode b_Real_magnitude 5 = .ok (.lconst 1, 1) := by decide +kernel
theorem d_Real_magnitude_6 : decode b_Real_magnitude 6 = .ok (.lsub, 1) := by decide +kernel
theorem d_Real_magnitude_7 : decode b_Real_magnitude 7 = .ok (.land, 1) := by decide +kernel
theorem d_Real_magnitude_8 : decode b_Real_magnitude 8 = .ok (.lreturn, 1) := by decide +kernel
def F_Real_magnitude (K0 : rK) (a1 : Int64) : Int64 := a1 &&& (K0.2.2.2.1 - (1 : Int64))
set_option maxHeartbeats 4000000 in
set_option maxRecDepth 100000 in
theorem c_Real_magnitude (l : Launch) (o0 : Nat) (K0 : rK) (a1 : Int64) : Met l y_Real_magnitude (.code y_Real_magnitude b_Real_magnitude 3 (some .long) :: BIG) ({ frames := 0, cells := 0, slots := 0, locals := 0 } : Room) (va_Pc [.ref o0, .long a1] (pre1 o0 K0)) (pQ (.long (F_Real_magnitude K0 a1))) 0 0 (fun _ => False) := by
  refine pOpen_l rfl (Nat.le_of_ble_eq_true rfl) ?_
  intro p e s m args below meth c Q ls hx hb hml hown hts hT hp hl hret
  obtain ⟨hNB, hRe_o0⟩ := hp
  have hown : s.vm.findClass R_Real = some m.cls := hown
  have hl : lv_has ls 3 [(0, .ref o0), (1, .long a1)] := hl
  obtain ⟨r, h⟩ : ∃ r, F_Real_magnitude K0 a1 = r := ⟨_, rfl⟩
  rw [h] at hret
  have h : (a1 &&& (K0.2.2.2.1 - (1 : Int64))) = r := h
  refine lv_lload_n hx hb d_Real_magnitude_0 rfl (lv_at hl 1 rfl) ?_
  refine lv_aload_n hx hb d_Real_magnitude_1 rfl (lv_at hl 0 rfl) ?_
  refine vk_getf hx hb (hRe_o0.2.2.2.2.1) va_S.rf hown (hT _ m_6) (fun _ h9 => h9) d_Real_magnitude_2 ?_
  refine lv_lconst hx hb d_Real_magnitude_5 lc_1 ?_
  refine lv_lsub hx hb d_Real_magnitude_6 ?_
  refine lv_land hx hb d_Real_magnitude_7 ?_
  exact hret 8 ls _ h d_Real_magnitude_8
-- Real_isNan
theorem d_Real_isNan_0 : decode b_Real_isNan 0 = .ok (.aload_n 0, 1) := by decide +kernel
theorem d_Real_isNan_1 : decode b_Real_isNan 1 = .ok (.lload_n 1, 1) := by decide +kernel
theorem d_Real_isNan_2 : decode b_Real_isNan 2 = .ok (.invokevirtual 48, 3) := by decide +kernel
theorem d_Real_isNan_5 : decode b_Real_isNan 5 = .ok (.aload_n 0, 1) := by decide +kernel
theorem d_Real_isNan_6 : decode b_Real_isNan 6 = .ok (.getfield 45, 3) := by decide +kernel
theorem d_Real_isNan_9 : decode b_Real_isNan 9 = .ok (.lcmp, 1) := by decide +kernel
theorem d_Real_isNan_10 : decode b_Real_isNan 10 = .ok (.ifCond .le 7, 3) := by decide +kernel
theorem d_Real_isNan_13 : decode b_Real_isNan 13 = .ok (.iconst 1, 1) := by decide +kernel
theorem d_Real_isNan_14 : decode b_Real_isNan 14 = .ok (.goto 4, 3) := by decide +kernel
theorem d_Real_isNan_17 : decode b_Real_isNan 17 = .ok (.iconst 0, 1) := by decide +kernel
theorem d_Real_isNan_18 : decode b_Real_isNan 18 = .ok (.ireturn, 1) := by decide +kernel
def F_Real_isNan (K0 : rK) (a1 : Int64) : Int32 := lt_ (if (F_Real_magnitude K0 a1) ≤ K0.2.2.2.2 then (0 : Int32) else (1 : Int32)) fun x1 => x1
set_option maxHeartbeats 4000000 in
set_option maxRecDepth 100000 in
theorem c_Real_isNan (l : Launch) (o0 : Nat) (K0 : rK) (a1 : Int64) : Met l y_Real_isNan (.code y_Real_isNan b_Real_isNan 3 (some .boolean) :: BIG) ({ frames := 1, cells := 0, slots := 0, locals := 22 } : Room) (va_Pc [.ref o0, .long a1] (pre1 o0 K0)) (pQ (.int (F_Real_isNan K0 a1))) 0 0 (fun _ => False) := by
  refine pOpen_z rfl (Nat.le_of_ble_eq_true rfl) ?_
  intro p e s m args below meth c Q ls hx hb hml hown hts hT hp hl hret
  obtain ⟨hNB, hRe_o0⟩ := hp
  have hown : s.vm.findClass R_Real = some m.cls := hown
  have hl : lv_has ls 3 [(0, .ref o0), (1, .long a1)] := hl
  obtain ⟨r, h⟩ : ∃ r, F_Real_isNan K0 a1 = r := ⟨_, rfl⟩
  rw [h] at hret
  have h : (lt_ (if (F_Real_magnitude K0 a1) ≤ K0.2.2.2.2 then (0 : Int32) else (1 : Int32)) fun x1 => x1) = r := h
  refine lv_aload_n hx hb d_Real_isNan_0 rfl (lv_at hl 0 rfl) ?_
  refine lv_lload_n hx hb d_Real_isNan_1 rfl (lv_at hl 1 rfl) ?_
  refine q_V (As := [.long a1]) (rest := []) (n := 1) hx hb hml hown hts (c_Real_magnitude l o0 K0 a1) rfl rfl m_7 m_8 m_9 m_10 m_11 (by decide +kernel) ⟨Nat.le_of_ble_eq_true rfl, Nat.le_of_ble_eq_true rfl⟩ (rAt_rc hRe_o0) (p1_bl) (fun U hU hW => p1_mv hU hW hNB hRe_o0) rfl hl.1 rfl (Nat.le_of_ble_eq_true rfl) d_Real_isNan_2 ⟨Nat.zero_le _, Nat.zero_le _⟩ ?_
  refine lv_aload_n hx hb d_Real_isNan_5 rfl (lv_at hl 0 rfl) ?_
  refine vk_getf hx hb (hRe_o0.2.2.2.2.2) va_S.rf hown (hT _ m_4) (fun _ h9 => h9) d_Real_isNan_6 ?_
  refine W.lcmp hx hb d_Real_isNan_9 ?_
  obtain ⟨x1, e_x1, h⟩ := lt_o h
  have hJ18 : ∀ (x1' : Int32) (ls : Array Slot), x1 = x1' → lv_has ls 3 [] → W p l e ({ frames := 1, cells := 0, slots := 0, locals := 22 } : Room) s m args below meth c s.heap [] 0 0 Q (F0 m 18 ls [.int x1']) := by
    intro x1' ls q_x1 hl
    subst q_x1
    exact hret 18 ls _ h d_Real_isNan_18 (nb_1 ((by rw [e_x1]; exact ite01 (Or.inl rfl) (Or.inr rfl))))
  refine lv_if_le (tgt := 17) hx hb d_Real_isNan_10 rfl (fun hc => ?_) (fun hc => ?_)
  · have hc := (lg_cmp_le _ _).mp hc
    have e_x1 := e_x1.trans (if_pos hc)
    refine lv_iconst hx hb d_Real_isNan_17 ic_0 ?_
    exact hJ18 _ ls e_x1 (lv_sub hl [] rfl)
  · have hc := mt (lg_cmp_le _ _).mpr hc
    have e_x1 := e_x1.trans (if_neg hc)
    refine lv_iconst hx hb d_Real_isNan_13 ic_1 ?_
    refine lv_goto (tgt := 18) hx hb d_Real_isNan_14 rfl ?_
    exact hJ18 _ ls e_x1 (lv_sub hl [] rfl)
-- Real_isInfinite
theorem d_Real_isInfinite_0 : decode b_Real_isInfinite 0 = .ok (.aload_n 0, 1) := by decide +kernel
theorem d_Real_isInfinite_1 : decode b_Real_isInfinite 1 = .ok (.lload_n 1, 1) := by decide +kernel
theorem d_Real_isInfinite_2 : decode b_Real_isInfinite 2 = .ok (.invokevirtual 48, 3) := by decide +kernel
theorem d_Real_isInfinite_5 : decode b_Real_isInfinite 5 = .ok (.aload_n 0, 1) := by decide +kernel
theorem d_Real_isInfinite_6 : decode b_Real_isInfinite 6 = .ok (.getfield 45, 3) := by decide +kernel
theorem d_Real_isInfinite_9 : decode b_Real_isInfinite 9 = .ok (.lcmp, 1) := by decide +kernel
theorem d_Real_isInfinite_10 : decode b_Real_isInfinite 10 = .ok (.ifCond .ne 7, 3) := by decide +kernel
theorem d_Real_isInfinite_13 : decode b_Real_isInfinite 13 = .ok (.iconst 1, 1) := by decide +kernel
theorem d_Real_isInfinite_14 : decode b_Real_isInfinite 14 = .ok (.goto 4, 3) := by decide +kernel
theorem d_Real_isInfinite_17 : decode b_Real_isInfinite 17 = .ok (.iconst 0, 1) := by decide +kernel
theorem d_Real_isInfinite_18 : decode b_Real_isInfinite 18 = .ok (.ireturn, 1) := by decide +kernel
def F_Real_isInfinite (K0 : rK) (a1 : Int64) : Int32 := lt_ (if ¬ (F_Real_magnitude K0 a1) = K0.2.2.2.2 then (0 : Int32) else (1 : Int32)) fun x1 => x1
set_option maxHeartbeats 4000000 in
set_option maxRecDepth 100000 in
theorem c_Real_isInfinite (l : Launch) (o0 : Nat) (K0 : rK) (a1 : Int64) : Met l y_Real_isInfinite (.code y_Real_isInfinite b_Real_isInfinite 3 (some .boolean) :: BIG) ({ frames := 1, cells := 0, slots := 0, locals := 22 } : Room) (va_Pc [.ref o0, .long a1] (pre1 o0 K0)) (pQ (.int (F_Real_isInfinite K0 a1))) 0 0 (fun _ => False) := by
  refine pOpen_z rfl (Nat.le_of_ble_eq_true rfl) ?_
  intro p e s m args below meth c Q ls hx hb hml hown hts hT hp hl hret
  obtain ⟨hNB, hRe_o0⟩ := hp
  have hown : s.vm.findClass R_Real = some m.cls := hown
  have hl : lv_has ls 3 [(0, .ref o0), (1, .long a1)] := hl
  obtain ⟨r, h⟩ : ∃ r, F_Real_isInfinite K0 a1 = r := ⟨_, rfl⟩
  rw [h] at hret
  have h : (lt_ (if ¬ (F_Real_magnitude K0 a1) = K0.2.2.2.2 then (0 : Int32) else (1 : Int32)) fun x1 => x1) = r := h
  refine lv_aload_n hx hb d_Real_isInfinite_0 rfl (lv_at hl 0 rfl) ?_
  refine lv_lload_n hx hb d_Real_isInfinite_1 rfl (lv_at hl 1 rfl) ?_
  refine q_V (As := [.long a1]) (rest := []) (n := 1) hx hb hml hown hts (c_Real_magnitude l o0 K0 a1) rfl rfl m_7 m_8 m_9 m_10 m_11 (by decide +kernel) ⟨Nat.le_of_ble_eq_true rfl, Nat.le_of_ble_eq_true rfl⟩ (rAt_rc hRe_o0) (p1_bl) (fun U hU hW => p1_mv hU hW hNB hRe_o0) rfl hl.1 rfl (Nat.le_of_ble_eq_true rfl) d_Real_isInfinite_2 ⟨Nat.zero_le _, Nat.zero_le _⟩ ?_
  refine lv_aload_n hx hb d_Real_isInfinite_5 rfl (lv_at hl 0 rfl) ?_
  refine vk_getf hx hb (hRe_o0.2.2.2.2.2) va_S.rf hown (hT _ m_4) (fun _ h9 => h9) d_Real_isInfinite_6 ?_
  refine W.lcmp hx hb d_Real_isInfinite_9 ?_
  obtain ⟨x1, e_x1, h⟩ := lt_o h
  have hJ18 : ∀ (x1' : Int32) (ls : Array Slot), x1 = x1' → lv_has ls 3 [] → W p l e ({ frames := 1, cells := 0, slots := 0, locals := 22 } : Room) s m args below meth c s.heap [] 0 0 Q (F0 m 18 ls [.int x1']) := by
    intro x1' ls q_x1 hl
    subst q_x1
    exact hret 18 ls _ h d_Real_isInfinite_18 (nb_1 ((by rw [e_x1]; exact ite01 (Or.inl rfl) (Or.inr rfl))))
  refine lv_if_ne (tgt := 17) hx hb d_Real_isInfinite_10 rfl (fun hc => ?_) (fun hc => ?_)
  · have hc := mt (lg_cmp_eq _ _).mpr hc
    have e_x1 := e_x1.trans (if_pos hc)
    refine lv_iconst hx hb d_Real_isInfinite_17 ic_0 ?_
    exact hJ18 _ ls e_x1 (lv_sub hl [] rfl)
  · have hc := not_not_intro ((lg_cmp_eq _ _).mp hc)
    have e_x1 := e_x1.trans (if_neg hc)
    refine lv_iconst hx hb d_Real_isInfinite_13 ic_1 ?_
    refine lv_goto (tgt := 18) hx hb d_Real_isInfinite_14 rfl ?_
    exact hJ18 _ ls e_x1 (lv_sub hl [] rfl)
-- Real_isZero
theorem d_Real_isZero_0 : decode b_Real_isZero 0 = .ok (.aload_n 0, 1) := by decide +kernel
theorem d_Real_isZero_1 : decode b_Real_isZero 1 = .ok (.lload_n 1, 1) := by decide +kernel
theorem d_Real_isZero_2 : decode b_Real_isZero 2 = .ok (.invokevirtual 48, 3) := by decide +kernel
theorem d_Real_isZero_5 : decode b_Real_isZero 5 = .ok (.lconst 0, 1) := by decide +kernel
theorem d_Real_isZero_6 : decode b_Real_isZero 6 = .ok (.lcmp, 1) := by decide +kernel
theorem d_Real_isZero_7 : decode b_Real_isZero 7 = .ok (.ifCond .ne 7, 3) := by decide +kernel
theorem d_Real_isZero_10 : decode b_Real_isZero 10 = .ok (.iconst 1, 1) := by decide +kernel
theorem d_Real_isZero_11 : decode b_Real_isZero 11 = .ok (.goto 4, 3) := by decide +kernel
theorem d_Real_isZero_14 : decode b_Real_isZero 14 = .ok (.iconst 0, 1) := by decide +kernel
theorem d_Real_isZero_15 : decode b_Real_isZero 15 = .ok (.ireturn, 1) := by decide +kernel
def F_Real_isZero (K0 : rK) (a1 : Int64) : Int32 := lt_ (if ¬ (F_Real_magnitude K0 a1) = (0 : Int64) then (0 : Int32) else (1 : Int32)) fun x1 => x1
set_option maxHeartbeats 4000000 in
set_option maxRecDepth 100000 in
theorem c_Real_isZero (l : Launch) (o0 : Nat) (K0 : rK) (a1 : Int64) : Met l y_Real_isZero (.code y_Real_isZero b_Real_isZero 3 (some .boolean) :: BIG) ({ frames := 1, cells := 0, slots := 0, locals := 22 } : Room) (va_Pc [.ref o0, .long a1] (pre1 o0 K0)) (pQ (.int (F_Real_isZero K0 a1))) 0 0 (fun _ => False) := by
  refine pOpen_z rfl (Nat.le_of_ble_eq_true rfl) ?_
  intro p e s m args below meth c Q ls hx hb hml hown hts hT hp hl hret
  obtain ⟨hNB, hRe_o0⟩ := hp
  have hown : s.vm.findClass R_Real = some m.cls := hown
  have hl : lv_has ls 3 [(0, .ref o0), (1, .long a1)] := hl
  obtain ⟨r, h⟩ : ∃ r, F_Real_isZero K0 a1 = r := ⟨_, rfl⟩
  rw [h] at hret
  have h : (lt_ (if ¬ (F_Real_magnitude K0 a1) = (0 : Int64) then (0 : Int32) else (1 : Int32)) fun x1 => x1) = r := h
  refine lv_aload_n hx hb d_Real_isZero_0 rfl (lv_at hl 0 rfl) ?_
  refine lv_lload_n hx hb d_Real_isZero_1 rfl (lv_at hl 1 rfl) ?_
  refine q_V (As := [.long a1]) (rest := []) (n := 1) hx hb hml hown hts (c_Real_magnitude l o0 K0 a1) rfl rfl m_7 m_8 m_9 m_10 m_11 (by decide +kernel) ⟨Nat.le_of_ble_eq_true rfl, Nat.le_of_ble_eq_true rfl⟩ (rAt_rc hRe_o0) (p1_bl) (fun U hU hW => p1_mv hU hW hNB hRe_o0) rfl hl.1 rfl (Nat.le_of_ble_eq_true rfl) d_Real_isZero_2 ⟨Nat.zero_le _, Nat.zero_le _⟩ ?_
  refine lv_lconst hx hb d_Real_isZero_5 lc_0 ?_
  refine W.lcmp hx hb d_Real_isZero_6 ?_
  obtain ⟨x1, e_x1, h⟩ := lt_o h
  have hJ15 : ∀ (x1' : Int32) (ls : Array Slot), x1 = x1' → lv_has ls 3 [] → W p l e ({ frames := 1, cells := 0, slots := 0, locals := 22 } : Room) s m args below meth c s.heap [] 0 0 Q (F0 m 15 ls [.int x1']) := by
    intro x1' ls q_x1 hl
    subst q_x1
    exact hret 15 ls _ h d_Real_isZero_15 (nb_1 ((by rw [e_x1]; exact ite01 (Or.inl rfl) (Or.inr rfl))))
  refine lv_if_ne (tgt := 14) hx hb d_Real_isZero_7 rfl (fun hc => ?_) (fun hc => ?_)
  · have hc := mt (lg_cmp_eq _ _).mpr hc
    have e_x1 := e_x1.trans (if_pos hc)
    refine lv_iconst hx hb d_Real_isZero_14 ic_0 ?_
    exact hJ15 _ ls e_x1 (lv_sub hl [] rfl)
  · have hc := not_not_intro ((lg_cmp_eq _ _).mp hc)
    have e_x1 := e_x1.trans (if_neg hc)
    refine lv_iconst hx hb d_Real_isZero_10 ic_1 ?_
    refine lv_goto (tgt := 15) hx hb d_Real_isZero_11 rfl ?_
    exact hJ15 _ ls e_x1 (lv_sub hl [] rfl)
-- Real_rank
theorem d_Real_rank_0 : decode b_Real_rank 0 = .ok (.aload_n 0, 1) := by decide +kernel
theorem d_Real_rank_1 : decode b_Real_rank 1 = .ok (.lload_n 1, 1) := by decide +kernel
theorem d_Real_rank_2 : decode b_Real_rank 2 = .ok (.invokevirtual 52, 3) := by decide +kernel
theorem d_Real_rank_5 : decode b_Real_rank 5 = .ok (.ifCond .eq 12, 3) := by decide +kernel
theorem d_Real_rank_8 : decode b_Real_rank 8 = .ok (.aload_n 0, 1) := by decide +kernel
theorem d_Real_rank_9 : decode b_Real_rank 9 = .ok (.lload_n 1, 1) := by decide +kernel
theorem d_Real_rank_10 : decode b_Real_rank 10 = .ok (.invokevirtual 48, 3) := by decide +kernel
theorem d_Real_rank_13 : decode b_Real_rank 13 = .ok (.lneg, 1) := by decide +kernel
theorem d_Real_rank_14 : decode b_Real_rank 14 = .ok (.goto 8, 3) := by decide +kernel
theorem d_Real_rank_17 : decode b_Real_rank 17 = .ok (.aload_n 0, 1) := by decide +kernel
theorem d_Real_rank_18 : decode b_Real_rank 18 = .ok (.lload_n 1, 1) := by decide +kernel
theorem d_Real_rank_19 : decode b_Real_rank 19 = .ok (.invokevirtual 48, 3) := by decide +kernel
theorem d_Real_rank_22 : decode b_Real_rank 22 = .ok (.lreturn, 1) := by decide +kernel
def F_Real_rank (K0 : rK) (a1 : Int64) : Int64 := lt_ (if (F_Real_isNegative K0 a1) = 0 then F_Real_magnitude K0 a1 else -(F_Real_magnitude K0 a1)) fun x1 => x1
set_option maxHeartbeats 4000000 in
set_option maxRecDepth 100000 in
theorem c_Real_rank (l : Launch) (o0 : Nat) (K0 : rK) (a1 : Int64) : Met l y_Real_rank (.code y_Real_rank b_Real_rank 3 (some .long) :: BIG) ({ frames := 1, cells := 0, slots := 0, locals := 22 } : Room) (va_Pc [.ref o0, .long a1] (pre1 o0 K0)) (pQ (.long (F_Real_rank K0 a1))) 0 0 (fun _ => False) := by
  refine pOpen_l rfl (Nat.le_of_ble_eq_true rfl) ?_
  intro p e s m args below meth c Q ls hx hb hml hown hts hT hp hl hret
  obtain ⟨hNB, hRe_o0⟩ := hp
  have hown : s.vm.findClass R_Real = some m.cls := hown
  have hl : lv_has ls 3 [(0, .ref o0), (1, .long a1)] := hl
  obtain ⟨r, h⟩ : ∃ r, F_Real_rank K0 a1 = r := ⟨_, rfl⟩
  rw [h] at hret
  have h : (lt_ (if (F_Real_isNegative K0 a1) = 0 then F_Real_magnitude K0 a1 else -(F_Real_magnitude K0 a1)) fun x1 => x1) = r := h
  refine lv_aload_n hx hb d_Real_rank_0 rfl (lv_at hl 0 rfl) ?_
  refine lv_lload_n hx hb d_Real_rank_1 rfl (lv_at hl 1 rfl) ?_
  refine q_V (As := [.long a1]) (rest := []) (n := 1) hx hb hml hown hts (c_Real_isNegative l o0 K0 a1) rfl rfl m_12 m_13 m_14 m_15 m_11 (by decide +kernel) ⟨Nat.le_of_ble_eq_true rfl, Nat.le_of_ble_eq_true rfl⟩ (rAt_rc hRe_o0) (p1_bl) (fun U hU hW => p1_mv hU hW hNB hRe_o0) rfl hl.1 rfl (Nat.le_of_ble_eq_true rfl) d_Real_rank_2 ⟨Nat.zero_le _, Nat.zero_le _⟩ ?_
  obtain ⟨x1, e_x1, h⟩ := lt_o h
  have hJ22 : ∀ (x1' : Int64) (ls : Array Slot), x1 = x1' → lv_has ls 3 [] → W p l e ({ frames := 1, cells := 0, slots := 0, locals := 22 } : Room) s m args below meth c s.heap [] 0 0 Q (F0 m 22 ls [.long x1']) := by
    intro x1' ls q_x1 hl
    subst q_x1
    exact hret 22 ls _ h d_Real_rank_22
  refine lv_if_eq (tgt := 17) hx hb d_Real_rank_5 rfl (fun hc => ?_) (fun hc => ?_)
  · have e_x1 := e_x1.trans (if_pos hc)
    refine lv_aload_n hx hb d_Real_rank_17 rfl (lv_at hl 0 rfl) ?_
    refine lv_lload_n hx hb d_Real_rank_18 rfl (lv_at hl 1 rfl) ?_
    refine q_V (As := [.long a1]) (rest := []) (n := 1) hx hb hml hown hts (c_Real_magnitude l o0 K0 a1) rfl rfl m_7 m_8 m_9 m_10 m_11 (by decide +kernel) ⟨Nat.le_of_ble_eq_true rfl, Nat.le_of_ble_eq_true rfl⟩ (rAt_rc hRe_o0) (p1_bl) (fun U hU hW => p1_mv hU hW hNB hRe_o0) rfl hl.1 rfl (Nat.le_of_ble_eq_true rfl) d_Real_rank_19 ⟨Nat.zero_le _, Nat.zero_le _⟩ ?_
    exact hJ22 _ ls e_x1 (lv_sub hl [] rfl)
  · have e_x1 := e_x1.trans (if_neg hc)
    refine lv_aload_n hx hb d_Real_rank_8 rfl (lv_at hl 0 rfl) ?_
    refine lv_lload_n hx hb d_Real_rank_9 rfl (lv_at hl 1 rfl) ?_
    refine q_V (As := [.long a1]) (rest := []) (n := 1) hx hb hml hown hts (c_Real_magnitude l o0 K0 a1) rfl rfl m_7 m_8 m_9 m_10 m_11 (by decide +kernel) ⟨Nat.le_of_ble_eq_true rfl, Nat.le_of_ble_eq_true rfl⟩ (rAt_rc hRe_o0) (p1_bl) (fun U hU hW => p1_mv hU hW hNB hRe_o0) rfl hl.1 rfl (Nat.le_of_ble_eq_true rfl) d_Real_rank_10 ⟨Nat.zero_le _, Nat.zero_le _⟩ ?_
    refine lv_lneg hx hb d_Real_rank_13 ?_
    refine lv_goto (tgt := 22) hx hb d_Real_rank_14 rfl ?_
    exact hJ22 _ ls e_x1 (lv_sub hl [] rfl)
-- Real_exponent
theorem d_Real_exponent_0 : decode b_Real_exponent 0 = .ok (.lload_n 1, 1) := by decide +kernel
theorem d_Real_exponent_1 : decode b_Real_exponent 1 = .ok (.aload_n 0, 1) := by decide +kernel
theorem d_Real_exponent_2 : decode b_Real_exponent 2 = .ok (.getfield 31, 3) := by decide +kernel
theorem d_Real_exponent_5 : decode b_Real_exponent 5 = .ok (.lushr, 1) := by decide +kernel
theorem d_Real_exponent_6 : decode b_Real_exponent 6 = .ok (.l2i, 1) := by decide +kernel
theorem d_Real_exponent_7 : decode b_Real_exponent 7 = .ok (.aload_n 0, 1) := by decide +kernel
theorem d_Real_exponent_8 : decode b_Real_exponent 8 = .ok (.getfield 35, 3) := by decide +kernel
theorem d_Real_exponent_11 : decode b_Real_exponent 11 = .ok (.iand, 1) := by decide +kernel
theorem d_Real_exponent_12 : decode b_Real_exponent 12 = .ok (.ireturn, 1) := by decide +kernel
def F_Real_exponent (K0 : rK) (a1 : Int64) : Int32 := ((((a1).toUInt64 >>> ((K0.1).toInt64.toUInt64 &&& Int64.toUInt64 63)).toInt64).toInt32) &&& K0.2.1
set_option maxHeartbeats 4000000 in
set_option maxRecDepth 100000 in
theorem c_Real_exponent (l : Launch) (o0 : Nat) (K0 : rK) (a1 : Int64) : Met l y_Real_exponent (.code y_Real_exponent b_Real_exponent 3 (some .int) :: BIG) ({ frames := 0, cells := 0, slots := 0, locals := 0 } : Room) (va_Pc [.ref o0, .long a1] (pre1 o0 K0)) (pQ (.int (F_Real_exponent K0 a1))) 0 0 (fun _ => False) := by
  refine pOpen_i rfl (Nat.le_of_ble_eq_true rfl) ?_
  intro p e s m args below meth c Q ls hx hb hml hown hts hT hp hl hret
  obtain ⟨hNB, hRe_o0⟩ := hp
  have hown : s.vm.findClass R_Real = some m.cls := hown
  have hl : lv_has ls 3 [(0, .ref o0), (1, .long a1)] := hl
  obtain ⟨r, h⟩ : ∃ r, F_Real_exponent K0 a1 = r := ⟨_, rfl⟩
  rw [h] at hret
  have h : (((((a1).toUInt64 >>> ((K0.1).toInt64.toUInt64 &&& Int64.toUInt64 63)).toInt64).toInt32) &&& K0.2.1) = r := h
  refine lv_lload_n hx hb d_Real_exponent_0 rfl (lv_at hl 1 rfl) ?_
  refine lv_aload_n hx hb d_Real_exponent_1 rfl (lv_at hl 0 rfl) ?_
  refine vk_getf hx hb (hRe_o0.2.1) va_S.rf hown (hT _ m_5) (fun _ h9 => h9) d_Real_exponent_2 ?_
  refine lv_lushr hx hb d_Real_exponent_5 rfl ?_
  refine lv_l2i hx hb d_Real_exponent_6 rfl ?_
  refine lv_aload_n hx hb d_Real_exponent_7 rfl (lv_at hl 0 rfl) ?_
  refine vk_getf hx hb (hRe_o0.2.2.1) va_S.rf hown (hT _ m_16) (fun _ h9 => h9) d_Real_exponent_8 ?_
  refine lv_iand hx hb d_Real_exponent_11 ?_
  exact hret 12 ls _ h d_Real_exponent_12
-- Real_fraction
theorem d_Real_fraction_0 : decode b_Real_fraction 0 = .ok (.lload_n 1, 1) := by decide +kernel
theorem d_Real_fraction_1 : decode b_Real_fraction 1 = .ok (.lconst 1, 1) := by decide +kernel
theorem d_Real_fraction_2 : decode b_Real_fraction 2 = .ok (.aload_n 0, 1) := by decide +kernel
theorem d_Real_fraction_3 : decode b_Real_fraction 3 = .ok (.getfield 31, 3) := by decide +kernel
theorem d_Real_fraction_6 : decode b_Real_fraction 6 = .ok (.lshl, 1) := by decide +kernel
theorem d_Real_fraction_7 : decode b_Real_fraction 7 = .ok (.lconst 1, 1) := by decide +kernel
theorem d_Real_fraction_8 : decode b_Real_fraction 8 = .ok (.lsub, 1) := by decide +kernel
theorem d_Real_fraction_9 : decode b_Real_fraction 9 = .ok (.land, 1) := by decide +kernel
theorem d_Real_fraction_10 : decode b_Real_fraction 10 = .ok (.lreturn, 1) := by decide +kernel
def F_Real_fraction (K0 : rK) (a1 : Int64) : Int64 := a1 &&& (((1 : Int64) <<< ((K0.1).toInt64 &&& 63)) - (1 : Int64))
set_option maxHeartbeats 4000000 in
set_option maxRecDepth 100000 in
theorem c_Real_fraction (l : Launch) (o0 : Nat) (K0 : rK) (a1 : Int64) : Met l y_Real_fraction (.code y_Real_fraction b_Real_fraction 3 (some .long) :: BIG) ({ frames := 0, cells := 0, slots := 0, locals := 0 } : Room) (va_Pc [.ref o0, .long a1] (pre1 o0 K0)) (pQ (.long (F_Real_fraction K0 a1))) 0 0 (fun _ => False) := by
  refine pOpen_l rfl (Nat.le_of_ble_eq_true rfl) ?_
  intro p e s m args below meth c Q ls hx hb hml hown hts hT hp hl hret
  obtain ⟨hNB, hRe_o0⟩ := hp
  have hown : s.vm.findClass R_Real = some m.cls := hown
  have hl : lv_has ls 3 [(0, .ref o0), (1, .long a1)] := hl
  obtain ⟨r, h⟩ : ∃ r, F_Real_fraction K0 a1 = r := ⟨_, rfl⟩
  rw [h] at hret
  have h : (a1 &&& (((1 : Int64) <<< ((K0.1).toInt64 &&& 63)) - (1 : Int64))) = r := h
  refine lv_lload_n hx hb d_Real_fraction_0 rfl (lv_at hl 1 rfl) ?_
  refine lv_lconst hx hb d_Real_fraction_1 lc_1 ?_
  refine lv_aload_n hx hb d_Real_fraction_2 rfl (lv_at hl 0 rfl) ?_
  refine vk_getf hx hb (hRe_o0.2.1) va_S.rf hown (hT _ m_5) (fun _ h9 => h9) d_Real_fraction_3 ?_
  refine lv_lshl hx hb d_Real_fraction_6 rfl ?_
  refine lv_lconst hx hb d_Real_fraction_7 lc_1 ?_
  refine lv_lsub hx hb d_Real_fraction_8 ?_
  refine lv_land hx hb d_Real_fraction_9 ?_
  exact hret 10 ls _ h d_Real_fraction_10
-- Real_significand
theorem d_Real_significand_0 : decode b_Real_significand 0 = .ok (.aload_n 0, 1) := by decide +kernel
theorem d_Real_significand_1 : decode b_Real_significand 1 = .ok (.lload_n 1, 1) := by decide +kernel
theorem d_Real_significand_2 : decode b_Real_significand 2 = .ok (.invokevirtual 56, 3) := by decide +kernel
theorem d_Real_significand_5 : decode b_Real_significand 5 = .ok (.ifCond .ne 11, 3) := by decide +kernel
theorem d_Real_significand_8 : decode b_Real_significand 8 = .ok (.aload_n 0, 1) := by decide +kernel
theorem d_Real_significand_9 : decode b_Real_significand 9 = .ok (.lload_n 1, 1) := by decide +kernel
theorem d_Real_significand_10 : decode b_Real_significand 10 = .ok (.invokevirtual 60, 3) := by decide +kernel
theorem d_Real_significand_13 : decode b_Real_significand 13 = .ok (.goto 15, 3) := by decide +kernel
theorem d_Real_significand_16 : decode b_Real_significand 16 = .ok (.aload_n 0, 1) := by decide +kernel
theorem d_Real_significand_17 : decode b_Real_significand 17 = .ok (.lload_n 1, 1) := by decide +kernel
theorem d_Real_significand_18 : decode b_Real_significand 18 = .ok (.invokevirtual 60, 3) := by decide +kernel
theorem d_Real_significand_21 : decode b_Real_significand 21 = .ok (.lconst 1, 1) := by decide +kernel
theorem d_Real_significand_22 : decode b_Real_significand 22 = .ok (.aload_n 0, 1) := by decide +kernel
theorem d_Real_significand_23 : decode b_Real_significand 23 = .ok (.getfield 31, 3) := by decide +kernel
theorem d_Real_significand_26 : decode b_Real_significand 26 = .ok (.lshl, 1) := by decide +kernel
theorem d_Real_significand_27 : decode b_Real_significand 27 = .ok (.lor, 1) := by decide +kernel
theorem d_Real_significand_28 : decode b_Real_significand 28 = .ok (.lreturn, 1) := by decide +kernel
def F_Real_significand (K0 : rK) (a1 : Int64) : Int64 := lt_ (if ¬ (F_Real_exponent K0 a1) = 0 then (F_Real_fraction K0 a1) ||| ((1 : Int64) <<< ((K0.1).toInt64 &&& 63)) else F_Real_fraction K0 a1) fun x1 => x1
set_option maxHeartbeats 4000000 in
set_option maxRecDepth 100000 in
theorem c_Real_significand (l : Launch) (o0 : Nat) (K0 : rK) (a1 : Int64) : Met l y_Real_significand (.code y_Real_significand b_Real_significand 3 (some .long) :: BIG) ({ frames := 1, cells := 0, slots := 0, locals := 22 } : Room) (va_Pc [.ref o0, .long a1] (pre1 o0 K0)) (pQ (.long (F_Real_significand K0 a1))) 0 0 (fun _ => False) := by
  refine pOpen_l rfl (Nat.le_of_ble_eq_true rfl) ?_
  intro p e s m args below meth c Q ls hx hb hml hown hts hT hp hl hret
  obtain ⟨hNB, hRe_o0⟩ := hp
  have hown : s.vm.findClass R_Real = some m.cls := hown
  have hl : lv_has ls 3 [(0, .ref o0), (1, .long a1)] := hl
  obtain ⟨r, h⟩ : ∃ r, F_Real_significand K0 a1 = r := ⟨_, rfl⟩
  rw [h] at hret
  have h : (lt_ (if ¬ (F_Real_exponent K0 a1) = 0 then (F_Real_fraction K0 a1) ||| ((1 : Int64) <<< ((K0.1).toInt64 &&& 63)) else F_Real_fraction K0 a1) fun x1 => x1) = r := h
  refine lv_aload_n hx hb d_Real_significand_0 rfl (lv_at hl 0 rfl) ?_
  refine lv_lload_n hx hb d_Real_significand_1 rfl (lv_at hl 1 rfl) ?_
  refine q_V (As := [.long a1]) (rest := []) (n := 1) hx hb hml hown hts (c_Real_exponent l o0 K0 a1) rfl rfl m_17 m_18 m_19 m_20 m_11 (by decide +kernel) ⟨Nat.le_of_ble_eq_true rfl, Nat.le_of_ble_eq_true rfl⟩ (rAt_rc hRe_o0) (p1_bl) (fun U hU hW => p1_mv hU hW hNB hRe_o0) rfl hl.1 rfl (Nat.le_of_ble_eq_true rfl) d_Real_significand_2 ⟨Nat.zero_le _, Nat.zero_le _⟩ ?_
  obtain ⟨x1, e_x1, h⟩ := lt_o h
  have hJ28 : ∀ (x1' : Int64) (ls : Array Slot), x1 = x1' → lv_has ls 3 [] → W p l e ({ frames := 1, cells := 0, slots := 0, locals := 22 } : Room) s m args below meth c s.heap [] 0 0 Q (F0 m 28 ls [.long x1']) := by
    intro x1' ls q_x1 hl
    subst q_x1
    exact hret 28 ls _ h d_Real_significand_28
  refine lv_if_ne (tgt := 16) hx hb d_Real_significand_5 rfl (fun hc => ?_) (fun hc => ?_)
  · have e_x1 := e_x1.trans (if_pos hc)
    refine lv_aload_n hx hb d_Real_significand_16 rfl (lv_at hl 0 rfl) ?_
    refine lv_lload_n hx hb d_Real_significand_17 rfl (lv_at hl 1 rfl) ?_
    refine q_V (As := [.long a1]) (rest := []) (n := 1) hx hb hml hown hts (c_Real_fraction l o0 K0 a1) rfl rfl m_21 m_22 m_23 m_24 m_11 (by decide +kernel) ⟨Nat.le_of_ble_eq_true rfl, Nat.le_of_ble_eq_true rfl⟩ (rAt_rc hRe_o0) (p1_bl) (fun U hU hW => p1_mv hU hW hNB hRe_o0) rfl hl.1 rfl (Nat.le_of_ble_eq_true rfl) d_Real_significand_18 ⟨Nat.zero_le _, Nat.zero_le _⟩ ?_
    refine lv_lconst hx hb d_Real_significand_21 lc_1 ?_
    refine lv_aload_n hx hb d_Real_significand_22 rfl (lv_at hl 0 rfl) ?_
    refine vk_getf hx hb (hRe_o0.2.1) va_S.rf hown (hT _ m_5) (fun _ h9 => h9) d_Real_significand_23 ?_
    refine lv_lshl hx hb d_Real_significand_26 rfl ?_
    refine lv_lor hx hb d_Real_significand_27 ?_
    exact hJ28 _ ls e_x1 (lv_sub hl [] rfl)
  · have hc := not_not_intro hc
    have e_x1 := e_x1.trans (if_neg hc)
    refine lv_aload_n hx hb d_Real_significand_8 rfl (lv_at hl 0 rfl) ?_
    refine lv_lload_n hx hb d_Real_significand_9 rfl (lv_at hl 1 rfl) ?_
    refine q_V (As := [.long a1]) (rest := []) (n := 1) hx hb hml hown hts (c_Real_fraction l o0 K0 a1) rfl rfl m_21 m_22 m_23 m_24 m_11 (by decide +kernel) ⟨Nat.le_of_ble_eq_true rfl, Nat.le_of_ble_eq_true rfl⟩ (rAt_rc hRe_o0) (p1_bl) (fun U hU hW => p1_mv hU hW hNB hRe_o0) rfl hl.1 rfl (Nat.le_of_ble_eq_true rfl) d_Real_significand_10 ⟨Nat.zero_le _, Nat.zero_le _⟩ ?_
    refine lv_goto (tgt := 28) hx hb d_Real_significand_13 rfl ?_
    exact hJ28 _ ls e_x1 (lv_sub hl [] rfl)
-- Real_power
theorem d_Real_power_0 : decode b_Real_power 0 = .ok (.aload_n 0, 1) := by decide +kernel
theorem d_Real_power_1 : decode b_Real_power 1 = .ok (.getfield 38, 3) := by decide +kernel
theorem d_Real_power_4 : decode b_Real_power 4 = .ok (.aload_n 0, 1) := by decide +kernel
theorem d_Real_power_5 : decode b_Real_power 5 = .ok (.lload_n 1, 1) := by decide +kernel
theorem d_Real_power_6 : decode b_Real_power 6 = .ok (.invokevirtual 56, 3) := by decide +kernel
theorem d_Real_power_9 : decode b_Real_power 9 = .ok (.iconst 1, 1) := by decide +kernel
theorem d_Real_power_10 : decode b_Real_power 10 = .ok (.invokestatic 63, 3) := by decide +kernel
theorem d_Real_power_13 : decode b_Real_power 13 = .ok (.iadd, 1) := by decide +kernel
theorem d_Real_power_14 : decode b_Real_power 14 = .ok (.iconst 1, 1) := by decide +kernel
theorem d_Real_power_15 : decode b_Real_power 15 = .ok (.isub, 1) := by decide +kernel
theorem d_Real_power_16 : decode b_Real_power 16 = .ok (.ireturn, 1) := by decide +kernel
def F_Real_power (K0 : rK) (a1 : Int64) : Int32 := (K0.2.2.1 + (if (F_Real_exponent K0 a1) < (1 : Int32) then (1 : Int32) else F_Real_exponent K0 a1)) - (1 : Int32)
set_option maxHeartbeats 4000000 in
set_option maxRecDepth 100000 in
theorem c_Real_power (l : Launch) (o0 : Nat) (K0 : rK) (a1 : Int64) : Met l y_Real_power (.code y_Real_power b_Real_power 3 (some .int) :: BIG) ({ frames := 1, cells := 0, slots := 0, locals := 23 } : Room) (va_Pc [.ref o0, .long a1] (pre1 o0 K0)) (pQ (.int (F_Real_power K0 a1))) 0 0 (fun _ => False) := by
  refine pOpen_i rfl (Nat.le_of_ble_eq_true rfl) ?_
  intro p e s m args below meth c Q ls hx hb hml hown hts hT hp hl hret
  obtain ⟨hNB, hRe_o0⟩ := hp
  have hown : s.vm.findClass R_Real = some m.cls := hown
  have hl : lv_has ls 3 [(0, .ref o0), (1, .long a1)] := hl
  obtain ⟨r, h⟩ : ∃ r, F_Real_power K0 a1 = r := ⟨_, rfl⟩
  rw [h] at hret
  have h : ((K0.2.2.1 + (if (F_Real_exponent K0 a1) < (1 : Int32) then (1 : Int32) else F_Real_exponent K0 a1)) - (1 : Int32)) = r := h
  refine lv_aload_n hx hb d_Real_power_0 rfl (lv_at hl 0 rfl) ?_
  refine vk_getf hx hb (hRe_o0.2.2.2.1) va_S.rf hown (hT _ m_25) (fun _ h9 => h9) d_Real_power_1 ?_
  refine lv_aload_n hx hb d_Real_power_4 rfl (lv_at hl 0 rfl) ?_
  refine lv_lload_n hx hb d_Real_power_5 rfl (lv_at hl 1 rfl) ?_
  refine q_V (As := [.long a1]) (rest := [.int K0.2.2.1]) (n := 1) hx hb hml hown hts (c_Real_exponent l o0 K0 a1) rfl rfl m_17 m_18 m_19 m_20 m_11 (by decide +kernel) ⟨Nat.le_of_ble_eq_true rfl, Nat.le_of_ble_eq_true rfl⟩ (rAt_rc hRe_o0) (p1_bl) (fun U hU hW => p1_mv hU hW hNB hRe_o0) rfl hl.1 rfl (Nat.le_of_ble_eq_true rfl) d_Real_power_6 ⟨Nat.zero_le _, Nat.zero_le _⟩ ?_
  refine lv_iconst hx hb d_Real_power_9 ic_1 ?_
  refine va_mmax hx hb (hml.trans hl.1.symm) hown (hT _ m_26) (hT _ m_27) (hT _ m_28) (hT _ m_29) (Nat.le_of_ble_eq_true rfl) (Nat.le_of_ble_eq_true rfl) (Nat.zero_le _) (Nat.zero_le _) d_Real_power_10 ?_
  refine lv_iadd hx hb d_Real_power_13 ?_
  refine lv_iconst hx hb d_Real_power_14 ic_1 ?_
  refine lv_isub hx hb d_Real_power_15 ?_
  exact hret 16 ls _ h d_Real_power_16
-- Real_isCloserBelow
theorem d_Real_isCloserBelow_0 : decode b_Real_isCloserBelow 0 = .ok (.aload_n 0, 1) := by decide +kernel
theorem d_Real_isCloserBelow_1 : decode b_Real_isCloserBelow 1 = .ok (.lload_n 1, 1) := by decide +kernel
theorem d_Real_isCloserBelow_2 : decode b_Real_isCloserBelow 2 = .ok (.invokevirtual 60, 3) := by decide +kernel
theorem d_Real_isCloserBelow_5 : decode b_Real_isCloserBelow 5 = .ok (.lconst 0, 1) := by decide +kernel
theorem d_Real_isCloserBelow_6 : decode b_Real_isCloserBelow 6 = .ok (.lcmp, 1) := by decide +kernel
theorem d_Real_isCloserBelow_7 : decode b_Real_isCloserBelow 7 = .ok (.ifCond .ne 16, 3) := by decide +kernel
theorem d_Real_isCloserBelow_10 : decode b_Real_isCloserBelow 10 = .ok (.aload_n 0, 1) := by decide +kernel
theorem d_Real_isCloserBelow_11 : decode b_Real_isCloserBelow 11 = .ok (.lload_n 1, 1) := by decide +kernel
theorem d_Real_isCloserBelow_12 : decode b_Real_isCloserBelow 12 = .ok (.invokevirtual 56, 3) := by decide +kernel
theorem d_Real_isCloserBelow_15 : decode b_Real_isCloserBelow 15 = .ok (.iconst 1, 1) := by decide +kernel
theorem d_Real_isCloserBelow_16 : decode b_Real_isCloserBelow 16 = .ok (.if_icmp .le 7, 3) := by decide +kernel
theorem d_Real_isCloserBelow_19 : decode b_Real_isCloserBelow 19 = .ok (.iconst 1, 1) := by decide +kernel
theorem d_Real_isCloserBelow_20 : decode b_Real_isCloserBelow 20 = .ok (.goto 4, 3) := by decide +kernel
theorem d_Real_isCloserBelow_23 : decode b_Real_isCloserBelow 23 = .ok (.iconst 0, 1) := by decide +kernel
theorem d_Real_isCloserBelow_24 : decode b_Real_isCloserBelow 24 = .ok (.ireturn, 1) := by decide +kernel
def F_Real_isCloserBelow (K0 : rK) (a1 : Int64) : Int32 := lt_ (if ¬ (F_Real_fraction K0 a1) = (0 : Int64) then (0 : Int32) else if (F_Real_exponent K0 a1) ≤ (1 : Int32) then (0 : Int32) else (1 : Int32)) fun x1 => x1
set_option maxHeartbeats 4000000 in
set_option maxRecDepth 100000 in
theorem c_Real_isCloserBelow (l : Launch) (o0 : Nat) (K0 : rK) (a1 : Int64) : Met l y_Real_isCloserBelow (.code y_Real_isCloserBelow b_Real_isCloserBelow 3 (some .boolean) :: BIG) ({ frames := 1, cells := 0, slots := 0, locals := 22 } : Room) (va_Pc [.ref o0, .long a1] (pre1 o0 K0)) (pQ (.int (F_Real_isCloserBelow K0 a1))) 0 0 (fun _ => False) := by
  refine pOpen_z rfl (Nat.le_of_ble_eq_true rfl) ?_
  intro p e s m args below meth c Q ls hx hb hml hown hts hT hp hl hret
  obtain ⟨hNB, hRe_o0⟩ := hp
  have hown : s.vm.findClass R_Real = some m.cls := hown
  have hl : lv_has ls 3 [(0, .ref o0), (1, .long a1)] := hl
  obtain ⟨r, h⟩ : ∃ r, F_Real_isCloserBelow K0 a1 = r := ⟨_, rfl⟩
  rw [h] at hret
  have h : (lt_ (if ¬ (F_Real_fraction K0 a1) = (0 : Int64) then (0 : Int32) else if (F_Real_exponent K0 a1) ≤ (1 : Int32) then (0 : Int32) else (1 : Int32)) fun x1 => x1) = r := h
  refine lv_aload_n hx hb d_Real_isCloserBelow_0 rfl (lv_at hl 0 rfl) ?_
  refine lv_lload_n hx hb d_Real_isCloserBelow_1 rfl (lv_at hl 1 rfl) ?_
  refine q_V (As := [.long a1]) (rest := []) (n := 1) hx hb hml hown hts (c_Real_fraction l o0 K0 a1) rfl rfl m_21 m_22 m_23 m_24 m_11 (by decide +kernel) ⟨Nat.le_of_ble_eq_true rfl, Nat.le_of_ble_eq_true rfl⟩ (rAt_rc hRe_o0) (p1_bl) (fun U hU hW => p1_mv hU hW hNB hRe_o0) rfl hl.1 rfl (Nat.le_of_ble_eq_true rfl) d_Real_isCloserBelow_2 ⟨Nat.zero_le _, Nat.zero_le _⟩ ?_
  refine lv_lconst hx hb d_Real_isCloserBelow_5 lc_0 ?_
  refine W.lcmp hx hb d_Real_isCloserBelow_6 ?_
  obtain ⟨x1, e_x1, h⟩ := lt_o h
  have hJ24 : ∀ (x1' : Int32) (ls : Array Slot), x1 = x1' → lv_has ls 3 [] → W p l e ({ frames := 1, cells := 0, slots := 0, locals := 22 } : Room) s m args below meth c s.heap [] 0 0 Q (F0 m 24 ls [.int x1']) := by
    intro x1' ls q_x1 hl
    subst q_x1
    exact hret 24 ls _ h d_Real_isCloserBelow_24 (nb_1 ((by rw [e_x1]; exact ite01 (Or.inl rfl) (ite01 (Or.inl rfl) (Or.inr rfl)))))
  refine lv_if_ne (tgt := 23) hx hb d_Real_isCloserBelow_7 rfl (fun hc => ?_) (fun hc => ?_)
  · have hc := mt (lg_cmp_eq _ _).mpr hc
    have e_x1 := e_x1.trans (if_pos hc)
    refine lv_iconst hx hb d_Real_isCloserBelow_23 ic_0 ?_
    exact hJ24 _ ls e_x1 (lv_sub hl [] rfl)
  · have hc := not_not_intro ((lg_cmp_eq _ _).mp hc)
    have e_x1 := e_x1.trans (if_neg hc)
    refine lv_aload_n hx hb d_Real_isCloserBelow_10 rfl (lv_at hl 0 rfl) ?_
    refine lv_lload_n hx hb d_Real_isCloserBelow_11 rfl (lv_at hl 1 rfl) ?_
    refine q_V (As := [.long a1]) (rest := []) (n := 1) hx hb hml hown hts (c_Real_exponent l o0 K0 a1) rfl rfl m_17 m_18 m_19 m_20 m_11 (by decide +kernel) ⟨Nat.le_of_ble_eq_true rfl, Nat.le_of_ble_eq_true rfl⟩ (rAt_rc hRe_o0) (p1_bl) (fun U hU hW => p1_mv hU hW hNB hRe_o0) rfl hl.1 rfl (Nat.le_of_ble_eq_true rfl) d_Real_isCloserBelow_12 ⟨Nat.zero_le _, Nat.zero_le _⟩ ?_
    refine lv_iconst hx hb d_Real_isCloserBelow_15 ic_1 ?_
    refine lv_icmp_le (tgt := 23) hx hb d_Real_isCloserBelow_16 rfl (fun hc => ?_) (fun hc => ?_)
    · have e_x1 := e_x1.trans (if_pos hc)
      refine lv_iconst hx hb d_Real_isCloserBelow_23 ic_0 ?_
      exact hJ24 _ ls e_x1 (lv_sub hl [] rfl)
    · have e_x1 := e_x1.trans (if_neg hc)
      refine lv_iconst hx hb d_Real_isCloserBelow_19 ic_1 ?_
      refine lv_goto (tgt := 24) hx hb d_Real_isCloserBelow_20 rfl ?_
      exact hJ24 _ ls e_x1 (lv_sub hl [] rfl)
-- Real_signed
theorem d_Real_signed_0 : decode b_Real_signed 0 = .ok (.iload_n 1, 1) := by decide +kernel
theorem d_Real_signed_1 : decode b_Real_signed 1 = .ok (.ifCond .eq 12, 3) := by decide +kernel
theorem d_Real_signed_4 : decode b_Real_signed 4 = .ok (.lload_n 2, 1) := by decide +kernel
theorem d_Real_signed_5 : decode b_Real_signed 5 = .ok (.aload_n 0, 1) := by decide +kernel
theorem d_Real_signed_6 : decode b_Real_signed 6 = .ok (.getfield 41, 3) := by decide +kernel
theorem d_Real_signed_9 : decode b_Real_signed 9 = .ok (.lor, 1) := by decide +kernel
theorem d_Real_signed_10 : decode b_Real_signed 10 = .ok (.goto 4, 3) := by decide +kernel
theorem d_Real_signed_13 : decode b_Real_signed 13 = .ok (.lload_n 2, 1) := by decide +kernel
theorem d_Real_signed_14 : decode b_Real_signed 14 = .ok (.lreturn, 1) := by decide +kernel
def F_Real_signed (K0 : rK) (a1 : Int32) (a2 : Int64) : Int64 := lt_ (if a1 = 0 then a2 else a2 ||| K0.2.2.2.1) fun x1 => x1
set_option maxHeartbeats 4000000 in
set_option maxRecDepth 100000 in
theorem c_Real_signed (l : Launch) (o0 : Nat) (K0 : rK) (a1 : Int32) (a2 : Int64) : Met l y_Real_signed (.code y_Real_signed b_Real_signed 4 (some .long) :: BIG) ({ frames := 0, cells := 0, slots := 0, locals := 0 } : Room) (va_Pc [.ref o0, .int a1, .long a2] (pre1 o0 K0)) (pQ (.long (F_Real_signed K0 a1 a2))) 0 0 (fun _ => False) := by
  refine pOpen_l rfl (Nat.le_of_ble_eq_true rfl) ?_
  intro p e s m args below meth c Q ls hx hb hml hown hts hT hp hl hret
  obtain ⟨hNB, hRe_o0⟩ := hp
  have hown : s.vm.findClass R_Real = some m.cls := hown
  have hl : lv_has ls 4 [(0, .ref o0), (1, .int a1), (2, .long a2)] := hl
  obtain ⟨r, h⟩ : ∃ r, F_Real_signed K0 a1 a2 = r := ⟨_, rfl⟩
  rw [h] at hret
  have h : (lt_ (if a1 = 0 then a2 else a2 ||| K0.2.2.2.1) fun x1 => x1) = r := h
  refine lv_iload_n hx hb d_Real_signed_0 rfl (lv_at hl 1 rfl) ?_
  obtain ⟨x1, e_x1, h⟩ := lt_o h
  have hJ14 : ∀ (x1' : Int64) (ls : Array Slot), x1 = x1' → lv_has ls 4 [] → W p l e ({ frames := 0, cells := 0, slots := 0, locals := 0 } : Room) s m args below meth c s.heap [] 0 0 Q (F0 m 14 ls [.long x1']) := by
    intro x1' ls q_x1 hl
    subst q_x1
    exact hret 14 ls _ h d_Real_signed_14
  refine lv_if_eq (tgt := 13) hx hb d_Real_signed_1 rfl (fun hc => ?_) (fun hc => ?_)
  · have e_x1 := e_x1.trans (if_pos hc)
    refine lv_lload_n hx hb d_Real_signed_13 rfl (lv_at hl 2 rfl) ?_
    exact hJ14 _ ls e_x1 (lv_sub hl [] rfl)
  · have e_x1 := e_x1.trans (if_neg hc)
    refine lv_lload_n hx hb d_Real_signed_4 rfl (lv_at hl 2 rfl) ?_
    refine lv_aload_n hx hb d_Real_signed_5 rfl (lv_at hl 0 rfl) ?_
    refine vk_getf hx hb (hRe_o0.2.2.2.2.1) va_S.rf hown (hT _ m_6) (fun _ h9 => h9) d_Real_signed_6 ?_
    refine lv_lor hx hb d_Real_signed_9 ?_
    refine lv_goto (tgt := 14) hx hb d_Real_signed_10 rfl ?_
    exact hJ14 _ ls e_x1 (lv_sub hl [] rfl)
-- Real_negate
theorem d_Real_negate_0 : decode b_Real_negate 0 = .ok (.aload_n 0, 1) := by decide +kernel
theorem d_Real_negate_1 : decode b_Real_negate 1 = .ok (.lload_n 1, 1) := by decide +kernel
theorem d_Real_negate_2 : decode b_Real_negate 2 = .ok (.invokevirtual 69, 3) := by decide +kernel
theorem d_Real_negate_5 : decode b_Real_negate 5 = .ok (.ifCond .eq 10, 3) := by decide +kernel
theorem d_Real_negate_8 : decode b_Real_negate 8 = .ok (.aload_n 0, 1) := by decide +kernel
theorem d_Real_negate_9 : decode b_Real_negate 9 = .ok (.invokevirtual 72, 3) := by decide +kernel
theorem d_Real_negate_12 : decode b_Real_negate 12 = .ok (.goto 25, 3) := by decide +kernel
theorem d_Real_negate_15 : decode b_Real_negate 15 = .ok (.aload_n 0, 1) := by decide +kernel
theorem d_Real_negate_16 : decode b_Real_negate 16 = .ok (.aload_n 0, 1) := by decide +kernel
theorem d_Real_negate_17 : decode b_Real_negate 17 = .ok (.lload_n 1, 1) := by decide +kernel
theorem d_Real_negate_18 : decode b_Real_negate 18 = .ok (.invokevirtual 52, 3) := by decide +kernel
theorem d_Real_negate_21 : decode b_Real_negate 21 = .ok (.ifCond .ne 7, 3) := by decide +kernel
theorem d_Real_negate_24 : decode b_Real_negate 24 = .ok (.iconst 1, 1) := by decide +kernel
theorem d_Real_negate_25 : decode b_Real_negate 25 = .ok (.goto 4, 3) := by decide +kernel
theorem d_Real_negate_28 : decode b_Real_negate 28 = .ok (.iconst 0, 1) := by decide +kernel
theorem d_Real_negate_29 : decode b_Real_negate 29 = .ok (.aload_n 0, 1) := by decide +kernel
theorem d_Real_negate_30 : decode b_Real_negate 30 = .ok (.lload_n 1, 1) := by decide +kernel
theorem d_Real_negate_31 : decode b_Real_negate 31 = .ok (.invokevirtual 48, 3) := by decide +kernel
theorem d_Real_negate_34 : decode b_Real_negate 34 = .ok (.invokevirtual 76, 3) := by decide +kernel
theorem d_Real_negate_37 : decode b_Real_negate 37 = .ok (.lreturn, 1) := by decide +kernel
def F_Real_negate (K0 : rK) (a1 : Int64) : Int64 := lt_ (if (F_Real_isNan K0 a1) = 0 then if ¬ (F_Real_isNegative K0 a1) = 0 then F_Real_signed K0 (0 : Int32) (F_Real_magnitude K0 a1) else F_Real_signed K0 (1 : Int32) (F_Real_magnitude K0 a1) else F_Real_nan K0) fun x1 => x1
set_option maxHeartbeats 4000000 in
set_option maxRecDepth 100000 in
theorem c_Real_negate (l : Launch) (o0 : Nat) (K0 : rK) (a1 : Int64) : Met l y_Real_negate (.code y_Real_negate b_Real_negate 3 (some .long) :: BIG) ({ frames := 2, cells := 0, slots := 0, locals := 44 } : Room) (va_Pc [.ref o0, .long a1] (pre1 o0 K0)) (pQ (.long (F_Real_negate K0 a1))) 0 0 (fun _ => False) := by
  refine pOpen_l rfl (Nat.le_of_ble_eq_true rfl) ?_
  intro p e s m args below meth c Q ls hx hb hml hown hts hT hp hl hret
  obtain ⟨hNB, hRe_o0⟩ := hp
  have hown : s.vm.findClass R_Real = some m.cls := hown
  have hl : lv_has ls 3 [(0, .ref o0), (1, .long a1)] := hl
  obtain ⟨r, h⟩ : ∃ r, F_Real_negate K0 a1 = r := ⟨_, rfl⟩
  rw [h] at hret
  have h : (lt_ (if (F_Real_isNan K0 a1) = 0 then if ¬ (F_Real_isNegative K0 a1) = 0 then F_Real_signed K0 (0 : Int32) (F_Real_magnitude K0 a1) else F_Real_signed K0 (1 : Int32) (F_Real_magnitude K0 a1) else F_Real_nan K0) fun x1 => x1) = r := h
  refine lv_aload_n hx hb d_Real_negate_0 rfl (lv_at hl 0 rfl) ?_
  refine lv_lload_n hx hb d_Real_negate_1 rfl (lv_at hl 1 rfl) ?_
  refine q_V (As := [.long a1]) (rest := []) (n := 1) hx hb hml hown hts (c_Real_isNan l o0 K0 a1) rfl rfl m_30 m_31 m_32 m_33 m_11 (by decide +kernel) ⟨Nat.le_of_ble_eq_true rfl, Nat.le_of_ble_eq_true rfl⟩ (rAt_rc hRe_o0) (p1_bl) (fun U hU hW => p1_mv hU hW hNB hRe_o0) rfl hl.1 rfl (Nat.le_of_ble_eq_true rfl) d_Real_negate_2 ⟨Nat.zero_le _, Nat.zero_le _⟩ ?_
  obtain ⟨x1, e_x1, h⟩ := lt_o h
  have hJ37 : ∀ (x1' : Int64) (ls : Array Slot), x1 = x1' → lv_has ls 3 [] → W p l e ({ frames := 2, cells := 0, slots := 0, locals := 44 } : Room) s m args below meth c s.heap [] 0 0 Q (F0 m 37 ls [.long x1']) := by
    intro x1' ls q_x1 hl
    subst q_x1
    exact hret 37 ls _ h d_Real_negate_37
  refine lv_if_eq (tgt := 15) hx hb d_Real_negate_5 rfl (fun hc => ?_) (fun hc => ?_)
  · have e_x1 := e_x1.trans (if_pos hc)
    refine lv_aload_n hx hb d_Real_negate_15 rfl (lv_at hl 0 rfl) ?_
    refine lv_aload_n hx hb d_Real_negate_16 rfl (lv_at hl 0 rfl) ?_
    refine lv_lload_n hx hb d_Real_negate_17 rfl (lv_at hl 1 rfl) ?_
    refine q_V (As := [.long a1]) (rest := [.ref o0]) (n := 1) hx hb hml hown hts (c_Real_isNegative l o0 K0 a1) rfl rfl m_12 m_13 m_14 m_15 m_11 (by decide +kernel) ⟨Nat.le_of_ble_eq_true rfl, Nat.le_of_ble_eq_true rfl⟩ (rAt_rc hRe_o0) (p1_bl) (fun U hU hW => p1_mv hU hW hNB hRe_o0) rfl hl.1 rfl (Nat.le_of_ble_eq_true rfl) d_Real_negate_18 ⟨Nat.zero_le _, Nat.zero_le _⟩ ?_
    refine lv_if_ne (tgt := 28) hx hb d_Real_negate_21 rfl (fun hc => ?_) (fun hc => ?_)
    · have e_x1 := e_x1.trans (if_pos hc)
      refine lv_iconst hx hb d_Real_negate_28 ic_0 ?_
      refine lv_aload_n hx hb d_Real_negate_29 rfl (lv_at hl 0 rfl) ?_
      refine lv_lload_n hx hb d_Real_negate_30 rfl (lv_at hl 1 rfl) ?_
      refine q_V (As := [.long a1]) (rest := [.int (0 : Int32), .ref o0]) (n := 1) hx hb hml hown hts (c_Real_magnitude l o0 K0 a1) rfl rfl m_7 m_8 m_9 m_10 m_11 (by decide +kernel) ⟨Nat.le_of_ble_eq_true rfl, Nat.le_of_ble_eq_true rfl⟩ (rAt_rc hRe_o0) (p1_bl) (fun U hU hW => p1_mv hU hW hNB hRe_o0) rfl hl.1 rfl (Nat.le_of_ble_eq_true rfl) d_Real_negate_31 ⟨Nat.zero_le _, Nat.zero_le _⟩ ?_
      refine q_V (As := [.int (0 : Int32), .long (F_Real_magnitude K0 a1)]) (rest := []) (n := 2) hx hb hml hown hts (c_Real_signed l o0 K0 (0 : Int32) (F_Real_magnitude K0 a1)) rfl rfl m_34 m_35 m_36 m_37 m_11 (by decide +kernel) ⟨Nat.le_of_ble_eq_true rfl, Nat.le_of_ble_eq_true rfl⟩ (rAt_rc hRe_o0) (p1_bl) (fun U hU hW => p1_mv hU hW hNB hRe_o0) rfl hl.1 rfl (Nat.le_of_ble_eq_true rfl) d_Real_negate_34 ⟨Nat.zero_le _, Nat.zero_le _⟩ ?_
      exact hJ37 _ ls e_x1 (lv_sub hl [] rfl)
    · have hc := not_not_intro hc
      have e_x1 := e_x1.trans (if_neg hc)
      refine lv_iconst hx hb d_Real_negate_24 ic_1 ?_
      refine lv_goto (tgt := 29) hx hb d_Real_negate_25 rfl ?_
      refine lv_aload_n hx hb d_Real_negate_29 rfl (lv_at hl 0 rfl) ?_
      refine lv_lload_n hx hb d_Real_negate_30 rfl (lv_at hl 1 rfl) ?_
      refine q_V (As := [.long a1]) (rest := [.int (1 : Int32), .ref o0]) (n := 1) hx hb hml hown hts (c_Real_magnitude l o0 K0 a1) rfl rfl m_7 m_8 m_9 m_10 m_11 (by decide +kernel) ⟨Nat.le_of_ble_eq_true rfl, Nat.le_of_ble_eq_true rfl⟩ (rAt_rc hRe_o0) (p1_bl) (fun U hU hW => p1_mv hU hW hNB hRe_o0) rfl hl.1 rfl (Nat.le_of_ble_eq_true rfl) d_Real_negate_31 ⟨Nat.zero_le _, Nat.zero_le _⟩ ?_
      refine q_V (As := [.int (1 : Int32), .long (F_Real_magnitude K0 a1)]) (rest := []) (n := 2) hx hb hml hown hts (c_Real_signed l o0 K0 (1 : Int32) (F_Real_magnitude K0 a1)) rfl rfl m_34 m_35 m_36 m_37 m_11 (by decide +kernel) ⟨Nat.le_of_ble_eq_true rfl, Nat.le_of_ble_eq_true rfl⟩ (rAt_rc hRe_o0) (p1_bl) (fun U hU hW => p1_mv hU hW hNB hRe_o0) rfl hl.1 rfl (Nat.le_of_ble_eq_true rfl) d_Real_negate_34 ⟨Nat.zero_le _, Nat.zero_le _⟩ ?_
      exact hJ37 _ ls e_x1 (lv_sub hl [] rfl)
  · have e_x1 := e_x1.trans (if_neg hc)
    refine lv_aload_n hx hb d_Real_negate_8 rfl (lv_at hl 0 rfl) ?_
    refine q_V (As := []) (rest := []) (n := 0) hx hb hml hown hts (c_Real_nan l o0 K0) rfl rfl m_38 m_39 m_40 m_41 m_11 (by decide +kernel) ⟨Nat.le_of_ble_eq_true rfl, Nat.le_of_ble_eq_true rfl⟩ (rAt_rc hRe_o0) (p1_bl) (fun U hU hW => p1_mv hU hW hNB hRe_o0) rfl hl.1 rfl (Nat.le_of_ble_eq_true rfl) d_Real_negate_9 ⟨Nat.zero_le _, Nat.zero_le _⟩ ?_
    refine lv_goto (tgt := 37) hx hb d_Real_negate_12 rfl ?_
    exact hJ37 _ ls e_x1 (lv_sub hl [] rfl)
-- Real_infiniteSum
theorem d_Real_infiniteSum_0 : decode b_Real_infiniteSum 0 = .ok (.aload_n 0, 1) := by decide +kernel
theorem d_Real_infiniteSum_1 : decode b_Real_infiniteSum 1 = .ok (.lload_n 1, 1) := by decide +kernel
theorem d_Real_infiniteSum_2 : decode b_Real_infiniteSum 2 = .ok (.invokevirtual 80, 3) := by decide +kernel
theorem d_Real_infiniteSum_5 : decode b_Real_infiniteSum 5 = .ok (.ifCond .eq 29, 3) := by decide +kernel
theorem d_Real_infiniteSum_8 : decode b_Real_infiniteSum 8 = .ok (.aload_n 0, 1) := by decide +kernel
theorem d_Real_infiniteSum_9 : decode b_Real_infiniteSum 9 = .ok (.lload_n 3, 1) := by decide +kernel
theorem d_Real_infiniteSum_10 : decode b_Real_infiniteSum 10 = .ok (.invokevirtual 80, 3) := by decide +kernel
theorem d_Real_infiniteSum_13 : decode b_Real_infiniteSum 13 = .ok (.ifCond .eq 21, 3) := by decide +kernel
theorem d_Real_infiniteSum_16 : decode b_Real_infiniteSum 16 = .ok (.aload_n 0, 1) := by decide +kernel
theorem d_Real_infiniteSum_17 : decode b_Real_infiniteSum 17 = .ok (.lload_n 1, 1) := by decide +kernel
theorem d_Real_infiniteSum_18 : decode b_Real_infiniteSum 18 = .ok (.invokevirtual 52, 3) := by decide +kernel
theorem d_Real_infiniteSum_21 : decode b_Real_infiniteSum 21 = .ok (.aload_n 0, 1) := by decide +kernel
theorem d_Real_infiniteSum_22 : decode b_Real_infiniteSum 22 = .ok (.lload_n 3, 1) := by decide +kernel
theorem d_Real_infiniteSum_23 : decode b_Real_infiniteSum 23 = .ok (.invokevirtual 52, 3) := by decide +kernel
theorem d_Real_infiniteSum_26 : decode b_Real_infiniteSum 26 = .ok (.if_icmp .eq 8, 3) := by decide +kernel
theorem d_Real_infiniteSum_29 : decode b_Real_infiniteSum 29 = .ok (.aload_n 0, 1) := by decide +kernel
theorem d_Real_infiniteSum_30 : decode b_Real_infiniteSum 30 = .ok (.invokevirtual 72, 3) := by decide +kernel
theorem d_Real_infiniteSum_33 : decode b_Real_infiniteSum 33 = .ok (.lreturn, 1) := by decide +kernel
theorem d_Real_infiniteSum_34 : decode b_Real_infiniteSum 34 = .ok (.aload_n 0, 1) := by decide +kernel
theorem d_Real_infiniteSum_35 : decode b_Real_infiniteSum 35 = .ok (.aload_n 0, 1) := by decide +kernel
theorem d_Real_infiniteSum_36 : decode b_Real_infiniteSum 36 = .ok (.lload_n 1, 1) := by decide +kernel
theorem d_Real_infiniteSum_37 : decode b_Real_infiniteSum 37 = .ok (.invokevirtual 80, 3) := by decide +kernel
theorem d_Real_infiniteSum_40 : decode b_Real_infiniteSum 40 = .ok (.ifCond .eq 11, 3) := by decide +kernel
theorem d_Real_infiniteSum_43 : decode b_Real_infiniteSum 43 = .ok (.aload_n 0, 1) := by decide +kernel
theorem d_Real_infiniteSum_44 : decode b_Real_infiniteSum 44 = .ok (.lload_n 1, 1) := by decide +kernel
theorem d_Real_infiniteSum_45 : decode b_Real_infiniteSum 45 = .ok (.invokevirtual 52, 3) := by decide +kernel
theorem d_Real_infiniteSum_48 : decode b_Real_infiniteSum 48 = .ok (.goto 8, 3) := by decide +kernel
theorem d_Real_infiniteSum_51 : decode b_Real_infiniteSum 51 = .ok (.aload_n 0, 1) := by decide +kernel
theorem d_Real_infiniteSum_52 : decode b_Real_infiniteSum 52 = .ok (.lload_n 3, 1) := by decide +kernel
theorem d_Real_infiniteSum_53 : decode b_Real_infiniteSum 53 = .ok (.invokevirtual 52, 3) := by decide +kernel
theorem d_Real_infiniteSum_56 : decode b_Real_infiniteSum 56 = .ok (.aload_n 0, 1) := by decide +kernel
theorem d_Real_infiniteSum_57 : decode b_Real_infiniteSum 57 = .ok (.getfield 45, 3) := by decide +kernel
theorem d_Real_infiniteSum_60 : decode b_Real_infiniteSum 60 = .ok (.invokevirtual 76, 3) := by decide +kernel
theorem d_Real_infiniteSum_63 : decode b_Real_infiniteSum 63 = .ok (.lreturn, 1) := by decide +kernel
def F_Real_infiniteSum (K0 : rK) (a1 : Int64) (a2 : Int64) : Int64 := lt_ (fun (_ : Unit) => lt_ (if (F_Real_isInfinite K0 a1) = 0 then F_Real_isNegative K0 a2 else F_Real_isNegative K0 a1) fun x1 => F_Real_signed K0 x1 K0.2.2.2.2) fun j34 => if (F_Real_isInfinite K0 a1) = 0 then (j34 ()) else (if (F_Real_isInfinite K0 a2) = 0 then (j34 ()) else (if (F_Real_isNegative K0 a1) = (F_Real_isNegative K0 a2) then (j34 ()) else (F_Real_nan K0)))
set_option maxHeartbeats 4000000 in
set_option maxRecDepth 100000 in
theorem c_Real_infiniteSum (l : Launch) (o0 : Nat) (K0 : rK) (a1 : Int64) (a2 : Int64) : Met l y_Real_infiniteSum (.code y_Real_infiniteSum b_Real_infiniteSum 5 (some .long) :: BIG) ({ frames := 2, cells := 0, slots := 0, locals := 44 } : Room) (va_Pc [.ref o0, .long a1, .long a2] (pre1 o0 K0)) (pQ (.long (F_Real_infiniteSum K0 a1 a2))) 0 0 (fun _ => False) := by
  refine pOpen_l rfl (Nat.le_of_ble_eq_true rfl) ?_
  intro p e s m args below meth c Q ls hx hb hml hown hts hT hp hl hret
  obtain ⟨hNB, hRe_o0⟩ := hp
  have hown : s.vm.findClass R_Real = some m.cls := hown
  have hl : lv_has ls 5 [(0, .ref o0), (1, .long a1), (3, .long a2)] := hl
  obtain ⟨r, h⟩ : ∃ r, F_Real_infiniteSum K0 a1 a2 = r := ⟨_, rfl⟩
  rw [h] at hret
  have h : (lt_ (fun (_ : Unit) => lt_ (if (F_Real_isInfinite K0 a1) = 0 then F_Real_isNegative K0 a2 else F_Real_isNegative K0 a1) fun x1 => F_Real_signed K0 x1 K0.2.2.2.2) fun j34 => if (F_Real_isInfinite K0 a1) = 0 then (j34 ()) else (if (F_Real_isInfinite K0 a2) = 0 then (j34 ()) else (if (F_Real_isNegative K0 a1) = (F_Real_isNegative K0 a2) then (j34 ()) else (F_Real_nan K0)))) = r := h
  refine lv_aload_n hx hb d_Real_infiniteSum_0 rfl (lv_at hl 0 rfl) ?_
  refine lv_lload_n hx hb d_Real_infiniteSum_1 rfl (lv_at hl 1 rfl) ?_
  refine q_V (As := [.long a1]) (rest := []) (n := 1) hx hb hml hown hts (c_Real_isInfinite l o0 K0 a1) rfl rfl m_42 m_43 m_44 m_45 m_11 (by decide +kernel) ⟨Nat.le_of_ble_eq_true rfl, Nat.le_of_ble_eq_true rfl⟩ (rAt_rc hRe_o0) (p1_bl) (fun U hU hW => p1_mv hU hW hNB hRe_o0) rfl hl.1 rfl (Nat.le_of_ble_eq_true rfl) d_Real_infiniteSum_2 ⟨Nat.zero_le _, Nat.zero_le _⟩ ?_
  obtain ⟨j34, e_j34, h⟩ := lt_o h
  have hJ34 : ∀ (ls : Array Slot), lv_has ls 5 [(0, .ref o0), (1, .long a1), (3, .long a2)] → j34 () = r → W p l e ({ frames := 2, cells := 0, slots := 0, locals := 44 } : Room) s m args below meth c s.heap [] 0 0 Q (F0 m 34 ls []) := by
    intro  ls hl h
    rw [e_j34] at h
    refine lv_aload_n hx hb d_Real_infiniteSum_34 rfl (lv_at hl 0 rfl) ?_
    refine lv_aload_n hx hb d_Real_infiniteSum_35 rfl (lv_at hl 0 rfl) ?_
    refine lv_lload_n hx hb d_Real_infiniteSum_36 rfl (lv_at hl 1 rfl) ?_
    refine q_V (As := [.long a1]) (rest := [.ref o0]) (n := 1) hx hb hml hown hts (c_Real_isInfinite l o0 K0 a1) rfl rfl m_42 m_43 m_44 m_45 m_11 (by decide +kernel) ⟨Nat.le_of_ble_eq_true rfl, Nat.le_of_ble_eq_true rfl⟩ (rAt_rc hRe_o0) (p1_bl) (fun U hU hW => p1_mv hU hW hNB hRe_o0) rfl hl.1 rfl (Nat.le_of_ble_eq_true rfl) d_Real_infiniteSum_37 ⟨Nat.zero_le _, Nat.zero_le _⟩ ?_
    obtain ⟨x1, e_x1, h⟩ := lt_o h
    have hJ56 : ∀ (x1' : Int32) (ls : Array Slot), x1 = x1' → lv_has ls 5 [(0, .ref o0)] → W p l e ({ frames := 2, cells := 0, slots := 0, locals := 44 } : Room) s m args below meth c s.heap [] 0 0 Q (F0 m 56 ls [.int x1', .ref o0]) := by
      intro x1' ls q_x1 hl
      subst q_x1
      refine lv_aload_n hx hb d_Real_infiniteSum_56 rfl (lv_at hl 0 rfl) ?_
      refine vk_getf hx hb (hRe_o0.2.2.2.2.2) va_S.rf hown (hT _ m_4) (fun _ h9 => h9) d_Real_infiniteSum_57 ?_
      refine q_V (As := [.int x1, .long K0.2.2.2.2]) (rest := []) (n := 2) hx hb hml hown hts (c_Real_signed l o0 K0 x1 K0.2.2.2.2) rfl rfl m_34 m_35 m_36 m_37 m_11 (by decide +kernel) ⟨Nat.le_of_ble_eq_true rfl, Nat.le_of_ble_eq_true rfl⟩ (rAt_rc hRe_o0) (p1_bl) (fun U hU hW => p1_mv hU hW hNB hRe_o0) rfl hl.1 rfl (Nat.le_of_ble_eq_true rfl) d_Real_infiniteSum_60 ⟨Nat.zero_le _, Nat.zero_le _⟩ ?_
      exact hret 63 ls _ h d_Real_infiniteSum_63
    refine lv_if_eq (tgt := 51) hx hb d_Real_infiniteSum_40 rfl (fun hc => ?_) (fun hc => ?_)
    · have e_x1 := e_x1.trans (if_pos hc)
      refine lv_aload_n hx hb d_Real_infiniteSum_51 rfl (lv_at hl 0 rfl) ?_
      refine lv_lload_n hx hb d_Real_infiniteSum_52 rfl (lv_at hl 2 rfl) ?_
      refine q_V (As := [.long a2]) (rest := [.ref o0]) (n := 1) hx hb hml hown hts (c_Real_isNegative l o0 K0 a2) rfl rfl m_12 m_13 m_14 m_15 m_11 (by decide +kernel) ⟨Nat.le_of_ble_eq_true rfl, Nat.le_of_ble_eq_true rfl⟩ (rAt_rc hRe_o0) (p1_bl) (fun U hU hW => p1_mv hU hW hNB hRe_o0) rfl hl.1 rfl (Nat.le_of_ble_eq_true rfl) d_Real_infiniteSum_53 ⟨Nat.zero_le _, Nat.zero_le _⟩ ?_
      exact hJ56 _ ls e_x1 (lv_sub hl [0] rfl)
    · have e_x1 := e_x1.trans (if_neg hc)
      refine lv_aload_n hx hb d_Real_infiniteSum_43 rfl (lv_at hl 0 rfl) ?_
      refine lv_lload_n hx hb d_Real_infiniteSum_44 rfl (lv_at hl 1 rfl) ?_
      refine q_V (As := [.long a1]) (rest := [.ref o0]) (n := 1) hx hb hml hown hts (c_Real_isNegative l o0 K0 a1) rfl rfl m_12 m_13 m_14 m_15 m_11 (by decide +kernel) ⟨Nat.le_of_ble_eq_true rfl, Nat.le_of_ble_eq_true rfl⟩ (rAt_rc hRe_o0) (p1_bl) (fun U hU hW => p1_mv hU hW hNB hRe_o0) rfl hl.1 rfl (Nat.le_of_ble_eq_true rfl) d_Real_infiniteSum_45 ⟨Nat.zero_le _, Nat.zero_le _⟩ ?_
      refine lv_goto (tgt := 56) hx hb d_Real_infiniteSum_48 rfl ?_
      exact hJ56 _ ls e_x1 (lv_sub hl [0] rfl)
  refine lv_if_eq (tgt := 34) hx hb d_Real_infiniteSum_5 rfl (fun hc => ?_) (fun hc => ?_)
  · have h := ite_t hc h
    exact hJ34 ls (lv_sub hl [0, 1, 2] rfl) h
  · have h := ite_f hc h
    refine lv_aload_n hx hb d_Real_infiniteSum_8 rfl (lv_at hl 0 rfl) ?_
    refine lv_lload_n hx hb d_Real_infiniteSum_9 rfl (lv_at hl 2 rfl) ?_
    refine q_V (As := [.long a2]) (rest := []) (n := 1) hx hb hml hown hts (c_Real_isInfinite l o0 K0 a2) rfl rfl m_42 m_43 m_44 m_45 m_11 (by decide +kernel) ⟨Nat.le_of_ble_eq_true rfl, Nat.le_of_ble_eq_true rfl⟩ (rAt_rc hRe_o0) (p1_bl) (fun U hU hW => p1_mv hU hW hNB hRe_o0) rfl hl.1 rfl (Nat.le_of_ble_eq_true rfl) d_Real_infiniteSum_10 ⟨Nat.zero_le _, Nat.zero_le _⟩ ?_
    refine lv_if_eq (tgt := 34) hx hb d_Real_infiniteSum_13 rfl (fun hc => ?_) (fun hc => ?_)
    · have h := ite_t hc h
      exact hJ34 ls (lv_sub hl [0, 1, 2] rfl) h
    · have h := ite_f hc h
      refine lv_aload_n hx hb d_Real_infiniteSum_16 rfl (lv_at hl 0 rfl) ?_
      refine lv_lload_n hx hb d_Real_infiniteSum_17 rfl (lv_at hl 1 rfl) ?_
      refine q_V (As := [.long a1]) (rest := []) (n := 1) hx hb hml hown hts (c_Real_isNegative l o0 K0 a1) rfl rfl m_12 m_13 m_14 m_15 m_11 (by decide +kernel) ⟨Nat.le_of_ble_eq_true rfl, Nat.le_of_ble_eq_true rfl⟩ (rAt_rc hRe_o0) (p1_bl) (fun U hU hW => p1_mv hU hW hNB hRe_o0) rfl hl.1 rfl (Nat.le_of_ble_eq_true rfl) d_Real_infiniteSum_18 ⟨Nat.zero_le _, Nat.zero_le _⟩ ?_
      refine lv_aload_n hx hb d_Real_infiniteSum_21 rfl (lv_at hl 0 rfl) ?_
      refine lv_lload_n hx hb d_Real_infiniteSum_22 rfl (lv_at hl 2 rfl) ?_
      refine q_V (As := [.long a2]) (rest := [.int (F_Real_isNegative K0 a1)]) (n := 1) hx hb hml hown hts (c_Real_isNegative l o0 K0 a2) rfl rfl m_12 m_13 m_14 m_15 m_11 (by decide +kernel) ⟨Nat.le_of_ble_eq_true rfl, Nat.le_of_ble_eq_true rfl⟩ (rAt_rc hRe_o0) (p1_bl) (fun U hU hW => p1_mv hU hW hNB hRe_o0) rfl hl.1 rfl (Nat.le_of_ble_eq_true rfl) d_Real_infiniteSum_23 ⟨Nat.zero_le _, Nat.zero_le _⟩ ?_
      refine lv_icmp_eq (tgt := 34) hx hb d_Real_infiniteSum_26 rfl (fun hc => ?_) (fun hc => ?_)
      · have h := ite_t hc h
        exact hJ34 ls (lv_sub hl [0, 1, 2] rfl) h
      · have h := ite_f hc h
        refine lv_aload_n hx hb d_Real_infiniteSum_29 rfl (lv_at hl 0 rfl) ?_
        refine q_V (As := []) (rest := []) (n := 0) hx hb hml hown hts (c_Real_nan l o0 K0) rfl rfl m_38 m_39 m_40 m_41 m_11 (by decide +kernel) ⟨Nat.le_of_ble_eq_true rfl, Nat.le_of_ble_eq_true rfl⟩ (rAt_rc hRe_o0) (p1_bl) (fun U hU hW => p1_mv hU hW hNB hRe_o0) rfl hl.1 rfl (Nat.le_of_ble_eq_true rfl) d_Real_infiniteSum_30 ⟨Nat.zero_le _, Nat.zero_le _⟩ ?_
        exact hret 33 ls _ h d_Real_infiniteSum_33
-- Real_jammed
theorem d_Real_jammed_0 : decode b_Real_jammed 0 = .ok (.iload_n 2, 1) := by decide +kernel
theorem d_Real_jammed_1 : decode b_Real_jammed 1 = .ok (.ifCond .eq 9, 3) := by decide +kernel
theorem d_Real_jammed_4 : decode b_Real_jammed 4 = .ok (.lload_n 0, 1) := by decide +kernel
theorem d_Real_jammed_5 : decode b_Real_jammed 5 = .ok (.lconst 1, 1) := by decide +kernel
theorem d_Real_jammed_6 : decode b_Real_jammed 6 = .ok (.lor, 1) := by decide +kernel
theorem d_Real_jammed_7 : decode b_Real_jammed 7 = .ok (.goto 4, 3) := by decide +kernel
theorem d_Real_jammed_10 : decode b_Real_jammed 10 = .ok (.lload_n 0, 1) := by decide +kernel
theorem d_Real_jammed_11 : decode b_Real_jammed 11 = .ok (.lreturn, 1) := by decide +kernel
def F_Real_jammed (a0 : Int64) (a1 : Int32) : Int64 := lt_ (if a1 = 0 then a0 else a0 ||| (1 : Int64)) fun x1 => x1
set_option maxHeartbeats 4000000 in
set_option maxRecDepth 100000 in
theorem c_Real_jammed (l : Launch) (a0 : Int64) (a1 : Int32) : Met l y_Real_jammed (.code y_Real_jammed b_Real_jammed 3 (some .long) :: BIG) ({ frames := 0, cells := 0, slots := 0, locals := 0 } : Room) (va_Pc [.long a0, .int a1] (pre0)) (pQ (.long (F_Real_jammed a0 a1))) 0 0 (fun _ => False) := by
  refine pOpen_l rfl (Nat.le_of_ble_eq_true rfl) ?_
  intro p e s m args below meth c Q ls hx hb hml hown hts hT hp hl hret
  have hNB := hp
  have hown : s.vm.findClass R_Real = some m.cls := hown
  have hl : lv_has ls 3 [(0, .long a0), (2, .int a1)] := hl
  obtain ⟨r, h⟩ : ∃ r, F_Real_jammed a0 a1 = r := ⟨_, rfl⟩
  rw [h] at hret
  have h : (lt_ (if a1 = 0 then a0 else a0 ||| (1 : Int64)) fun x1 => x1) = r := h
  refine lv_iload_n hx hb d_Real_jammed_0 rfl (lv_at hl 1 rfl) ?_
  obtain ⟨x1, e_x1, h⟩ := lt_o h
  have hJ11 : ∀ (x1' : Int64) (ls : Array Slot), x1 = x1' → lv_has ls 3 [] → W p l e ({ frames := 0, cells := 0, slots := 0, locals := 0 } : Room) s m args below meth c s.heap [] 0 0 Q (F0 m 11 ls [.long x1']) := by
    intro x1' ls q_x1 hl
    subst q_x1
    exact hret 11 ls _ h d_Real_jammed_11
  refine lv_if_eq (tgt := 10) hx hb d_Real_jammed_1 rfl (fun hc => ?_) (fun hc => ?_)
  · have e_x1 := e_x1.trans (if_pos hc)
    refine lv_lload_n hx hb d_Real_jammed_10 rfl (lv_at hl 0 rfl) ?_
    exact hJ11 _ ls e_x1 (lv_sub hl [] rfl)
  · have e_x1 := e_x1.trans (if_neg hc)
    refine lv_lload_n hx hb d_Real_jammed_4 rfl (lv_at hl 0 rfl) ?_
    refine lv_lconst hx hb d_Real_jammed_5 lc_1 ?_
    refine lv_lor hx hb d_Real_jammed_6 ?_
    refine lv_goto (tgt := 11) hx hb d_Real_jammed_7 rfl ?_
    exact hJ11 _ ls e_x1 (lv_sub hl [] rfl)
-- Real_shiftedDown
theorem d_Real_shiftedDown_0 : decode b_Real_shiftedDown 0 = .ok (.iload_n 2, 1) := by decide +kernel
theorem d_Real_shiftedDown_1 : decode b_Real_shiftedDown 1 = .ok (.bipush 63, 2) := by decide +kernel
theorem d_Real_shiftedDown_3 : decode b_Real_shiftedDown 3 = .ok (.if_icmp .le 19, 3) := by decide +kernel
theorem d_Real_shiftedDown_6 : decode b_Real_shiftedDown 6 = .ok (.lconst 0, 1) := by decide +kernel
theorem d_Real_shiftedDown_7 : decode b_Real_shiftedDown 7 = .ok (.lload_n 0, 1) := by decide +kernel
theorem d_Real_shiftedDown_8 : decode b_Real_shiftedDown 8 = .ok (.lconst 0, 1) := by decide +kernel
theorem d_Real_shiftedDown_9 : decode b_Real_shiftedDown 9 = .ok (.lcmp, 1) := by decide +kernel
theorem d_Real_shiftedDown_10 : decode b_Real_shiftedDown 10 = .ok (.ifCond .eq 7, 3) := by decide +kernel
theorem d_Real_shiftedDown_13 : decode b_Real_shiftedDown 13 = .ok (.iconst 1, 1) := by decide +kernel
theorem d_Real_shiftedDown_14 : decode b_Real_shiftedDown 14 = .ok (.goto 4, 3) := by decide +kernel
theorem d_Real_shiftedDown_17 : decode b_Real_shiftedDown 17 = .ok (.iconst 0, 1) := by decide +kernel
theorem d_Real_shiftedDown_18 : decode b_Real_shiftedDown 18 = .ok (.invokestatic 99, 3) := by decide +kernel
theorem d_Real_shiftedDown_21 : decode b_Real_shiftedDown 21 = .ok (.lreturn, 1) := by decide +kernel
theorem d_Real_shiftedDown_22 : decode b_Real_shiftedDown 22 = .ok (.lload_n 0, 1) := by decide +kernel
theorem d_Real_shiftedDown_23 : decode b_Real_shiftedDown 23 = .ok (.iload_n 2, 1) := by decide +kernel
theorem d_Real_shiftedDown_24 : decode b_Real_shiftedDown 24 = .ok (.lushr, 1) := by decide +kernel
theorem d_Real_shiftedDown_25 : decode b_Real_shiftedDown 25 = .ok (.lload_n 0, 1) := by decide +kernel
theorem d_Real_shiftedDown_26 : decode b_Real_shiftedDown 26 = .ok (.lconst 1, 1) := by decide +kernel
theorem d_Real_shiftedDown_27 : decode b_Real_shiftedDown 27 = .ok (.iload_n 2, 1) := by decide +kernel
theorem d_Real_shiftedDown_28 : decode b_Real_shiftedDown 28 = .ok (.lshl, 1) := by decide +kernel
theorem d_Real_shiftedDown_29 : decode b_Real_shiftedDown 29 = .ok (.lconst 1, 1) := by decide +kernel
theorem d_Real_shiftedDown_30 : decode b_Real_shiftedDown 30 = .ok (.lsub, 1) := by decide +kernel
theorem d_Real_shiftedDown_31 : decode b_Real_shiftedDown 31 = .ok (.land, 1) := by decide +kernel
theorem d_Real_shiftedDown_32 : decode b_Real_shiftedDown 32 = .ok (.lconst 0, 1) := by decide +kernel
theorem d_Real_shiftedDown_33 : decode b_Real_shiftedDown 33 = .ok (.lcmp, 1) := by decide +kernel
theorem d_Real_shiftedDown_34 : decode b_Real_shiftedDown 34 = .ok (.ifCond .eq 7, 3) := by decide +kernel
theorem d_Real_shiftedDown_37 : decode b_Real_shiftedDown 37 = .ok (.iconst 1, 1) := by decide +kernel
theorem d_Real_shiftedDown_38 : decode b_Real_shiftedDown 38 = .ok (.goto 4, 3) := by decide +kernel
theorem d_Real_shiftedDown_41 : decode b_Real_shiftedDown 41 = .ok (.iconst 0, 1) := by decide +kernel
theorem d_Real_shiftedDown_42 : decode b_Real_shiftedDown 42 = .ok (.invokestatic 99, 3) := by decide +kernel
theorem d_Real_shiftedDown_45 : decode b_Real_shiftedDown 45 = .ok (.lreturn, 1) := by decide +kernel
def F_Real_shiftedDown (a0 : Int64) (a1 : Int32) : Int64 := if a1 ≤ (63 : Int32) then (lt_ (if (a0 &&& (((1 : Int64) <<< ((a1).toInt64 &&& 63)) - (1 : Int64))) = (0 : Int64) then (0 : Int32) else (1 : Int32)) fun x1 => F_Real_jammed (((a0).toUInt64 >>> ((a1).toInt64.toUInt64 &&& Int64.toUInt64 63)).toInt64) x1) else (lt_ (if a0 = (0 : Int64) then (0 : Int32) else (1 : Int32)) fun x2 => F_Real_jammed (0 : Int64) x2)
set_option maxHeartbeats 4000000 in
set_option maxRecDepth 100000 in
theorem c_Real_shiftedDown (l : Launch) (a0 : Int64) (a1 : Int32) : Met l y_Real_shiftedDown (.code y_Real_shiftedDown b_Real_shiftedDown 3 (some .long) :: BIG) ({ frames := 1, cells := 0, slots := 0, locals := 22 } : Room) (va_Pc [.long a0, .int a1] (pre0)) (pQ (.long (F_Real_shiftedDown a0 a1))) 0 0 (fun _ => False) := by
  refine pOpen_l rfl (Nat.le_of_ble_eq_true rfl) ?_
  intro p e s m args below meth c Q ls hx hb hml hown hts hT hp hl hret
  have hNB := hp
  have hown : s.vm.findClass R_Real = some m.cls := hown
  have hl : lv_has ls 3 [(0, .long a0), (2, .int a1)] := hl
  obtain ⟨r, h⟩ : ∃ r, F_Real_shiftedDown a0 a1 = r := ⟨_, rfl⟩
  rw [h] at hret
  have h : (if a1 ≤ (63 : Int32) then (lt_ (if (a0 &&& (((1 : Int64) <<< ((a1).toInt64 &&& 63)) - (1 : Int64))) = (0 : Int64) then (0 : Int32) else (1 : Int32)) fun x1 => F_Real_jammed (((a0).toUInt64 >>> ((a1).toInt64.toUInt64 &&& Int64.toUInt64 63)).toInt64) x1) else (lt_ (if a0 = (0 : Int64) then (0 : Int32) else (1 : Int32)) fun x2 => F_Real_jammed (0 : Int64) x2)) = r := h
  refine lv_iload_n hx hb d_Real_shiftedDown_0 rfl (lv_at hl 1 rfl) ?_
  refine lv_bipush hx hb d_Real_shiftedDown_1 bp_63 ?_
  refine lv_icmp_le (tgt := 22) hx hb d_Real_shiftedDown_3 rfl (fun hc => ?_) (fun hc => ?_)
  · have h := ite_t hc h
    refine lv_lload_n hx hb d_Real_shiftedDown_22 rfl (lv_at hl 0 rfl) ?_
    refine lv_iload_n hx hb d_Real_shiftedDown_23 rfl (lv_at hl 1 rfl) ?_
    refine lv_lushr hx hb d_Real_shiftedDown_24 rfl ?_
    refine lv_lload_n hx hb d_Real_shiftedDown_25 rfl (lv_at hl 0 rfl) ?_
    refine lv_lconst hx hb d_Real_shiftedDown_26 lc_1 ?_
    refine lv_iload_n hx hb d_Real_shiftedDown_27 rfl (lv_at hl 1 rfl) ?_
    refine lv_lshl hx hb d_Real_shiftedDown_28 rfl ?_
    refine lv_lconst hx hb d_Real_shiftedDown_29 lc_1 ?_
    refine lv_lsub hx hb d_Real_shiftedDown_30 ?_
    refine lv_land hx hb d_Real_shiftedDown_31 ?_
    refine lv_lconst hx hb d_Real_shiftedDown_32 lc_0 ?_
    refine W.lcmp hx hb d_Real_shiftedDown_33 ?_
    obtain ⟨x1, e_x1, h⟩ := lt_o h
    have hJ42 : ∀ (x1' : Int32) (ls : Array Slot), x1 = x1' → lv_has ls 3 [] → W p l e ({ frames := 1, cells := 0, slots := 0, locals := 22 } : Room) s m args below meth c s.heap [] 0 0 Q (F0 m 42 ls [.int x1', .long (((a0).toUInt64 >>> ((a1).toInt64.toUInt64 &&& Int64.toUInt64 63)).toInt64)]) := by
      intro x1' ls q_x1 hl
      subst q_x1
      refine q_S (As := [.long (((a0).toUInt64 >>> ((a1).toInt64.toUInt64 &&& Int64.toUInt64 63)).toInt64), .int x1]) (rest := []) (n := 2) hx hb hml hown hts (c_Real_jammed l (((a0).toUInt64 >>> ((a1).toInt64.toUInt64 &&& Int64.toUInt64 63)).toInt64) x1) rfl rfl m_46 m_47 m_48 m_11 (by decide +kernel) ⟨Nat.le_of_ble_eq_true rfl, Nat.le_of_ble_eq_true rfl⟩ (p0_bl) (fun U hU hW => p0_mv hU hW hNB) rfl hl.1 rfl (Nat.le_of_ble_eq_true rfl) d_Real_shiftedDown_42 ⟨Nat.zero_le _, Nat.zero_le _⟩ ?_
      exact hret 45 ls _ h d_Real_shiftedDown_45
    refine lv_if_eq (tgt := 41) hx hb d_Real_shiftedDown_34 rfl (fun hc => ?_) (fun hc => ?_)
    · have hc := (lg_cmp_eq _ _).mp hc
      have e_x1 := e_x1.trans (if_pos hc)
      refine lv_iconst hx hb d_Real_shiftedDown_41 ic_0 ?_
      exact hJ42 _ ls e_x1 (lv_sub hl [] rfl)
    · have hc := mt (lg_cmp_eq _ _).mpr hc
      have e_x1 := e_x1.trans (if_neg hc)
      refine lv_iconst hx hb d_Real_shiftedDown_37 ic_1 ?_
      refine lv_goto (tgt := 42) hx hb d_Real_shiftedDown_38 rfl ?_
      exact hJ42 _ ls e_x1 (lv_sub hl [] rfl)
  · have h := ite_f hc h
    refine lv_lconst hx hb d_Real_shiftedDown_6 lc_0 ?_
    refine lv_lload_n hx hb d_Real_shiftedDown_7 rfl (lv_at hl 0 rfl) ?_
    refine lv_lconst hx hb d_Real_shiftedDown_8 lc_0 ?_
    refine W.lcmp hx hb d_Real_shiftedDown_9 ?_
    obtain ⟨x2, e_x2, h⟩ := lt_o h
    have hJ18 : ∀ (x2' : Int32) (ls : Array Slot), x2 = x2' → lv_has ls 3 [] → W p l e ({ frames := 1, cells := 0, slots := 0, locals := 22 } : Room) s m args below meth c s.heap [] 0 0 Q (F0 m 18 ls [.int x2', .long (0 : Int64)]) := by
      intro x2' ls q_x2 hl
      subst q_x2
      refine q_S (As := [.long (0 : Int64), .int x2]) (rest := []) (n := 2) hx hb hml hown hts (c_Real_jammed l (0 : Int64) x2) rfl rfl m_46 m_47 m_48 m_11 (by decide +kernel) ⟨Nat.le_of_ble_eq_true rfl, Nat.le_of_ble_eq_true rfl⟩ (p0_bl) (fun U hU hW => p0_mv hU hW hNB) rfl hl.1 rfl (Nat.le_of_ble_eq_true rfl) d_Real_shiftedDown_18 ⟨Nat.zero_le _, Nat.zero_le _⟩ ?_
      exact hret 21 ls _ h d_Real_shiftedDown_21
    refine lv_if_eq (tgt := 17) hx hb d_Real_shiftedDown_10 rfl (fun hc => ?_) (fun hc => ?_)
    · have hc := (lg_cmp_eq _ _).mp hc
      have e_x2 := e_x2.trans (if_pos hc)
      refine lv_iconst hx hb d_Real_shiftedDown_17 ic_0 ?_
      exact hJ18 _ ls e_x2 (lv_sub hl [] rfl)
    · have hc := mt (lg_cmp_eq _ _).mpr hc
      have e_x2 := e_x2.trans (if_neg hc)
      refine lv_iconst hx hb d_Real_shiftedDown_13 ic_1 ?_
      refine lv_goto (tgt := 18) hx hb d_Real_shiftedDown_14 rfl ?_
      exact hJ18 _ ls e_x2 (lv_sub hl [] rfl)
