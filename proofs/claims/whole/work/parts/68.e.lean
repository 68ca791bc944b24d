-- Lt_putPointed
theorem d_Lt_putPointed_0 : decode b_Lt_putPointed 0 = .ok (.iload 4, 2) := by decide +kernel
theorem d_Lt_putPointed_2 : decode b_Lt_putPointed 2 = .ok (.ifCond .gt 24, 3) := by decide +kernel
theorem d_Lt_putPointed_5 : decode b_Lt_putPointed 5 = .ok (.aload_n 0, 1) := by decide +kernel
theorem d_Lt_putPointed_6 : decode b_Lt_putPointed 6 = .ok (.lload_n 1, 1) := by decide +kernel
theorem d_Lt_putPointed_7 : decode b_Lt_putPointed 7 = .ok (.iload 4, 2) := by decide +kernel
theorem d_Lt_putPointed_9 : decode b_Lt_putPointed 9 = .ok (.ineg, 1) := by decide +kernel
theorem d_Lt_putPointed_10 : decode b_Lt_putPointed 10 = .ok (.invokestatic 49, 3) := by decide +kernel
theorem d_Lt_putPointed_13 : decode b_Lt_putPointed 13 = .ok (.lmul, 1) := by decide +kernel
theorem d_Lt_putPointed_14 : decode b_Lt_putPointed 14 = .ok (.invokevirtual 45, 3) := by decide +kernel
theorem d_Lt_putPointed_17 : decode b_Lt_putPointed 17 = .ok (.aload_n 0, 1) := by decide +kernel
theorem d_Lt_putPointed_18 : decode b_Lt_putPointed 18 = .ok (.ldc 53, 2) := by decide +kernel
theorem d_Lt_putPointed_20 : decode b_Lt_putPointed 20 = .ok (.invokevirtual 55, 3) := by decide +kernel
theorem d_Lt_putPointed_23 : decode b_Lt_putPointed 23 = .ok (.goto 58, 3) := by decide +kernel
theorem d_Lt_putPointed_26 : decode b_Lt_putPointed 26 = .ok (.iload 4, 2) := by decide +kernel
theorem d_Lt_putPointed_28 : decode b_Lt_putPointed 28 = .ok (.iload_n 3, 1) := by decide +kernel
theorem d_Lt_putPointed_29 : decode b_Lt_putPointed 29 = .ok (.if_icmp .lt 20, 3) := by decide +kernel
theorem d_Lt_putPointed_32 : decode b_Lt_putPointed 32 = .ok (.aload_n 0, 1) := by decide +kernel
theorem d_Lt_putPointed_33 : decode b_Lt_putPointed 33 = .ok (.ldc 58, 2) := by decide +kernel
theorem d_Lt_putPointed_35 : decode b_Lt_putPointed 35 = .ok (.invokevirtual 55, 3) := by decide +kernel
theorem d_Lt_putPointed_38 : decode b_Lt_putPointed 38 = .ok (.aload_n 0, 1) := by decide +kernel
theorem d_Lt_putPointed_39 : decode b_Lt_putPointed 39 = .ok (.lload_n 1, 1) := by decide +kernel
theorem d_Lt_putPointed_40 : decode b_Lt_putPointed 40 = .ok (.lneg, 1) := by decide +kernel
theorem d_Lt_putPointed_41 : decode b_Lt_putPointed 41 = .ok (.iload 4, 2) := by decide +kernel
theorem d_Lt_putPointed_43 : decode b_Lt_putPointed 43 = .ok (.invokevirtual 37, 3) := by decide +kernel
theorem d_Lt_putPointed_46 : decode b_Lt_putPointed 46 = .ok (.goto 35, 3) := by decide +kernel
theorem d_Lt_putPointed_49 : decode b_Lt_putPointed 49 = .ok (.iload 4, 2) := by decide +kernel
theorem d_Lt_putPointed_51 : decode b_Lt_putPointed 51 = .ok (.invokestatic 49, 3) := by decide +kernel
theorem d_Lt_putPointed_54 : decode b_Lt_putPointed 54 = .ok (.lstore 5, 2) := by decide +kernel
theorem d_Lt_putPointed_56 : decode b_Lt_putPointed 56 = .ok (.aload_n 0, 1) := by decide +kernel
theorem d_Lt_putPointed_57 : decode b_Lt_putPointed 57 = .ok (.lload_n 1, 1) := by decide +kernel
theorem d_Lt_putPointed_58 : decode b_Lt_putPointed 58 = .ok (.lload 5, 2) := by decide +kernel
theorem d_Lt_putPointed_60 : decode b_Lt_putPointed 60 = .ok (.ldiv, 1) := by decide +kernel
theorem d_Lt_putPointed_61 : decode b_Lt_putPointed 61 = .ok (.invokevirtual 45, 3) := by decide +kernel
theorem d_Lt_putPointed_64 : decode b_Lt_putPointed 64 = .ok (.aload_n 0, 1) := by decide +kernel
theorem d_Lt_putPointed_65 : decode b_Lt_putPointed 65 = .ok (.bipush 46, 2) := by decide +kernel
theorem d_Lt_putPointed_67 : decode b_Lt_putPointed 67 = .ok (.invokevirtual 29, 3) := by decide +kernel
theorem d_Lt_putPointed_70 : decode b_Lt_putPointed 70 = .ok (.aload_n 0, 1) := by decide +kernel
theorem d_Lt_putPointed_71 : decode b_Lt_putPointed 71 = .ok (.lload_n 1, 1) := by decide +kernel
theorem d_Lt_putPointed_72 : decode b_Lt_putPointed 72 = .ok (.lload 5, 2) := by decide +kernel
theorem d_Lt_putPointed_74 : decode b_Lt_putPointed 74 = .ok (.lrem, 1) := by decide +kernel
theorem d_Lt_putPointed_75 : decode b_Lt_putPointed 75 = .ok (.lneg, 1) := by decide +kernel
theorem d_Lt_putPointed_76 : decode b_Lt_putPointed 76 = .ok (.iload 4, 2) := by decide +kernel
theorem d_Lt_putPointed_78 : decode b_Lt_putPointed 78 = .ok (.invokevirtual 37, 3) := by decide +kernel
theorem d_Lt_putPointed_81 : decode b_Lt_putPointed 81 = .ok (.return_, 1) := by decide +kernel
def F_Lt_putPointed (n : Nat) (len : Int32) (row : Nat → Int32) (a1 : Int64) (a2 : Int32) (a3 : Int32) : Option (Int32 × (Nat → Int32)) := lt_ (fun (len_1 : Int32) (row_2 : (Nat → Int32)) => some (len_1, row_2)) fun j81 => if 0 < a3 then (if a3 < a2 then ((F_Lt_powerOfTen n a3).bind fun x3 => gz_ (x3 = 0) <| (F_Lt_putWhole n len row (a1 / x3)).bind fun x4 => (F_Lt_put_i n x4.1 x4.2 (46 : Int32)).bind fun x5 => gz_ (x3 = 0) <| (F_Lt_putDigits n x5.1 x5.2 (-(a1 - a1 / x3 * x3)) a3).bind fun x6 => j81 x6.1 x6.2) else ((F_Lt_puts n [48, 46] 2 0 len row).bind fun x7 => (F_Lt_putDigits n x7.1 x7.2 (-a1) a3).bind fun x8 => j81 x8.1 x8.2)) else ((F_Lt_powerOfTen n (-a3)).bind fun x9 => (F_Lt_putWhole n len row (a1 * x9)).bind fun x10 => (F_Lt_puts n [46, 48] 2 0 x10.1 x10.2).bind fun x11 => j81 x11.1 x11.2)
set_option maxHeartbeats 4000000 in
set_option maxRecDepth 100000 in
theorem c_Lt_putPointed (l : Launch) (D : va_G) (A : Nat → Prop) (cI cL cC : ClassId) (ad : Nat → Nat) (X : va_W) (len : Int32) (tk : Int32) (row : Nat → Int32) (dig : Int64) (pw : Int32) (used : Int32) (lost : Int32) (lim : Nat → Int64) (oF oD : Nat) (kA vA : Nat → Nat) (n : Nat) (a1 : Int64) (a2 : Int32) (a3 : Int32) (r : Int32 × (Nat → Int32)) (h : F_Lt_putPointed n len row a1 a2 a3 = some r) : Met l y_Lt_putPointed (.code y_Lt_putPointed b_Lt_putPointed 7 none :: BIG) ({ frames := 5, cells := 0, slots := 0, locals := 107 } : Room) (va_Pc [.ref (ad 1), .long a1, .int a2, .int a3] (ePre D A (tysV cI cL cC) (gC cI cL cC ad X len tk row dig pw used lost lim) (fun U => eE oF oD kA vA A U U.heap))) (gQ D A none (gC cI cL cC ad X r.1 tk r.2 dig pw used lost lim)) 0 0 A := by
  refine eOpen_v rfl (Nat.le_of_ble_eq_true rfl) ?_
  intro p e s m args below meth c Q ls hx hb hml hown hts hT hNB hP hK hD hE hl hret
  have hown : s.vm.findClass R_Lt = some m.cls := hown
  have hS : va_S A s.heap s.heap [] := va_S.rf
  have hl : lv_has ls 7 [(0, .ref (ad 1)), (1, .long a1), (3, .int a2), (4, .int a3)] := hl
  have h : (lt_ (fun (len_1 : Int32) (row_2 : (Nat → Int32)) => some (len_1, row_2)) fun j81 => if 0 < a3 then (if a3 < a2 then ((F_Lt_powerOfTen n a3).bind fun x3 => gz_ (x3 = 0) <| (F_Lt_putWhole n len row (a1 / x3)).bind fun x4 => (F_Lt_put_i n x4.1 x4.2 (46 : Int32)).bind fun x5 => gz_ (x3 = 0) <| (F_Lt_putDigits n x5.1 x5.2 (-(a1 - a1 / x3 * x3)) a3).bind fun x6 => j81 x6.1 x6.2) else ((F_Lt_puts n [48, 46] 2 0 len row).bind fun x7 => (F_Lt_putDigits n x7.1 x7.2 (-a1) a3).bind fun x8 => j81 x8.1 x8.2)) else ((F_Lt_powerOfTen n (-a3)).bind fun x9 => (F_Lt_putWhole n len row (a1 * x9)).bind fun x10 => (F_Lt_puts n [46, 48] 2 0 x10.1 x10.2).bind fun x11 => j81 x11.1 x11.2)) = some r := h
  refine lv_iload hx hb d_Lt_putPointed_0 (lv_at hl 3 rfl) ?_
  obtain ⟨j81, e_j81, h⟩ := lt_o h
  have hJ81 : ∀ (len_1 : Int32) (row_2 : (Nat → Int32)) (ls : Array Slot) (H : Heap) (locs : List Loc), lv_has ls 7 [] → va_P D cls (gC cI cL cC ad X len_1 tk row_2 dig pw used lost lim) H → va_D A (gC cI cL cC ad X len_1 tk row_2 dig pw used lost lim) → va_S A s.heap H locs → j81 len_1 row_2 = some r → W p l e ({ frames := 5, cells := 0, slots := 0, locals := 107 } : Room) s m args below meth c H locs 0 0 Q (F0 m 81 ls []) := by
    intro len_1 row_2 ls H locs hl hP hD hS h
    rw [e_j81] at h
    obtain rfl := Option.some.inj h
    exact hret 81 ls _ _ hP hD hS d_Lt_putPointed_81
  refine lv_if_gt (tgt := 26) hx hb d_Lt_putPointed_2 rfl (fun hc => ?_) (fun hc => ?_)
  · have h := ite_t hc h
    refine lv_iload hx hb d_Lt_putPointed_26 (lv_at hl 3 rfl) ?_
    refine lv_iload_n hx hb d_Lt_putPointed_28 rfl (lv_at hl 2 rfl) ?_
    refine lv_icmp_lt (tgt := 49) hx hb d_Lt_putPointed_29 rfl (fun hc => ?_) (fun hc => ?_)
    · have h := ite_t hc h
      refine lv_iload hx hb d_Lt_putPointed_49 (lv_at hl 3 rfl) ?_
      obtain ⟨x3, e_x3, h⟩ := bd_o h
      refine q_S (As := [.int a3]) (rest := []) (n := 1) hx hb hml hown hts (c_Lt_powerOfTen l n a3 _ e_x3) rfl rfl m_192 m_193 m_194 m_183 (by decide +kernel) ⟨Nat.le_of_ble_eq_true rfl, Nat.le_of_ble_eq_true rfl⟩ (p0_bl) (fun U hU hW => p0_mv hU hW hNB) rfl hl.1 rfl (Nat.le_of_ble_eq_true rfl) d_Lt_putPointed_51 ⟨Nat.zero_le _, Nat.zero_le _⟩ ?_
      refine lv_lstore hx hb d_Lt_putPointed_54 hl (by decide) rfl (fun ls hl => ?_)
      have hl : lv_has ls 7 [(5, .long x3), (0, .ref (ad 1)), (1, .long a1), (3, .int a2), (4, .int a3)] := hl
      refine lv_aload_n hx hb d_Lt_putPointed_56 rfl (lv_at hl 1 rfl) ?_
      refine lv_lload_n hx hb d_Lt_putPointed_57 rfl (lv_at hl 2 rfl) ?_
      refine lv_lload hx hb d_Lt_putPointed_58 (lv_at hl 0 rfl) ?_
      have hz := gz_n h
      have h := gz_h h
      refine lv_ldiv hx hb d_Lt_putPointed_60 hz ?_
      obtain ⟨x4, e_x4, h⟩ := bd_o h
      refine q_GV (D := D) (A := A) (C := R_Lt) (b := ad 1) (As := [.long (a1 / x3)]) (rest := []) (n := 1) hx hb hml hown hts (c_Lt_putWhole l D A cI cL cC ad X len tk row dig pw used lost lim n (a1 / x3) x4 e_x4) rfl rfl m_195 m_196 m_197 m_198 m_183 (by decide +kernel) ⟨Nat.le_of_ble_eq_true rfl, Nat.le_of_ble_eq_true rfl⟩ (va_recv hK hP (ci := 1) rfl (q0 := 1) rfl) hNB hK hP hD hS rfl hl.1 rfl (Nat.le_of_ble_eq_true rfl) d_Lt_putPointed_61 ⟨Nat.zero_le _, Nat.zero_le _⟩ (fun H locs hP hD hS => ?_)
      have hP : va_P D cls (gC cI cL cC ad X x4.1 tk x4.2 dig pw used lost lim) H := hP
      have hD : va_D A (gC cI cL cC ad X x4.1 tk x4.2 dig pw used lost lim) := hD
      refine lv_aload_n hx hb d_Lt_putPointed_64 rfl (lv_at hl 1 rfl) ?_
      refine lv_bipush hx hb d_Lt_putPointed_65 bp_46 ?_
      obtain ⟨x5, e_x5, h⟩ := bd_o h
      refine q_GV (D := D) (A := A) (C := R_Lt) (b := ad 1) (As := [.int (46 : Int32)]) (rest := []) (n := 1) hx hb hml hown hts (c_Lt_put_i l D A cI cL cC ad X x4.1 tk x4.2 dig pw used lost lim n (46 : Int32) x5 e_x5) rfl rfl m_188 m_189 m_190 m_191 m_183 (by decide +kernel) ⟨Nat.le_of_ble_eq_true rfl, Nat.le_of_ble_eq_true rfl⟩ (va_recv hK hP (ci := 1) rfl (q0 := 1) rfl) hNB hK hP hD hS rfl hl.1 rfl (Nat.le_of_ble_eq_true rfl) d_Lt_putPointed_67 ⟨Nat.zero_le _, Nat.zero_le _⟩ (fun H locs hP hD hS => ?_)
      have hP : va_P D cls (gC cI cL cC ad X x5.1 tk x5.2 dig pw used lost lim) H := hP
      have hD : va_D A (gC cI cL cC ad X x5.1 tk x5.2 dig pw used lost lim) := hD
      refine lv_aload_n hx hb d_Lt_putPointed_70 rfl (lv_at hl 1 rfl) ?_
      refine lv_lload_n hx hb d_Lt_putPointed_71 rfl (lv_at hl 2 rfl) ?_
      refine lv_lload hx hb d_Lt_putPointed_72 (lv_at hl 0 rfl) ?_
      have hz := gz_n h
      have h := gz_h h
      refine lv_lrem hx hb d_Lt_putPointed_74 hz ?_
      refine lv_lneg hx hb d_Lt_putPointed_75 ?_
      refine lv_iload hx hb d_Lt_putPointed_76 (lv_at hl 4 rfl) ?_
      obtain ⟨x6, e_x6, h⟩ := bd_o h
      refine q_GV (D := D) (A := A) (C := R_Lt) (b := ad 1) (As := [.long (-(a1 - a1 / x3 * x3)), .int a3]) (rest := []) (n := 2) hx hb hml hown hts (c_Lt_putDigits l D A cI cL cC ad X x5.1 tk x5.2 dig pw used lost lim n (-(a1 - a1 / x3 * x3)) a3 x6 e_x6) rfl rfl m_184 m_185 m_186 m_187 m_183 (by decide +kernel) ⟨Nat.le_of_ble_eq_true rfl, Nat.le_of_ble_eq_true rfl⟩ (va_recv hK hP (ci := 1) rfl (q0 := 1) rfl) hNB hK hP hD hS rfl hl.1 rfl (Nat.le_of_ble_eq_true rfl) d_Lt_putPointed_78 ⟨Nat.zero_le _, Nat.zero_le _⟩ (fun H locs hP hD hS => ?_)
      have hP : va_P D cls (gC cI cL cC ad X x6.1 tk x6.2 dig pw used lost lim) H := hP
      have hD : va_D A (gC cI cL cC ad X x6.1 tk x6.2 dig pw used lost lim) := hD
      exact hJ81 _ _ ls _ _ (lv_sub hl [] rfl) hP hD hS h
    · have h := ite_f hc h
      refine lv_aload_n hx hb d_Lt_putPointed_32 rfl (lv_at hl 0 rfl) ?_
      refine va_ldcS hx hb (own := R_Lt) hown (hE.1.2.2 10 (by decide)) d_Lt_putPointed_33 ?_
      obtain ⟨x7, e_x7, h⟩ := bd_o h
      refine q_EV (D := D) (A := A) (E := fun U => sT (kA 10) (vA 10) [48, 46] A U U.heap) (C := R_Lt) (b := ad 1) (As := [.ref (kA 10)]) (rest := []) (n := 1) hx hb hml hown hts (c_Lt_put_r l D A cI cL cC ad X len tk row dig pw used lost lim n (kA 10) (vA 10) [48, 46] (by decide) x7 e_x7) rfl rfl m_476 m_477 m_478 m_479 m_183 (by decide +kernel) ⟨Nat.le_of_ble_eq_true rfl, Nat.le_of_ble_eq_true rfl⟩ (va_recv hK hP (ci := 1) rfl (q0 := 1) rfl) sTe_bl (fun U hU hW => sTe_of hU hW hS hE.2.2.2.2.2.2.2) hNB hK hP hD hS rfl hl.1 rfl (Nat.le_of_ble_eq_true rfl) d_Lt_putPointed_35 ⟨Nat.zero_le _, Nat.zero_le _⟩ (fun H locs hP hD hS => ?_)
      have hP : va_P D cls (gC cI cL cC ad X x7.1 tk x7.2 dig pw used lost lim) H := hP
      have hD : va_D A (gC cI cL cC ad X x7.1 tk x7.2 dig pw used lost lim) := hD
      refine lv_aload_n hx hb d_Lt_putPointed_38 rfl (lv_at hl 0 rfl) ?_
      refine lv_lload_n hx hb d_Lt_putPointed_39 rfl (lv_at hl 1 rfl) ?_
      refine lv_lneg hx hb d_Lt_putPointed_40 ?_
      refine lv_iload hx hb d_Lt_putPointed_41 (lv_at hl 3 rfl) ?_
      obtain ⟨x8, e_x8, h⟩ := bd_o h
      refine q_GV (D := D) (A := A) (C := R_Lt) (b := ad 1) (As := [.long (-a1), .int a3]) (rest := []) (n := 2) hx hb hml hown hts (c_Lt_putDigits l D A cI cL cC ad X x7.1 tk x7.2 dig pw used lost lim n (-a1) a3 x8 e_x8) rfl rfl m_184 m_185 m_186 m_187 m_183 (by decide +kernel) ⟨Nat.le_of_ble_eq_true rfl, Nat.le_of_ble_eq_true rfl⟩ (va_recv hK hP (ci := 1) rfl (q0 := 1) rfl) hNB hK hP hD hS rfl hl.1 rfl (Nat.le_of_ble_eq_true rfl) d_Lt_putPointed_43 ⟨Nat.zero_le _, Nat.zero_le _⟩ (fun H locs hP hD hS => ?_)
      have hP : va_P D cls (gC cI cL cC ad X x8.1 tk x8.2 dig pw used lost lim) H := hP
      have hD : va_D A (gC cI cL cC ad X x8.1 tk x8.2 dig pw used lost lim) := hD
      refine lv_goto (tgt := 81) hx hb d_Lt_putPointed_46 rfl ?_
      exact hJ81 _ _ ls _ _ (lv_sub hl [] rfl) hP hD hS h
  · have h := ite_f hc h
    refine lv_aload_n hx hb d_Lt_putPointed_5 rfl (lv_at hl 0 rfl) ?_
    refine lv_lload_n hx hb d_Lt_putPointed_6 rfl (lv_at hl 1 rfl) ?_
    refine lv_iload hx hb d_Lt_putPointed_7 (lv_at hl 3 rfl) ?_
    refine lv_ineg hx hb d_Lt_putPointed_9 ?_
    obtain ⟨x9, e_x9, h⟩ := bd_o h
    refine q_S (As := [.int (-a3)]) (rest := [.long a1, .ref (ad 1)]) (n := 1) hx hb hml hown hts (c_Lt_powerOfTen l n (-a3) _ e_x9) rfl rfl m_192 m_193 m_194 m_183 (by decide +kernel) ⟨Nat.le_of_ble_eq_true rfl, Nat.le_of_ble_eq_true rfl⟩ (p0_bl) (fun U hU hW => p0_mv hU hW hNB) rfl hl.1 rfl (Nat.le_of_ble_eq_true rfl) d_Lt_putPointed_10 ⟨Nat.zero_le _, Nat.zero_le _⟩ ?_
    refine lv_lmul hx hb d_Lt_putPointed_13 ?_
    obtain ⟨x10, e_x10, h⟩ := bd_o h
    refine q_GV (D := D) (A := A) (C := R_Lt) (b := ad 1) (As := [.long (a1 * x9)]) (rest := []) (n := 1) hx hb hml hown hts (c_Lt_putWhole l D A cI cL cC ad X len tk row dig pw used lost lim n (a1 * x9) x10 e_x10) rfl rfl m_195 m_196 m_197 m_198 m_183 (by decide +kernel) ⟨Nat.le_of_ble_eq_true rfl, Nat.le_of_ble_eq_true rfl⟩ (va_recv hK hP (ci := 1) rfl (q0 := 1) rfl) hNB hK hP hD hS rfl hl.1 rfl (Nat.le_of_ble_eq_true rfl) d_Lt_putPointed_14 ⟨Nat.zero_le _, Nat.zero_le _⟩ (fun H locs hP hD hS => ?_)
    have hP : va_P D cls (gC cI cL cC ad X x10.1 tk x10.2 dig pw used lost lim) H := hP
    have hD : va_D A (gC cI cL cC ad X x10.1 tk x10.2 dig pw used lost lim) := hD
    refine lv_aload_n hx hb d_Lt_putPointed_17 rfl (lv_at hl 0 rfl) ?_
    refine va_ldcS hx hb (own := R_Lt) hown (hE.1.2.2 9 (by decide)) d_Lt_putPointed_18 ?_
    obtain ⟨x11, e_x11, h⟩ := bd_o h
    refine q_EV (D := D) (A := A) (E := fun U => sT (kA 9) (vA 9) [46, 48] A U U.heap) (C := R_Lt) (b := ad 1) (As := [.ref (kA 9)]) (rest := []) (n := 1) hx hb hml hown hts (c_Lt_put_r l D A cI cL cC ad X x10.1 tk x10.2 dig pw used lost lim n (kA 9) (vA 9) [46, 48] (by decide) x11 e_x11) rfl rfl m_476 m_477 m_478 m_479 m_183 (by decide +kernel) ⟨Nat.le_of_ble_eq_true rfl, Nat.le_of_ble_eq_true rfl⟩ (va_recv hK hP (ci := 1) rfl (q0 := 1) rfl) sTe_bl (fun U hU hW => sTe_of hU hW hS hE.2.2.2.2.2.2.1) hNB hK hP hD hS rfl hl.1 rfl (Nat.le_of_ble_eq_true rfl) d_Lt_putPointed_20 ⟨Nat.zero_le _, Nat.zero_le _⟩ (fun H locs hP hD hS => ?_)
    have hP : va_P D cls (gC cI cL cC ad X x11.1 tk x11.2 dig pw used lost lim) H := hP
    have hD : va_D A (gC cI cL cC ad X x11.1 tk x11.2 dig pw used lost lim) := hD
    refine lv_goto (tgt := 81) hx hb d_Lt_putPointed_23 rfl ?_
    exact hJ81 _ _ ls _ _ (lv_sub hl [] rfl) hP hD hS h
-- Lt_putDecimal
theorem d_Lt_putDecimal_0 : decode b_Lt_putDecimal 0 = .ok (.lload_n 1, 1) := by decide +kernel
theorem d_Lt_putDecimal_1 : decode b_Lt_putDecimal 1 = .ok (.invokestatic 33, 3) := by decide +kernel
theorem d_Lt_putDecimal_4 : decode b_Lt_putDecimal 4 = .ok (.istore 4, 2) := by decide +kernel
theorem d_Lt_putDecimal_6 : decode b_Lt_putDecimal 6 = .ok (.iload_n 3, 1) := by decide +kernel
theorem d_Lt_putDecimal_7 : decode b_Lt_putDecimal 7 = .ok (.iload 4, 2) := by decide +kernel
theorem d_Lt_putDecimal_9 : decode b_Lt_putDecimal 9 = .ok (.iadd, 1) := by decide +kernel
theorem d_Lt_putDecimal_10 : decode b_Lt_putDecimal 10 = .ok (.iconst 1, 1) := by decide +kernel
theorem d_Lt_putDecimal_11 : decode b_Lt_putDecimal 11 = .ok (.isub, 1) := by decide +kernel
theorem d_Lt_putDecimal_12 : decode b_Lt_putDecimal 12 = .ok (.istore 5, 2) := by decide +kernel
theorem d_Lt_putDecimal_14 : decode b_Lt_putDecimal 14 = .ok (.iload 5, 2) := by decide +kernel
theorem d_Lt_putDecimal_16 : decode b_Lt_putDecimal 16 = .ok (.bipush (-3), 2) := by decide +kernel
theorem d_Lt_putDecimal_18 : decode b_Lt_putDecimal 18 = .ok (.if_icmp .lt 22, 3) := by decide +kernel
theorem d_Lt_putDecimal_21 : decode b_Lt_putDecimal 21 = .ok (.iload 5, 2) := by decide +kernel
theorem d_Lt_putDecimal_23 : decode b_Lt_putDecimal 23 = .ok (.bipush 7, 2) := by decide +kernel
theorem d_Lt_putDecimal_25 : decode b_Lt_putDecimal 25 = .ok (.if_icmp .ge 15, 3) := by decide +kernel
theorem d_Lt_putDecimal_28 : decode b_Lt_putDecimal 28 = .ok (.aload_n 0, 1) := by decide +kernel
theorem d_Lt_putDecimal_29 : decode b_Lt_putDecimal 29 = .ok (.lload_n 1, 1) := by decide +kernel
theorem d_Lt_putDecimal_30 : decode b_Lt_putDecimal 30 = .ok (.iload 4, 2) := by decide +kernel
theorem d_Lt_putDecimal_32 : decode b_Lt_putDecimal 32 = .ok (.iload_n 3, 1) := by decide +kernel
theorem d_Lt_putDecimal_33 : decode b_Lt_putDecimal 33 = .ok (.ineg, 1) := by decide +kernel
theorem d_Lt_putDecimal_34 : decode b_Lt_putDecimal 34 = .ok (.invokevirtual 41, 3) := by decide +kernel
theorem d_Lt_putDecimal_37 : decode b_Lt_putDecimal 37 = .ok (.goto 27, 3) := by decide +kernel
theorem d_Lt_putDecimal_40 : decode b_Lt_putDecimal 40 = .ok (.aload_n 0, 1) := by decide +kernel
theorem d_Lt_putDecimal_41 : decode b_Lt_putDecimal 41 = .ok (.lload_n 1, 1) := by decide +kernel
theorem d_Lt_putDecimal_42 : decode b_Lt_putDecimal 42 = .ok (.iload 4, 2) := by decide +kernel
theorem d_Lt_putDecimal_44 : decode b_Lt_putDecimal 44 = .ok (.iload 4, 2) := by decide +kernel
theorem d_Lt_putDecimal_46 : decode b_Lt_putDecimal 46 = .ok (.iconst 1, 1) := by decide +kernel
theorem d_Lt_putDecimal_47 : decode b_Lt_putDecimal 47 = .ok (.isub, 1) := by decide +kernel
theorem d_Lt_putDecimal_48 : decode b_Lt_putDecimal 48 = .ok (.invokevirtual 41, 3) := by decide +kernel
theorem d_Lt_putDecimal_51 : decode b_Lt_putDecimal 51 = .ok (.aload_n 0, 1) := by decide +kernel
theorem d_Lt_putDecimal_52 : decode b_Lt_putDecimal 52 = .ok (.bipush 69, 2) := by decide +kernel
theorem d_Lt_putDecimal_54 : decode b_Lt_putDecimal 54 = .ok (.invokevirtual 29, 3) := by decide +kernel
theorem d_Lt_putDecimal_57 : decode b_Lt_putDecimal 57 = .ok (.aload_n 0, 1) := by decide +kernel
theorem d_Lt_putDecimal_58 : decode b_Lt_putDecimal 58 = .ok (.iload 5, 2) := by decide +kernel
theorem d_Lt_putDecimal_60 : decode b_Lt_putDecimal 60 = .ok (.i2l, 1) := by decide +kernel
theorem d_Lt_putDecimal_61 : decode b_Lt_putDecimal 61 = .ok (.invokevirtual 45, 3) := by decide +kernel
theorem d_Lt_putDecimal_64 : decode b_Lt_putDecimal 64 = .ok (.return_, 1) := by decide +kernel
def F_Lt_putDecimal (n : Nat) (len : Int32) (row : Nat → Int32) (a1 : Int64) (a2 : Int32) : Option (Int32 × (Nat → Int32)) := (F_Lt_digitCount n a1).bind fun x1 => lt_ ((a2 + x1) - (1 : Int32)) fun x2 => lt_ (fun (len_3 : Int32) (row_4 : (Nat → Int32)) => some (len_3, row_4)) fun j64 => lt_ (fun (len_5 : Int32) (row_6 : (Nat → Int32)) => (F_Lt_putPointed n len_5 row_6 a1 x1 (x1 - (1 : Int32))).bind fun x7 => (F_Lt_put_i n x7.1 x7.2 (69 : Int32)).bind fun x8 => (F_Lt_putWhole n x8.1 x8.2 ((x2).toInt64)).bind fun x9 => j64 x9.1 x9.2) fun j40 => if x2 < (-3 : Int32) then (j40 len row) else (if (7 : Int32) ≤ x2 then (j40 len row) else ((F_Lt_putPointed n len row a1 x1 (-a2)).bind fun x10 => j64 x10.1 x10.2))
set_option maxHeartbeats 4000000 in
set_option maxRecDepth 100000 in
theorem c_Lt_putDecimal (l : Launch) (D : va_G) (A : Nat → Prop) (cI cL cC : ClassId) (ad : Nat → Nat) (X : va_W) (len : Int32) (tk : Int32) (row : Nat → Int32) (dig : Int64) (pw : Int32) (used : Int32) (lost : Int32) (lim : Nat → Int64) (oF oD : Nat) (kA vA : Nat → Nat) (n : Nat) (a1 : Int64) (a2 : Int32) (r : Int32 × (Nat → Int32)) (h : F_Lt_putDecimal n len row a1 a2 = some r) : Met l y_Lt_putDecimal (.code y_Lt_putDecimal b_Lt_putDecimal 6 none :: BIG) ({ frames := 6, cells := 0, slots := 0, locals := 133 } : Room) (va_Pc [.ref (ad 1), .long a1, .int a2] (ePre D A (tysV cI cL cC) (gC cI cL cC ad X len tk row dig pw used lost lim) (fun U => eE oF oD kA vA A U U.heap))) (gQ D A none (gC cI cL cC ad X r.1 tk r.2 dig pw used lost lim)) 0 0 A := by
  refine eOpen_v rfl (Nat.le_of_ble_eq_true rfl) ?_
  intro p e s m args below meth c Q ls hx hb hml hown hts hT hNB hP hK hD hE hl hret
  have hown : s.vm.findClass R_Lt = some m.cls := hown
  have hS : va_S A s.heap s.heap [] := va_S.rf
  have hl : lv_has ls 6 [(0, .ref (ad 1)), (1, .long a1), (3, .int a2)] := hl
  have h : ((F_Lt_digitCount n a1).bind fun x1 => lt_ ((a2 + x1) - (1 : Int32)) fun x2 => lt_ (fun (len_3 : Int32) (row_4 : (Nat → Int32)) => some (len_3, row_4)) fun j64 => lt_ (fun (len_5 : Int32) (row_6 : (Nat → Int32)) => (F_Lt_putPointed n len_5 row_6 a1 x1 (x1 - (1 : Int32))).bind fun x7 => (F_Lt_put_i n x7.1 x7.2 (69 : Int32)).bind fun x8 => (F_Lt_putWhole n x8.1 x8.2 ((x2).toInt64)).bind fun x9 => j64 x9.1 x9.2) fun j40 => if x2 < (-3 : Int32) then (j40 len row) else (if (7 : Int32) ≤ x2 then (j40 len row) else ((F_Lt_putPointed n len row a1 x1 (-a2)).bind fun x10 => j64 x10.1 x10.2))) = some r := h
  refine lv_lload_n hx hb d_Lt_putDecimal_0 rfl (lv_at hl 1 rfl) ?_
  obtain ⟨x1, e_x1, h⟩ := bd_o h
  refine q_S (As := [.long a1]) (rest := []) (n := 1) hx hb hml hown hts (c_Lt_digitCount l n a1 _ e_x1) rfl rfl m_180 m_181 m_182 m_183 (by decide +kernel) ⟨Nat.le_of_ble_eq_true rfl, Nat.le_of_ble_eq_true rfl⟩ (p0_bl) (fun U hU hW => p0_mv hU hW hNB) rfl hl.1 rfl (Nat.le_of_ble_eq_true rfl) d_Lt_putDecimal_1 ⟨Nat.zero_le _, Nat.zero_le _⟩ ?_
  refine lv_istore hx hb d_Lt_putDecimal_4 hl (by decide) rfl (fun ls hl => ?_)
  have hl : lv_has ls 6 [(4, .int x1), (0, .ref (ad 1)), (1, .long a1), (3, .int a2)] := hl
  refine lv_iload_n hx hb d_Lt_putDecimal_6 rfl (lv_at hl 3 rfl) ?_
  refine lv_iload hx hb d_Lt_putDecimal_7 (lv_at hl 0 rfl) ?_
  refine lv_iadd hx hb d_Lt_putDecimal_9 ?_
  refine lv_iconst hx hb d_Lt_putDecimal_10 ic_1 ?_
  refine lv_isub hx hb d_Lt_putDecimal_11 ?_
  refine lv_topi (fun x2 e_x2 => ?_)
  have h := lt_h e_x2 h
  refine lv_istore hx hb d_Lt_putDecimal_12 hl (by decide) rfl (fun ls hl => ?_)
  have hl : lv_has ls 6 [(5, .int x2), (4, .int x1), (0, .ref (ad 1)), (1, .long a1), (3, .int a2)] := hl
  refine lv_iload hx hb d_Lt_putDecimal_14 (lv_at hl 0 rfl) ?_
  refine lv_bipush hx hb d_Lt_putDecimal_16 bp_m3 ?_
  obtain ⟨j64, e_j64, h⟩ := lt_o h
  have hJ64 : ∀ (len_3 : Int32) (row_4 : (Nat → Int32)) (ls : Array Slot) (H : Heap) (locs : List Loc), lv_has ls 6 [] → va_P D cls (gC cI cL cC ad X len_3 tk row_4 dig pw used lost lim) H → va_D A (gC cI cL cC ad X len_3 tk row_4 dig pw used lost lim) → va_S A s.heap H locs → j64 len_3 row_4 = some r → W p l e ({ frames := 6, cells := 0, slots := 0, locals := 133 } : Room) s m args below meth c H locs 0 0 Q (F0 m 64 ls []) := by
    intro len_3 row_4 ls H locs hl hP hD hS h
    rw [e_j64] at h
    obtain rfl := Option.some.inj h
    exact hret 64 ls _ _ hP hD hS d_Lt_putDecimal_64
  obtain ⟨j40, e_j40, h⟩ := lt_o h
  have hJ40 : ∀ (len_5 : Int32) (row_6 : (Nat → Int32)) (ls : Array Slot) (H : Heap) (locs : List Loc), lv_has ls 6 [(0, .ref (ad 1)), (1, .long a1), (4, .int x1), (5, .int x2)] → va_P D cls (gC cI cL cC ad X len_5 tk row_6 dig pw used lost lim) H → va_D A (gC cI cL cC ad X len_5 tk row_6 dig pw used lost lim) → va_S A s.heap H locs → j40 len_5 row_6 = some r → W p l e ({ frames := 6, cells := 0, slots := 0, locals := 133 } : Room) s m args below meth c H locs 0 0 Q (F0 m 40 ls []) := by
    intro len_5 row_6 ls H locs hl hP hD hS h
    rw [e_j40] at h
    refine lv_aload_n hx hb d_Lt_putDecimal_40 rfl (lv_at hl 0 rfl) ?_
    refine lv_lload_n hx hb d_Lt_putDecimal_41 rfl (lv_at hl 1 rfl) ?_
    refine lv_iload hx hb d_Lt_putDecimal_42 (lv_at hl 2 rfl) ?_
    refine lv_iload hx hb d_Lt_putDecimal_44 (lv_at hl 2 rfl) ?_
    refine lv_iconst hx hb d_Lt_putDecimal_46 ic_1 ?_
    refine lv_isub hx hb d_Lt_putDecimal_47 ?_
    obtain ⟨x7, e_x7, h⟩ := bd_o h
    refine q_EV (D := D) (A := A) (E := fun U => eE oF oD kA vA A U U.heap) (C := R_Lt) (b := ad 1) (As := [.long a1, .int x1, .int (x1 - (1 : Int32))]) (rest := []) (n := 3) hx hb hml hown hts (c_Lt_putPointed l D A cI cL cC ad X len_5 tk row_6 dig pw used lost lim oF oD kA vA n a1 x1 (x1 - (1 : Int32)) x7 e_x7) rfl rfl m_480 m_481 m_482 m_483 m_183 (by decide +kernel) ⟨Nat.le_of_ble_eq_true rfl, Nat.le_of_ble_eq_true rfl⟩ (va_recv hK hP (ci := 1) rfl (q0 := 1) rfl) (fun U g mk a h => eE_bl U g mk a h) (fun U hU hW => eEe_of hU hW hS hE) hNB hK hP hD hS rfl hl.1 rfl (Nat.le_of_ble_eq_true rfl) d_Lt_putDecimal_48 ⟨Nat.zero_le _, Nat.zero_le _⟩ (fun H locs hP hD hS => ?_)
    have hP : va_P D cls (gC cI cL cC ad X x7.1 tk x7.2 dig pw used lost lim) H := hP
    have hD : va_D A (gC cI cL cC ad X x7.1 tk x7.2 dig pw used lost lim) := hD
    refine lv_aload_n hx hb d_Lt_putDecimal_51 rfl (lv_at hl 0 rfl) ?_
    refine lv_bipush hx hb d_Lt_putDecimal_52 bp_69 ?_
    obtain ⟨x8, e_x8, h⟩ := bd_o h
    refine q_GV (D := D) (A := A) (C := R_Lt) (b := ad 1) (As := [.int (69 : Int32)]) (rest := []) (n := 1) hx hb hml hown hts (c_Lt_put_i l D A cI cL cC ad X x7.1 tk x7.2 dig pw used lost lim n (69 : Int32) x8 e_x8) rfl rfl m_188 m_189 m_190 m_191 m_183 (by decide +kernel) ⟨Nat.le_of_ble_eq_true rfl, Nat.le_of_ble_eq_true rfl⟩ (va_recv hK hP (ci := 1) rfl (q0 := 1) rfl) hNB hK hP hD hS rfl hl.1 rfl (Nat.le_of_ble_eq_true rfl) d_Lt_putDecimal_54 ⟨Nat.zero_le _, Nat.zero_le _⟩ (fun H locs hP hD hS => ?_)
    have hP : va_P D cls (gC cI cL cC ad X x8.1 tk x8.2 dig pw used lost lim) H := hP
    have hD : va_D A (gC cI cL cC ad X x8.1 tk x8.2 dig pw used lost lim) := hD
    refine lv_aload_n hx hb d_Lt_putDecimal_57 rfl (lv_at hl 0 rfl) ?_
    refine lv_iload hx hb d_Lt_putDecimal_58 (lv_at hl 3 rfl) ?_
    refine lv_i2l hx hb d_Lt_putDecimal_60 rfl ?_
    obtain ⟨x9, e_x9, h⟩ := bd_o h
    refine q_GV (D := D) (A := A) (C := R_Lt) (b := ad 1) (As := [.long ((x2).toInt64)]) (rest := []) (n := 1) hx hb hml hown hts (c_Lt_putWhole l D A cI cL cC ad X x8.1 tk x8.2 dig pw used lost lim n ((x2).toInt64) x9 e_x9) rfl rfl m_195 m_196 m_197 m_198 m_183 (by decide +kernel) ⟨Nat.le_of_ble_eq_true rfl, Nat.le_of_ble_eq_true rfl⟩ (va_recv hK hP (ci := 1) rfl (q0 := 1) rfl) hNB hK hP hD hS rfl hl.1 rfl (Nat.le_of_ble_eq_true rfl) d_Lt_putDecimal_61 ⟨Nat.zero_le _, Nat.zero_le _⟩ (fun H locs hP hD hS => ?_)
    have hP : va_P D cls (gC cI cL cC ad X x9.1 tk x9.2 dig pw used lost lim) H := hP
    have hD : va_D A (gC cI cL cC ad X x9.1 tk x9.2 dig pw used lost lim) := hD
    exact hJ64 _ _ ls _ _ (lv_sub hl [] rfl) hP hD hS h
  refine lv_icmp_lt (tgt := 40) hx hb d_Lt_putDecimal_18 rfl (fun hc => ?_) (fun hc => ?_)
  · have h := ite_t hc h
    exact hJ40 _ _ ls _ _ (lv_sub hl [2, 3, 1, 0] rfl) hP hD hS h
  · have h := ite_f hc h
    refine lv_iload hx hb d_Lt_putDecimal_21 (lv_at hl 0 rfl) ?_
    refine lv_bipush hx hb d_Lt_putDecimal_23 bp_7 ?_
    refine lv_icmp_ge (tgt := 40) hx hb d_Lt_putDecimal_25 rfl (fun hc => ?_) (fun hc => ?_)
    · have h := ite_t hc h
      exact hJ40 _ _ ls _ _ (lv_sub hl [2, 3, 1, 0] rfl) hP hD hS h
    · have h := ite_f hc h
      refine lv_aload_n hx hb d_Lt_putDecimal_28 rfl (lv_at hl 2 rfl) ?_
      refine lv_lload_n hx hb d_Lt_putDecimal_29 rfl (lv_at hl 3 rfl) ?_
      refine lv_iload hx hb d_Lt_putDecimal_30 (lv_at hl 1 rfl) ?_
      refine lv_iload_n hx hb d_Lt_putDecimal_32 rfl (lv_at hl 4 rfl) ?_
      refine lv_ineg hx hb d_Lt_putDecimal_33 ?_
      obtain ⟨x10, e_x10, h⟩ := bd_o h
      refine q_EV (D := D) (A := A) (E := fun U => eE oF oD kA vA A U U.heap) (C := R_Lt) (b := ad 1) (As := [.long a1, .int x1, .int (-a2)]) (rest := []) (n := 3) hx hb hml hown hts (c_Lt_putPointed l D A cI cL cC ad X len tk row dig pw used lost lim oF oD kA vA n a1 x1 (-a2) x10 e_x10) rfl rfl m_480 m_481 m_482 m_483 m_183 (by decide +kernel) ⟨Nat.le_of_ble_eq_true rfl, Nat.le_of_ble_eq_true rfl⟩ (va_recv hK hP (ci := 1) rfl (q0 := 1) rfl) (fun U g mk a h => eE_bl U g mk a h) (fun U hU hW => eEe_of hU hW hS hE) hNB hK hP hD hS rfl hl.1 rfl (Nat.le_of_ble_eq_true rfl) d_Lt_putDecimal_34 ⟨Nat.zero_le _, Nat.zero_le _⟩ (fun H locs hP hD hS => ?_)
      have hP : va_P D cls (gC cI cL cC ad X x10.1 tk x10.2 dig pw used lost lim) H := hP
      have hD : va_D A (gC cI cL cC ad X x10.1 tk x10.2 dig pw used lost lim) := hD
      refine lv_goto (tgt := 64) hx hb d_Lt_putDecimal_37 rfl ?_
      exact hJ64 _ _ ls _ _ (lv_sub hl [] rfl) hP hD hS h
-- PB_putReal
theorem d_PB_putReal_0 : decode b_PB_putReal 0 = .ok (.aload_n 3, 1) := by decide +kernel
theorem d_PB_putReal_1 : decode b_PB_putReal 1 = .ok (.lload_n 1, 1) := by decide +kernel
theorem d_PB_putReal_2 : decode b_PB_putReal 2 = .ok (.invokevirtual 84, 3) := by decide +kernel
theorem d_PB_putReal_5 : decode b_PB_putReal 5 = .ok (.ifCond .eq 13, 3) := by decide +kernel
theorem d_PB_putReal_8 : decode b_PB_putReal 8 = .ok (.aload_n 0, 1) := by decide +kernel
theorem d_PB_putReal_9 : decode b_PB_putReal 9 = .ok (.getfield 10, 3) := by decide +kernel
theorem d_PB_putReal_12 : decode b_PB_putReal 12 = .ok (.ldc 164, 2) := by decide +kernel
theorem d_PB_putReal_14 : decode b_PB_putReal 14 = .ok (.invokevirtual 166, 3) := by decide +kernel
theorem d_PB_putReal_17 : decode b_PB_putReal 17 = .ok (.return_, 1) := by decide +kernel
theorem d_PB_putReal_18 : decode b_PB_putReal 18 = .ok (.aload_n 3, 1) := by decide +kernel
theorem d_PB_putReal_19 : decode b_PB_putReal 19 = .ok (.lload_n 1, 1) := by decide +kernel
theorem d_PB_putReal_20 : decode b_PB_putReal 20 = .ok (.invokevirtual 169, 3) := by decide +kernel
theorem d_PB_putReal_23 : decode b_PB_putReal 23 = .ok (.ifCond .eq 12, 3) := by decide +kernel
theorem d_PB_putReal_26 : decode b_PB_putReal 26 = .ok (.aload_n 0, 1) := by decide +kernel
theorem d_PB_putReal_27 : decode b_PB_putReal 27 = .ok (.getfield 10, 3) := by decide +kernel
theorem d_PB_putReal_30 : decode b_PB_putReal 30 = .ok (.bipush 45, 2) := by decide +kernel
theorem d_PB_putReal_32 : decode b_PB_putReal 32 = .ok (.invokevirtual 172, 3) := by decide +kernel
theorem d_PB_putReal_35 : decode b_PB_putReal 35 = .ok (.aload_n 3, 1) := by decide +kernel
theorem d_PB_putReal_36 : decode b_PB_putReal 36 = .ok (.lload_n 1, 1) := by decide +kernel
theorem d_PB_putReal_37 : decode b_PB_putReal 37 = .ok (.invokevirtual 175, 3) := by decide +kernel
theorem d_PB_putReal_40 : decode b_PB_putReal 40 = .ok (.ifCond .eq 15, 3) := by decide +kernel
theorem d_PB_putReal_43 : decode b_PB_putReal 43 = .ok (.aload_n 0, 1) := by decide +kernel
theorem d_PB_putReal_44 : decode b_PB_putReal 44 = .ok (.getfield 10, 3) := by decide +kernel
theorem d_PB_putReal_47 : decode b_PB_putReal 47 = .ok (.ldc 178, 2) := by decide +kernel
theorem d_PB_putReal_49 : decode b_PB_putReal 49 = .ok (.invokevirtual 166, 3) := by decide +kernel
theorem d_PB_putReal_52 : decode b_PB_putReal 52 = .ok (.goto 66, 3) := by decide +kernel
theorem d_PB_putReal_55 : decode b_PB_putReal 55 = .ok (.aload_n 3, 1) := by decide +kernel
theorem d_PB_putReal_56 : decode b_PB_putReal 56 = .ok (.lload_n 1, 1) := by decide +kernel
theorem d_PB_putReal_57 : decode b_PB_putReal 57 = .ok (.invokevirtual 180, 3) := by decide +kernel
theorem d_PB_putReal_60 : decode b_PB_putReal 60 = .ok (.ifCond .eq 15, 3) := by decide +kernel
theorem d_PB_putReal_63 : decode b_PB_putReal 63 = .ok (.aload_n 0, 1) := by decide +kernel
theorem d_PB_putReal_64 : decode b_PB_putReal 64 = .ok (.getfield 10, 3) := by decide +kernel
theorem d_PB_putReal_67 : decode b_PB_putReal 67 = .ok (.ldc 183, 2) := by decide +kernel
theorem d_PB_putReal_69 : decode b_PB_putReal 69 = .ok (.invokevirtual 166, 3) := by decide +kernel
theorem d_PB_putReal_72 : decode b_PB_putReal 72 = .ok (.goto 46, 3) := by decide +kernel
theorem d_PB_putReal_75 : decode b_PB_putReal 75 = .ok (.aload_n 0, 1) := by decide +kernel
theorem d_PB_putReal_76 : decode b_PB_putReal 76 = .ok (.getfield 19, 3) := by decide +kernel
theorem d_PB_putReal_79 : decode b_PB_putReal 79 = .ok (.aload_n 3, 1) := by decide +kernel
theorem d_PB_putReal_80 : decode b_PB_putReal 80 = .ok (.lload_n 1, 1) := by decide +kernel
theorem d_PB_putReal_81 : decode b_PB_putReal 81 = .ok (.invokevirtual 185, 3) := by decide +kernel
theorem d_PB_putReal_84 : decode b_PB_putReal 84 = .ok (.aload_n 3, 1) := by decide +kernel
theorem d_PB_putReal_85 : decode b_PB_putReal 85 = .ok (.lload_n 1, 1) := by decide +kernel
theorem d_PB_putReal_86 : decode b_PB_putReal 86 = .ok (.invokevirtual 188, 3) := by decide +kernel
theorem d_PB_putReal_89 : decode b_PB_putReal 89 = .ok (.aload_n 3, 1) := by decide +kernel
theorem d_PB_putReal_90 : decode b_PB_putReal 90 = .ok (.lload_n 1, 1) := by decide +kernel
theorem d_PB_putReal_91 : decode b_PB_putReal 91 = .ok (.invokevirtual 192, 3) := by decide +kernel
theorem d_PB_putReal_94 : decode b_PB_putReal 94 = .ok (.invokevirtual 195, 3) := by decide +kernel
theorem d_PB_putReal_97 : decode b_PB_putReal 97 = .ok (.aload_n 0, 1) := by decide +kernel
theorem d_PB_putReal_98 : decode b_PB_putReal 98 = .ok (.getfield 10, 3) := by decide +kernel
theorem d_PB_putReal_101 : decode b_PB_putReal 101 = .ok (.aload_n 0, 1) := by decide +kernel
theorem d_PB_putReal_102 : decode b_PB_putReal 102 = .ok (.getfield 19, 3) := by decide +kernel
theorem d_PB_putReal_105 : decode b_PB_putReal 105 = .ok (.invokevirtual 199, 3) := by decide +kernel
theorem d_PB_putReal_108 : decode b_PB_putReal 108 = .ok (.aload_n 0, 1) := by decide +kernel
theorem d_PB_putReal_109 : decode b_PB_putReal 109 = .ok (.getfield 19, 3) := by decide +kernel
theorem d_PB_putReal_112 : decode b_PB_putReal 112 = .ok (.invokevirtual 202, 3) := by decide +kernel
theorem d_PB_putReal_115 : decode b_PB_putReal 115 = .ok (.invokevirtual 204, 3) := by decide +kernel
theorem d_PB_putReal_118 : decode b_PB_putReal 118 = .ok (.return_, 1) := by decide +kernel
def F_PB_putReal (n : Nat) (len : Int32) (row : Nat → Int32) (dig : Int64) (pw : Int32) (used : Int32) (lost : Int32) (lim : Nat → Int64) (a1 : Int64) (t2 : Int32) : Option (Int32 × (Nat → Int32) × Int64 × Int32 × Int32 × Int32 × (Nat → Int64)) := if (F_Real_isNan (KR t2) a1) = 0 then (lt_ (fun (len_1 : Int32) (row_2 : (Nat → Int32)) (dig_3 : Int64) (pw_4 : Int32) (used_5 : Int32) (lost_6 : Int32) (lim_7 : (Nat → Int64)) => lt_ (fun (len_8 : Int32) (row_9 : (Nat → Int32)) (dig_10 : Int64) (pw_11 : Int32) (used_12 : Int32) (lost_13 : Int32) (lim_14 : (Nat → Int64)) => some (len_8, row_9, dig_10, pw_11, used_12, lost_13, lim_14)) fun j118 => if (F_Real_isInfinite (KR t2) a1) = 0 then (if (F_Real_isZero (KR t2) a1) = 0 then ((F_SD_find n dig_3 pw_4 used_5 lost_6 lim_7 (F_Real_significand (KR t2) a1) (F_Real_power (KR t2) a1) (F_Real_isCloserBelow (KR t2) a1)).bind fun x15 => lt_ (F_SD_digits x15.1) fun x16 => lt_ (F_SD_power x15.2.1) fun x17 => (F_Lt_putDecimal n len_1 row_2 x16 x17).bind fun x18 => j118 x18.1 x18.2 x15.1 x15.2.1 x15.2.2.1 x15.2.2.2.1 x15.2.2.2.2) else ((F_Lt_puts n [48, 46, 48] 3 0 len_1 row_2).bind fun x19 => j118 x19.1 x19.2 dig_3 pw_4 used_5 lost_6 lim_7)) else ((F_Lt_puts n [73, 110, 102, 105, 110, 105, 116, 121] 8 0 len_1 row_2).bind fun x20 => j118 x20.1 x20.2 dig_3 pw_4 used_5 lost_6 lim_7)) fun j35 => if (F_Real_isNegative (KR t2) a1) = 0 then (j35 len row dig pw used lost lim) else ((F_Lt_put_i n len row (45 : Int32)).bind fun x21 => j35 x21.1 x21.2 dig pw used lost lim)) else ((F_Lt_puts n [78, 97, 78] 3 0 len row).bind fun x22 => some (x22.1, x22.2, dig, pw, used, lost, lim))
set_option maxHeartbeats 4000000 in
set_option maxRecDepth 100000 in
theorem c_PB_putReal (l : Launch) (D : va_G) (A : Nat → Prop) (cI cL cC : ClassId) (ad : Nat → Nat) (X : va_W) (len : Int32) (tk : Int32) (row : Nat → Int32) (dig : Int64) (pw : Int32) (used : Int32) (lost : Int32) (lim : Nat → Int64) (oF oD : Nat) (kA vA : Nat → Nat) (n : Nat) (a1 : Int64) (t2 : Int32) (r : Int32 × (Nat → Int32) × Int64 × Int32 × Int32 × Int32 × (Nat → Int64)) (h : F_PB_putReal n len row dig pw used lost lim a1 t2 = some r) : Met l y_PB_putReal (.code y_PB_putReal b_PB_putReal 4 none :: BIG) ({ frames := 7, cells := 0, slots := 0, locals := 158 } : Room) (va_Pc [.ref (ad 0), .long a1, .ref (oR oF oD t2)] (ePre D A (tysV cI cL cC) (gC cI cL cC ad X len tk row dig pw used lost lim) (fun U => eE oF oD kA vA A U U.heap))) (gQ D A none (gC cI cL cC ad X r.1 tk r.2.1 r.2.2.1 r.2.2.2.1 r.2.2.2.2.1 r.2.2.2.2.2.1 r.2.2.2.2.2.2)) 0 0 A := by
  refine eOpen_v rfl (Nat.le_of_ble_eq_true rfl) ?_
  intro p e s m args below meth c Q ls hx hb hml hown hts hT hNB hP hK hD hE hl hret
  have hown : s.vm.findClass R_PB = some m.cls := hown
  have hS : va_S A s.heap s.heap [] := va_S.rf
  have hl : lv_has ls 4 [(0, .ref (ad 0)), (1, .long a1), (3, .ref (oR oF oD t2))] := hl
  have h : (if (F_Real_isNan (KR t2) a1) = 0 then (lt_ (fun (len_1 : Int32) (row_2 : (Nat → Int32)) (dig_3 : Int64) (pw_4 : Int32) (used_5 : Int32) (lost_6 : Int32) (lim_7 : (Nat → Int64)) => lt_ (fun (len_8 : Int32) (row_9 : (Nat → Int32)) (dig_10 : Int64) (pw_11 : Int32) (used_12 : Int32) (lost_13 : Int32) (lim_14 : (Nat → Int64)) => some (len_8, row_9, dig_10, pw_11, used_12, lost_13, lim_14)) fun j118 => if (F_Real_isInfinite (KR t2) a1) = 0 then (if (F_Real_isZero (KR t2) a1) = 0 then ((F_SD_find n dig_3 pw_4 used_5 lost_6 lim_7 (F_Real_significand (KR t2) a1) (F_Real_power (KR t2) a1) (F_Real_isCloserBelow (KR t2) a1)).bind fun x15 => lt_ (F_SD_digits x15.1) fun x16 => lt_ (F_SD_power x15.2.1) fun x17 => (F_Lt_putDecimal n len_1 row_2 x16 x17).bind fun x18 => j118 x18.1 x18.2 x15.1 x15.2.1 x15.2.2.1 x15.2.2.2.1 x15.2.2.2.2) else ((F_Lt_puts n [48, 46, 48] 3 0 len_1 row_2).bind fun x19 => j118 x19.1 x19.2 dig_3 pw_4 used_5 lost_6 lim_7)) else ((F_Lt_puts n [73, 110, 102, 105, 110, 105, 116, 121] 8 0 len_1 row_2).bind fun x20 => j118 x20.1 x20.2 dig_3 pw_4 used_5 lost_6 lim_7)) fun j35 => if (F_Real_isNegative (KR t2) a1) = 0 then (j35 len row dig pw used lost lim) else ((F_Lt_put_i n len row (45 : Int32)).bind fun x21 => j35 x21.1 x21.2 dig pw used lost lim)) else ((F_Lt_puts n [78, 97, 78] 3 0 len row).bind fun x22 => some (x22.1, x22.2, dig, pw, used, lost, lim))) = some r := h
  refine lv_aload_n hx hb d_PB_putReal_0 rfl (lv_at hl 2 rfl) ?_
  refine lv_lload_n hx hb d_PB_putReal_1 rfl (lv_at hl 1 rfl) ?_
  refine q_V (As := [.long a1]) (rest := []) (n := 1) hx hb hml hown hts (c_Real_isNan l (oR oF oD t2) (KR t2) a1) rfl rfl m_30 m_141 m_32 m_33 m_11 (by decide +kernel) ⟨Nat.le_of_ble_eq_true rfl, Nat.le_of_ble_eq_true rfl⟩ (eRc hS hE t2) (p1_bl) (fun U hU hW => ⟨nB_mv hW hNB, eRe_of hU hW hS hE t2⟩) rfl hl.1 rfl (Nat.le_of_ble_eq_true rfl) d_PB_putReal_2 ⟨Nat.zero_le _, Nat.zero_le _⟩ ?_
  refine lv_if_eq (tgt := 18) hx hb d_PB_putReal_5 rfl (fun hc => ?_) (fun hc => ?_)
  · have h := ite_t hc h
    refine lv_aload_n hx hb d_PB_putReal_18 rfl (lv_at hl 2 rfl) ?_
    refine lv_lload_n hx hb d_PB_putReal_19 rfl (lv_at hl 1 rfl) ?_
    refine q_V (As := [.long a1]) (rest := []) (n := 1) hx hb hml hown hts (c_Real_isNegative l (oR oF oD t2) (KR t2) a1) rfl rfl m_12 m_484 m_14 m_15 m_11 (by decide +kernel) ⟨Nat.le_of_ble_eq_true rfl, Nat.le_of_ble_eq_true rfl⟩ (eRc hS hE t2) (p1_bl) (fun U hU hW => ⟨nB_mv hW hNB, eRe_of hU hW hS hE t2⟩) rfl hl.1 rfl (Nat.le_of_ble_eq_true rfl) d_PB_putReal_20 ⟨Nat.zero_le _, Nat.zero_le _⟩ ?_
    obtain ⟨j35, e_j35, h⟩ := lt_o h
    have hJ35 : ∀ (len_1 : Int32) (row_2 : (Nat → Int32)) (dig_3 : Int64) (pw_4 : Int32) (used_5 : Int32) (lost_6 : Int32) (lim_7 : (Nat → Int64)) (ls : Array Slot) (H : Heap) (locs : List Loc), lv_has ls 4 [(0, .ref (ad 0)), (1, .long a1), (3, .ref (oR oF oD t2))] → va_P D cls (gC cI cL cC ad X len_1 tk row_2 dig_3 pw_4 used_5 lost_6 lim_7) H → va_D A (gC cI cL cC ad X len_1 tk row_2 dig_3 pw_4 used_5 lost_6 lim_7) → va_S A s.heap H locs → j35 len_1 row_2 dig_3 pw_4 used_5 lost_6 lim_7 = some r → W p l e ({ frames := 7, cells := 0, slots := 0, locals := 158 } : Room) s m args below meth c H locs 0 0 Q (F0 m 35 ls []) := by
      intro len_1 row_2 dig_3 pw_4 used_5 lost_6 lim_7 ls H locs hl hP hD hS h
      rw [e_j35] at h
      refine lv_aload_n hx hb d_PB_putReal_35 rfl (lv_at hl 2 rfl) ?_
      refine lv_lload_n hx hb d_PB_putReal_36 rfl (lv_at hl 1 rfl) ?_
      refine q_V (As := [.long a1]) (rest := []) (n := 1) hx hb hml hown hts (c_Real_isInfinite l (oR oF oD t2) (KR t2) a1) rfl rfl m_42 m_485 m_44 m_45 m_11 (by decide +kernel) ⟨Nat.le_of_ble_eq_true rfl, Nat.le_of_ble_eq_true rfl⟩ (eRc hS hE t2) (p1_bl) (fun U hU hW => ⟨nB_mv hW hNB, eRe_of hU hW hS hE t2⟩) rfl hl.1 rfl (Nat.le_of_ble_eq_true rfl) d_PB_putReal_37 ⟨Nat.zero_le _, Nat.zero_le _⟩ ?_
      obtain ⟨j118, e_j118, h⟩ := lt_o h
      have hJ118 : ∀ (len_8 : Int32) (row_9 : (Nat → Int32)) (dig_10 : Int64) (pw_11 : Int32) (used_12 : Int32) (lost_13 : Int32) (lim_14 : (Nat → Int64)) (ls : Array Slot) (H : Heap) (locs : List Loc), lv_has ls 4 [] → va_P D cls (gC cI cL cC ad X len_8 tk row_9 dig_10 pw_11 used_12 lost_13 lim_14) H → va_D A (gC cI cL cC ad X len_8 tk row_9 dig_10 pw_11 used_12 lost_13 lim_14) → va_S A s.heap H locs → j118 len_8 row_9 dig_10 pw_11 used_12 lost_13 lim_14 = some r → W p l e ({ frames := 7, cells := 0, slots := 0, locals := 158 } : Room) s m args below meth c H locs 0 0 Q (F0 m 118 ls []) := by
        intro len_8 row_9 dig_10 pw_11 used_12 lost_13 lim_14 ls H locs hl hP hD hS h
        rw [e_j118] at h
        obtain rfl := Option.some.inj h
        exact hret 118 ls _ _ hP hD hS d_PB_putReal_118
      refine lv_if_eq (tgt := 55) hx hb d_PB_putReal_40 rfl (fun hc => ?_) (fun hc => ?_)
      · have h := ite_t hc h
        refine lv_aload_n hx hb d_PB_putReal_55 rfl (lv_at hl 2 rfl) ?_
        refine lv_lload_n hx hb d_PB_putReal_56 rfl (lv_at hl 1 rfl) ?_
        refine q_V (As := [.long a1]) (rest := []) (n := 1) hx hb hml hown hts (c_Real_isZero l (oR oF oD t2) (KR t2) a1) rfl rfl m_82 m_486 m_84 m_85 m_11 (by decide +kernel) ⟨Nat.le_of_ble_eq_true rfl, Nat.le_of_ble_eq_true rfl⟩ (eRc hS hE t2) (p1_bl) (fun U hU hW => ⟨nB_mv hW hNB, eRe_of hU hW hS hE t2⟩) rfl hl.1 rfl (Nat.le_of_ble_eq_true rfl) d_PB_putReal_57 ⟨Nat.zero_le _, Nat.zero_le _⟩ ?_
        refine lv_if_eq (tgt := 75) hx hb d_PB_putReal_60 rfl (fun hc => ?_) (fun hc => ?_)
        · have h := ite_t hc h
          refine lv_aload_n hx hb d_PB_putReal_75 rfl (lv_at hl 0 rfl) ?_
          refine va_get (D := D) (ci := 0) (C := R_PB) (T := T_PB) (N := 2) hx hb hT in_PB hown hK hP 0 rfl rfl 1 (by decide) (hT _ m_487) (fun _ h9 => h9) rfl d_PB_putReal_76 ?_
          refine lv_aload_n hx hb d_PB_putReal_79 rfl (lv_at hl 2 rfl) ?_
          refine lv_lload_n hx hb d_PB_putReal_80 rfl (lv_at hl 1 rfl) ?_
          refine q_V (As := [.long a1]) (rest := [.ref (ad 3)]) (n := 1) hx hb hml hown hts (c_Real_significand l (oR oF oD t2) (KR t2) a1) rfl rfl m_54 m_488 m_56 m_57 m_11 (by decide +kernel) ⟨Nat.le_of_ble_eq_true rfl, Nat.le_of_ble_eq_true rfl⟩ (eRc hS hE t2) (p1_bl) (fun U hU hW => ⟨nB_mv hW hNB, eRe_of hU hW hS hE t2⟩) rfl hl.1 rfl (Nat.le_of_ble_eq_true rfl) d_PB_putReal_81 ⟨Nat.zero_le _, Nat.zero_le _⟩ ?_
          refine lv_aload_n hx hb d_PB_putReal_84 rfl (lv_at hl 2 rfl) ?_
          refine lv_lload_n hx hb d_PB_putReal_85 rfl (lv_at hl 1 rfl) ?_
          refine q_V (As := [.long a1]) (rest := [.long (F_Real_significand (KR t2) a1), .ref (ad 3)]) (n := 1) hx hb hml hown hts (c_Real_power l (oR oF oD t2) (KR t2) a1) rfl rfl m_58 m_489 m_60 m_61 m_11 (by decide +kernel) ⟨Nat.le_of_ble_eq_true rfl, Nat.le_of_ble_eq_true rfl⟩ (eRc hS hE t2) (p1_bl) (fun U hU hW => ⟨nB_mv hW hNB, eRe_of hU hW hS hE t2⟩) rfl hl.1 rfl (Nat.le_of_ble_eq_true rfl) d_PB_putReal_86 ⟨Nat.zero_le _, Nat.zero_le _⟩ ?_
          refine lv_aload_n hx hb d_PB_putReal_89 rfl (lv_at hl 2 rfl) ?_
          refine lv_lload_n hx hb d_PB_putReal_90 rfl (lv_at hl 1 rfl) ?_
          refine q_V (As := [.long a1]) (rest := [.int (F_Real_power (KR t2) a1), .long (F_Real_significand (KR t2) a1), .ref (ad 3)]) (n := 1) hx hb hml hown hts (c_Real_isCloserBelow l (oR oF oD t2) (KR t2) a1) rfl rfl m_490 m_491 m_492 m_493 m_11 (by decide +kernel) ⟨Nat.le_of_ble_eq_true rfl, Nat.le_of_ble_eq_true rfl⟩ (eRc hS hE t2) (p1_bl) (fun U hU hW => ⟨nB_mv hW hNB, eRe_of hU hW hS hE t2⟩) rfl hl.1 rfl (Nat.le_of_ble_eq_true rfl) d_PB_putReal_91 ⟨Nat.zero_le _, Nat.zero_le _⟩ ?_
          obtain ⟨x15, e_x15, h⟩ := bd_o h
          refine q_GV (D := D) (A := A) (C := R_SD) (b := ad 3) (As := [.long (F_Real_significand (KR t2) a1), .int (F_Real_power (KR t2) a1), .int (F_Real_isCloserBelow (KR t2) a1)]) (rest := []) (n := 3) hx hb hml hown hts (c_SD_find l D A cI cL cC ad X len_1 tk row_2 dig_3 pw_4 used_5 lost_6 lim_7 n (F_Real_significand (KR t2) a1) (F_Real_power (KR t2) a1) (F_Real_isCloserBelow (KR t2) a1) x15 e_x15) rfl rfl m_494 m_495 m_496 m_497 m_113 (by decide +kernel) ⟨Nat.le_of_ble_eq_true rfl, Nat.le_of_ble_eq_true rfl⟩ (va_recv hK hP (ci := 2) rfl (q0 := 3) rfl) hNB hK hP hD hS rfl hl.1 rfl (Nat.le_of_ble_eq_true rfl) d_PB_putReal_94 ⟨Nat.zero_le _, Nat.zero_le _⟩ (fun H locs hP hD hS => ?_)
          have hP : va_P D cls (gC cI cL cC ad X len_1 tk row_2 x15.1 x15.2.1 x15.2.2.1 x15.2.2.2.1 x15.2.2.2.2) H := hP
          have hD : va_D A (gC cI cL cC ad X len_1 tk row_2 x15.1 x15.2.1 x15.2.2.1 x15.2.2.2.1 x15.2.2.2.2) := hD
          refine lv_aload_n hx hb d_PB_putReal_97 rfl (lv_at hl 0 rfl) ?_
          refine va_get (D := D) (ci := 0) (C := R_PB) (T := T_PB) (N := 2) hx hb hT in_PB hown hK hP 0 rfl rfl 0 (by decide) (hT _ m_498) (fun _ h9 => h9) rfl d_PB_putReal_98 ?_
          refine lv_aload_n hx hb d_PB_putReal_101 rfl (lv_at hl 0 rfl) ?_
          refine va_get (D := D) (ci := 0) (C := R_PB) (T := T_PB) (N := 2) hx hb hT in_PB hown hK hP 0 rfl rfl 1 (by decide) (hT _ m_487) (fun _ h9 => h9) rfl d_PB_putReal_102 ?_
          obtain ⟨x16, e_x16, h⟩ := lt_o h
          refine q_GV (D := D) (A := A) (C := R_SD) (b := ad 3) (As := []) (rest := [.ref (ad 1)]) (n := 0) hx hb hml hown hts (c_SD_digits l D A cI cL cC ad X len_1 tk row_2 x15.1 x15.2.1 x15.2.2.1 x15.2.2.2.1 x15.2.2.2.2 x16 e_x16.symm) rfl rfl m_499 m_500 m_501 m_502 m_113 (by decide +kernel) ⟨Nat.le_of_ble_eq_true rfl, Nat.le_of_ble_eq_true rfl⟩ (va_recv hK hP (ci := 2) rfl (q0 := 3) rfl) hNB hK hP hD hS rfl hl.1 rfl (Nat.le_of_ble_eq_true rfl) d_PB_putReal_105 ⟨Nat.zero_le _, Nat.zero_le _⟩ (fun H locs hP hD hS => ?_)
          have hP : va_P D cls (gC cI cL cC ad X len_1 tk row_2 x15.1 x15.2.1 x15.2.2.1 x15.2.2.2.1 x15.2.2.2.2) H := hP
          have hD : va_D A (gC cI cL cC ad X len_1 tk row_2 x15.1 x15.2.1 x15.2.2.1 x15.2.2.2.1 x15.2.2.2.2) := hD
          refine lv_aload_n hx hb d_PB_putReal_108 rfl (lv_at hl 0 rfl) ?_
          refine va_get (D := D) (ci := 0) (C := R_PB) (T := T_PB) (N := 2) hx hb hT in_PB hown hK hP 0 rfl rfl 1 (by decide) (hT _ m_487) (fun _ h9 => h9) rfl d_PB_putReal_109 ?_
          obtain ⟨x17, e_x17, h⟩ := lt_o h
          refine q_GV (D := D) (A := A) (C := R_SD) (b := ad 3) (As := []) (rest := [.long x16, .ref (ad 1)]) (n := 0) hx hb hml hown hts (c_SD_power l D A cI cL cC ad X len_1 tk row_2 x15.1 x15.2.1 x15.2.2.1 x15.2.2.2.1 x15.2.2.2.2 x17 e_x17.symm) rfl rfl m_503 m_504 m_505 m_506 m_113 (by decide +kernel) ⟨Nat.le_of_ble_eq_true rfl, Nat.le_of_ble_eq_true rfl⟩ (va_recv hK hP (ci := 2) rfl (q0 := 3) rfl) hNB hK hP hD hS rfl hl.1 rfl (Nat.le_of_ble_eq_true rfl) d_PB_putReal_112 ⟨Nat.zero_le _, Nat.zero_le _⟩ (fun H locs hP hD hS => ?_)
          have hP : va_P D cls (gC cI cL cC ad X len_1 tk row_2 x15.1 x15.2.1 x15.2.2.1 x15.2.2.2.1 x15.2.2.2.2) H := hP
          have hD : va_D A (gC cI cL cC ad X len_1 tk row_2 x15.1 x15.2.1 x15.2.2.1 x15.2.2.2.1 x15.2.2.2.2) := hD
          obtain ⟨x18, e_x18, h⟩ := bd_o h
          refine q_EV (D := D) (A := A) (E := fun U => eE oF oD kA vA A U U.heap) (C := R_Lt) (b := ad 1) (As := [.long x16, .int x17]) (rest := []) (n := 2) hx hb hml hown hts (c_Lt_putDecimal l D A cI cL cC ad X len_1 tk row_2 x15.1 x15.2.1 x15.2.2.1 x15.2.2.2.1 x15.2.2.2.2 oF oD kA vA n x16 x17 x18 e_x18) rfl rfl m_507 m_508 m_509 m_510 m_183 (by decide +kernel) ⟨Nat.le_of_ble_eq_true rfl, Nat.le_of_ble_eq_true rfl⟩ (va_recv hK hP (ci := 1) rfl (q0 := 1) rfl) (fun U g mk a h => eE_bl U g mk a h) (fun U hU hW => eEe_of hU hW hS hE) hNB hK hP hD hS rfl hl.1 rfl (Nat.le_of_ble_eq_true rfl) d_PB_putReal_115 ⟨Nat.zero_le _, Nat.zero_le _⟩ (fun H locs hP hD hS => ?_)
          have hP : va_P D cls (gC cI cL cC ad X x18.1 tk x18.2 x15.1 x15.2.1 x15.2.2.1 x15.2.2.2.1 x15.2.2.2.2) H := hP
          have hD : va_D A (gC cI cL cC ad X x18.1 tk x18.2 x15.1 x15.2.1 x15.2.2.1 x15.2.2.2.1 x15.2.2.2.2) := hD
          exact hJ118 _ _ _ _ _ _ _ ls _ _ (lv_sub hl [] rfl) hP hD hS h
        · have h := ite_f hc h
          refine lv_aload_n hx hb d_PB_putReal_63 rfl (lv_at hl 0 rfl) ?_
          refine va_get (D := D) (ci := 0) (C := R_PB) (T := T_PB) (N := 2) hx hb hT in_PB hown hK hP 0 rfl rfl 0 (by decide) (hT _ m_498) (fun _ h9 => h9) rfl d_PB_putReal_64 ?_
          refine va_ldcS hx hb (own := R_PB) hown (hE.1.2.2 3 (by decide)) d_PB_putReal_67 ?_
          obtain ⟨x19, e_x19, h⟩ := bd_o h
          refine q_EV (D := D) (A := A) (E := fun U => sT (kA 3) (vA 3) [48, 46, 48] A U U.heap) (C := R_Lt) (b := ad 1) (As := [.ref (kA 3)]) (rest := []) (n := 1) hx hb hml hown hts (c_Lt_put_r l D A cI cL cC ad X len_1 tk row_2 dig_3 pw_4 used_5 lost_6 lim_7 n (kA 3) (vA 3) [48, 46, 48] (by decide) x19 e_x19) rfl rfl m_476 m_511 m_478 m_479 m_183 (by decide +kernel) ⟨Nat.le_of_ble_eq_true rfl, Nat.le_of_ble_eq_true rfl⟩ (va_recv hK hP (ci := 1) rfl (q0 := 1) rfl) sTe_bl (fun U hU hW => sTe_of hU hW hS hE.2.2.2.2.2.1) hNB hK hP hD hS rfl hl.1 rfl (Nat.le_of_ble_eq_true rfl) d_PB_putReal_69 ⟨Nat.zero_le _, Nat.zero_le _⟩ (fun H locs hP hD hS => ?_)
          have hP : va_P D cls (gC cI cL cC ad X x19.1 tk x19.2 dig_3 pw_4 used_5 lost_6 lim_7) H := hP
          have hD : va_D A (gC cI cL cC ad X x19.1 tk x19.2 dig_3 pw_4 used_5 lost_6 lim_7) := hD
          refine lv_goto (tgt := 118) hx hb d_PB_putReal_72 rfl ?_
          exact hJ118 _ _ _ _ _ _ _ ls _ _ (lv_sub hl [] rfl) hP hD hS h
      · have h := ite_f hc h
        refine lv_aload_n hx hb d_PB_putReal_43 rfl (lv_at hl 0 rfl) ?_
        refine va_get (D := D) (ci := 0) (C := R_PB) (T := T_PB) (N := 2) hx hb hT in_PB hown hK hP 0 rfl rfl 0 (by decide) (hT _ m_498) (fun _ h9 => h9) rfl d_PB_putReal_44 ?_
        refine va_ldcS hx hb (own := R_PB) hown (hE.1.2.2 2 (by decide)) d_PB_putReal_47 ?_
        obtain ⟨x20, e_x20, h⟩ := bd_o h
        refine q_EV (D := D) (A := A) (E := fun U => sT (kA 2) (vA 2) [73, 110, 102, 105, 110, 105, 116, 121] A U U.heap) (C := R_Lt) (b := ad 1) (As := [.ref (kA 2)]) (rest := []) (n := 1) hx hb hml hown hts (c_Lt_put_r l D A cI cL cC ad X len_1 tk row_2 dig_3 pw_4 used_5 lost_6 lim_7 n (kA 2) (vA 2) [73, 110, 102, 105, 110, 105, 116, 121] (by decide) x20 e_x20) rfl rfl m_476 m_511 m_478 m_479 m_183 (by decide +kernel) ⟨Nat.le_of_ble_eq_true rfl, Nat.le_of_ble_eq_true rfl⟩ (va_recv hK hP (ci := 1) rfl (q0 := 1) rfl) sTe_bl (fun U hU hW => sTe_of hU hW hS hE.2.2.2.2.1) hNB hK hP hD hS rfl hl.1 rfl (Nat.le_of_ble_eq_true rfl) d_PB_putReal_49 ⟨Nat.zero_le _, Nat.zero_le _⟩ (fun H locs hP hD hS => ?_)
        have hP : va_P D cls (gC cI cL cC ad X x20.1 tk x20.2 dig_3 pw_4 used_5 lost_6 lim_7) H := hP
        have hD : va_D A (gC cI cL cC ad X x20.1 tk x20.2 dig_3 pw_4 used_5 lost_6 lim_7) := hD
        refine lv_goto (tgt := 118) hx hb d_PB_putReal_52 rfl ?_
        exact hJ118 _ _ _ _ _ _ _ ls _ _ (lv_sub hl [] rfl) hP hD hS h
    refine lv_if_eq (tgt := 35) hx hb d_PB_putReal_23 rfl (fun hc => ?_) (fun hc => ?_)
    · have h := ite_t hc h
      exact hJ35 _ _ _ _ _ _ _ ls _ _ (lv_sub hl [0, 1, 2] rfl) hP hD hS h
    · have h := ite_f hc h
      refine lv_aload_n hx hb d_PB_putReal_26 rfl (lv_at hl 0 rfl) ?_
      refine va_get (D := D) (ci := 0) (C := R_PB) (T := T_PB) (N := 2) hx hb hT in_PB hown hK hP 0 rfl rfl 0 (by decide) (hT _ m_498) (fun _ h9 => h9) rfl d_PB_putReal_27 ?_
      refine lv_bipush hx hb d_PB_putReal_30 bp_45 ?_
      obtain ⟨x21, e_x21, h⟩ := bd_o h
      refine q_GV (D := D) (A := A) (C := R_Lt) (b := ad 1) (As := [.int (45 : Int32)]) (rest := []) (n := 1) hx hb hml hown hts (c_Lt_put_i l D A cI cL cC ad X len tk row dig pw used lost lim n (45 : Int32) x21 e_x21) rfl rfl m_188 m_512 m_190 m_191 m_183 (by decide +kernel) ⟨Nat.le_of_ble_eq_true rfl, Nat.le_of_ble_eq_true rfl⟩ (va_recv hK hP (ci := 1) rfl (q0 := 1) rfl) hNB hK hP hD hS rfl hl.1 rfl (Nat.le_of_ble_eq_true rfl) d_PB_putReal_32 ⟨Nat.zero_le _, Nat.zero_le _⟩ (fun H locs hP hD hS => ?_)
      have hP : va_P D cls (gC cI cL cC ad X x21.1 tk x21.2 dig pw used lost lim) H := hP
      have hD : va_D A (gC cI cL cC ad X x21.1 tk x21.2 dig pw used lost lim) := hD
      exact hJ35 _ _ _ _ _ _ _ ls _ _ (lv_sub hl [0, 1, 2] rfl) hP hD hS h
  · have h := ite_f hc h
    refine lv_aload_n hx hb d_PB_putReal_8 rfl (lv_at hl 0 rfl) ?_
    refine va_get (D := D) (ci := 0) (C := R_PB) (T := T_PB) (N := 2) hx hb hT in_PB hown hK hP 0 rfl rfl 0 (by decide) (hT _ m_498) (fun _ h9 => h9) rfl d_PB_putReal_9 ?_
    refine va_ldcS hx hb (own := R_PB) hown (hE.1.2.2 1 (by decide)) d_PB_putReal_12 ?_
    obtain ⟨x22, e_x22, h⟩ := bd_o h
    refine q_EV (D := D) (A := A) (E := fun U => sT (kA 1) (vA 1) [78, 97, 78] A U U.heap) (C := R_Lt) (b := ad 1) (As := [.ref (kA 1)]) (rest := []) (n := 1) hx hb hml hown hts (c_Lt_put_r l D A cI cL cC ad X len tk row dig pw used lost lim n (kA 1) (vA 1) [78, 97, 78] (by decide) x22 e_x22) rfl rfl m_476 m_511 m_478 m_479 m_183 (by decide +kernel) ⟨Nat.le_of_ble_eq_true rfl, Nat.le_of_ble_eq_true rfl⟩ (va_recv hK hP (ci := 1) rfl (q0 := 1) rfl) sTe_bl (fun U hU hW => sTe_of hU hW hS hE.2.2.2.1) hNB hK hP hD hS rfl hl.1 rfl (Nat.le_of_ble_eq_true rfl) d_PB_putReal_14 ⟨Nat.zero_le _, Nat.zero_le _⟩ (fun H locs hP hD hS => ?_)
    have hP : va_P D cls (gC cI cL cC ad X x22.1 tk x22.2 dig pw used lost lim) H := hP
    have hD : va_D A (gC cI cL cC ad X x22.1 tk x22.2 dig pw used lost lim) := hD
    obtain rfl := Option.some.inj h
    exact hret 17 ls _ _ hP hD hS d_PB_putReal_17
-- PB_text
theorem d_PB_text_0 : decode b_PB_text 0 = .ok (.iload_n 3, 1) := by decide +kernel
theorem d_PB_text_1 : decode b_PB_text 1 = .ok (.iconst 1, 1) := by decide +kernel
theorem d_PB_text_2 : decode b_PB_text 2 = .ok (.if_icmp .lt 9, 3) := by decide +kernel
theorem d_PB_text_5 : decode b_PB_text 5 = .ok (.iload_n 3, 1) := by decide +kernel
theorem d_PB_text_6 : decode b_PB_text 6 = .ok (.bipush 6, 2) := by decide +kernel
theorem d_PB_text_8 : decode b_PB_text 8 = .ok (.if_icmp .le 13, 3) := by decide +kernel
theorem d_PB_text_11 : decode b_PB_text 11 = .ok (.new 31, 3) := by decide +kernel
theorem d_PB_text_21 : decode b_PB_text 21 = .ok (.aload_n 0, 1) := by decide +kernel
theorem d_PB_text_22 : decode b_PB_text 22 = .ok (.getfield 10, 3) := by decide +kernel
theorem d_PB_text_25 : decode b_PB_text 25 = .ok (.invokevirtual 93, 3) := by decide +kernel
theorem d_PB_text_28 : decode b_PB_text 28 = .ok (.iload_n 3, 1) := by decide +kernel
theorem d_PB_text_29 : decode b_PB_text 29 = .ok (.invokestatic 38, 3) := by decide +kernel
theorem d_PB_text_32 : decode b_PB_text 32 = .ok (.ifCond .eq 18, 3) := by decide +kernel
theorem d_PB_text_35 : decode b_PB_text 35 = .ok (.aload_n 0, 1) := by decide +kernel
theorem d_PB_text_36 : decode b_PB_text 36 = .ok (.getfield 10, 3) := by decide +kernel
theorem d_PB_text_39 : decode b_PB_text 39 = .ok (.lload_n 1, 1) := by decide +kernel
theorem d_PB_text_40 : decode b_PB_text 40 = .ok (.iload_n 3, 1) := by decide +kernel
theorem d_PB_text_41 : decode b_PB_text 41 = .ok (.invokestatic 41, 3) := by decide +kernel
theorem d_PB_text_44 : decode b_PB_text 44 = .ok (.invokevirtual 96, 3) := by decide +kernel
theorem d_PB_text_47 : decode b_PB_text 47 = .ok (.goto 12, 3) := by decide +kernel
theorem d_PB_text_50 : decode b_PB_text 50 = .ok (.aload_n 0, 1) := by decide +kernel
theorem d_PB_text_51 : decode b_PB_text 51 = .ok (.lload_n 1, 1) := by decide +kernel
theorem d_PB_text_52 : decode b_PB_text 52 = .ok (.iload_n 3, 1) := by decide +kernel
theorem d_PB_text_53 : decode b_PB_text 53 = .ok (.invokestatic 49, 3) := by decide +kernel
theorem d_PB_text_56 : decode b_PB_text 56 = .ok (.invokevirtual 100, 3) := by decide +kernel
theorem d_PB_text_59 : decode b_PB_text 59 = .ok (.aload_n 0, 1) := by decide +kernel
theorem d_PB_text_60 : decode b_PB_text 60 = .ok (.getfield 10, 3) := by decide +kernel
theorem d_PB_text_63 : decode b_PB_text 63 = .ok (.invokevirtual 104, 3) := by decide +kernel
theorem d_PB_text_66 : decode b_PB_text 66 = .ok (.ireturn, 1) := by decide +kernel
def F_PB_text (n : Nat) (len : Int32) (tk : Int32) (row : Nat → Int32) (dig : Int64) (pw : Int32) (used : Int32) (lost : Int32) (lim : Nat → Int64) (a1 : Int64) (a2 : Int32) : Option (Int32 × Int32 × Int32 × (Nat → Int32) × Int64 × Int32 × Int32 × Int32 × (Nat → Int64)) := lt_ (fun (len_1 : Int32) (tk_2 : Int32) (row_3 : (Nat → Int32)) (dig_4 : Int64) (pw_5 : Int32) (used_6 : Int32) (lost_7 : Int32) (lim_8 : (Nat → Int64)) => none) fun j11 => if a2 < (1 : Int32) then (j11 len tk row dig pw used lost lim) else (if a2 ≤ (6 : Int32) then (lt_ (F_Lt_clear len tk) fun x9 => lt_ (fun (len_10 : Int32) (tk_11 : Int32) (row_12 : (Nat → Int32)) (dig_13 : Int64) (pw_14 : Int32) (used_15 : Int32) (lost_16 : Int32) (lim_17 : (Nat → Int64)) => lt_ (F_Lt_count len_10) fun x18 => some (x18, len_10, tk_11, row_12, dig_13, pw_14, used_15, lost_16, lim_17)) fun j59 => if (F_PB_isWhole a2) = 0 then ((F_PB_putReal n x9.1 row dig pw used lost lim a1 a2).bind fun x19 => j59 x19.1 x9.2 x19.2.1 x19.2.2.1 x19.2.2.2.1 x19.2.2.2.2.1 x19.2.2.2.2.2.1 x19.2.2.2.2.2.2) else ((F_Lt_putWhole n x9.1 row (F_PB_wholeOf a1 a2)).bind fun x20 => j59 x20.1 x9.2 x20.2 dig pw used lost lim)) else (j11 len tk row dig pw used lost lim))
set_option maxHeartbeats 4000000 in
set_option maxRecDepth 100000 in
theorem c_PB_text (l : Launch) (D : va_G) (A : Nat → Prop) (cI cL cC : ClassId) (ad : Nat → Nat) (X : va_W) (len : Int32) (tk : Int32) (row : Nat → Int32) (dig : Int64) (pw : Int32) (used : Int32) (lost : Int32) (lim : Nat → Int64) (oF oD : Nat) (kA vA : Nat → Nat) (n : Nat) (a1 : Int64) (a2 : Int32) (r : Int32 × Int32 × Int32 × (Nat → Int32) × Int64 × Int32 × Int32 × Int32 × (Nat → Int64)) (h : F_PB_text n len tk row dig pw used lost lim a1 a2 = some r) : Met l y_PB_text (.code y_PB_text b_PB_text 4 (some .int) :: BIG) ({ frames := 8, cells := 0, slots := 0, locals := 181 } : Room) (va_Pc [.ref (ad 0), .long a1, .int a2] (ePre D A (tysV cI cL cC) (gC cI cL cC ad X len tk row dig pw used lost lim) (fun U => eE oF oD kA vA A U U.heap))) (gQ D A (some (.int r.1)) (gC cI cL cC ad X r.2.1 r.2.2.1 r.2.2.2.1 r.2.2.2.2.1 r.2.2.2.2.2.1 r.2.2.2.2.2.2.1 r.2.2.2.2.2.2.2.1 r.2.2.2.2.2.2.2.2)) 0 0 A := by
  refine eOpen_i rfl (Nat.le_of_ble_eq_true rfl) ?_
  intro p e s m args below meth c Q ls hx hb hml hown hts hT hNB hP hK hD hE hl hret
  have hown : s.vm.findClass R_PB = some m.cls := hown
  have hS : va_S A s.heap s.heap [] := va_S.rf
  have hl : lv_has ls 4 [(0, .ref (ad 0)), (1, .long a1), (3, .int a2)] := hl
  have h : (lt_ (fun (len_1 : Int32) (tk_2 : Int32) (row_3 : (Nat → Int32)) (dig_4 : Int64) (pw_5 : Int32) (used_6 : Int32) (lost_7 : Int32) (lim_8 : (Nat → Int64)) => none) fun j11 => if a2 < (1 : Int32) then (j11 len tk row dig pw used lost lim) else (if a2 ≤ (6 : Int32) then (lt_ (F_Lt_clear len tk) fun x9 => lt_ (fun (len_10 : Int32) (tk_11 : Int32) (row_12 : (Nat → Int32)) (dig_13 : Int64) (pw_14 : Int32) (used_15 : Int32) (lost_16 : Int32) (lim_17 : (Nat → Int64)) => lt_ (F_Lt_count len_10) fun x18 => some (x18, len_10, tk_11, row_12, dig_13, pw_14, used_15, lost_16, lim_17)) fun j59 => if (F_PB_isWhole a2) = 0 then ((F_PB_putReal n x9.1 row dig pw used lost lim a1 a2).bind fun x19 => j59 x19.1 x9.2 x19.2.1 x19.2.2.1 x19.2.2.2.1 x19.2.2.2.2.1 x19.2.2.2.2.2.1 x19.2.2.2.2.2.2) else ((F_Lt_putWhole n x9.1 row (F_PB_wholeOf a1 a2)).bind fun x20 => j59 x20.1 x9.2 x20.2 dig pw used lost lim)) else (j11 len tk row dig pw used lost lim))) = some r := h
  refine lv_iload_n hx hb d_PB_text_0 rfl (lv_at hl 2 rfl) ?_
  refine lv_iconst hx hb d_PB_text_1 ic_1 ?_
  obtain ⟨j11, e_j11, h⟩ := lt_o h
  have hJ11 : ∀ (len_1 : Int32) (tk_2 : Int32) (row_3 : (Nat → Int32)) (dig_4 : Int64) (pw_5 : Int32) (used_6 : Int32) (lost_7 : Int32) (lim_8 : (Nat → Int64)) (ls : Array Slot) (H : Heap) (locs : List Loc), lv_has ls 4 [] → va_P D cls (gC cI cL cC ad X len_1 tk_2 row_3 dig_4 pw_5 used_6 lost_7 lim_8) H → va_D A (gC cI cL cC ad X len_1 tk_2 row_3 dig_4 pw_5 used_6 lost_7 lim_8) → va_S A s.heap H locs → j11 len_1 tk_2 row_3 dig_4 pw_5 used_6 lost_7 lim_8 = some r → W p l e ({ frames := 8, cells := 0, slots := 0, locals := 181 } : Room) s m args below meth c H locs 0 0 Q (F0 m 11 ls []) := by
    intro len_1 tk_2 row_3 dig_4 pw_5 used_6 lost_7 lim_8 ls H locs hl hP hD hS h
    rw [e_j11] at h
    exact no_s h
  refine lv_icmp_lt (tgt := 11) hx hb d_PB_text_2 rfl (fun hc => ?_) (fun hc => ?_)
  · have h := ite_t hc h
    exact hJ11 _ _ _ _ _ _ _ _ ls _ _ (lv_sub hl [] rfl) hP hD hS h
  · have h := ite_f hc h
    refine lv_iload_n hx hb d_PB_text_5 rfl (lv_at hl 2 rfl) ?_
    refine lv_bipush hx hb d_PB_text_6 bp_6 ?_
    refine lv_icmp_le (tgt := 21) hx hb d_PB_text_8 rfl (fun hc => ?_) (fun hc => ?_)
    · have h := ite_t hc h
      refine lv_aload_n hx hb d_PB_text_21 rfl (lv_at hl 0 rfl) ?_
      refine va_get (D := D) (ci := 0) (C := R_PB) (T := T_PB) (N := 2) hx hb hT in_PB hown hK hP 0 rfl rfl 0 (by decide) (hT _ m_498) (fun _ h9 => h9) rfl d_PB_text_22 ?_
      obtain ⟨x9, e_x9, h⟩ := lt_o h
      refine q_GV (D := D) (A := A) (C := R_Lt) (b := ad 1) (As := []) (rest := []) (n := 0) hx hb hml hown hts (c_Lt_clear l D A cI cL cC ad X len tk row dig pw used lost lim x9 e_x9.symm) rfl rfl m_513 m_514 m_515 m_516 m_183 (by decide +kernel) ⟨Nat.le_of_ble_eq_true rfl, Nat.le_of_ble_eq_true rfl⟩ (va_recv hK hP (ci := 1) rfl (q0 := 1) rfl) hNB hK hP hD hS rfl hl.1 rfl (Nat.le_of_ble_eq_true rfl) d_PB_text_25 ⟨Nat.zero_le _, Nat.zero_le _⟩ (fun H locs hP hD hS => ?_)
      have hP : va_P D cls (gC cI cL cC ad X x9.1 x9.2 row dig pw used lost lim) H := hP
      have hD : va_D A (gC cI cL cC ad X x9.1 x9.2 row dig pw used lost lim) := hD
      refine lv_iload_n hx hb d_PB_text_28 rfl (lv_at hl 2 rfl) ?_
      refine q_S (As := [.int a2]) (rest := []) (n := 1) hx hb hml hown hts (c_PB_isWhole l a2) rfl rfl m_0 m_1 m_2 m_3 (by decide +kernel) ⟨Nat.le_of_ble_eq_true rfl, Nat.le_of_ble_eq_true rfl⟩ (p0_bl) (fun U hU hW => p0_mv hU hW hNB) rfl hl.1 rfl (Nat.le_of_ble_eq_true rfl) d_PB_text_29 ⟨Nat.zero_le _, Nat.zero_le _⟩ ?_
      obtain ⟨j59, e_j59, h⟩ := lt_o h
      have hJ59 : ∀ (len_10 : Int32) (tk_11 : Int32) (row_12 : (Nat → Int32)) (dig_13 : Int64) (pw_14 : Int32) (used_15 : Int32) (lost_16 : Int32) (lim_17 : (Nat → Int64)) (ls : Array Slot) (H : Heap) (locs : List Loc), lv_has ls 4 [(0, .ref (ad 0))] → va_P D cls (gC cI cL cC ad X len_10 tk_11 row_12 dig_13 pw_14 used_15 lost_16 lim_17) H → va_D A (gC cI cL cC ad X len_10 tk_11 row_12 dig_13 pw_14 used_15 lost_16 lim_17) → va_S A s.heap H locs → j59 len_10 tk_11 row_12 dig_13 pw_14 used_15 lost_16 lim_17 = some r → W p l e ({ frames := 8, cells := 0, slots := 0, locals := 181 } : Room) s m args below meth c H locs 0 0 Q (F0 m 59 ls []) := by
        intro len_10 tk_11 row_12 dig_13 pw_14 used_15 lost_16 lim_17 ls H locs hl hP hD hS h
        rw [e_j59] at h
        refine lv_aload_n hx hb d_PB_text_59 rfl (lv_at hl 0 rfl) ?_
        refine va_get (D := D) (ci := 0) (C := R_PB) (T := T_PB) (N := 2) hx hb hT in_PB hown hK hP 0 rfl rfl 0 (by decide) (hT _ m_498) (fun _ h9 => h9) rfl d_PB_text_60 ?_
        obtain ⟨x18, e_x18, h⟩ := lt_o h
        refine q_GV (D := D) (A := A) (C := R_Lt) (b := ad 1) (As := []) (rest := []) (n := 0) hx hb hml hown hts (c_Lt_count l D A cI cL cC ad X len_10 tk_11 row_12 dig_13 pw_14 used_15 lost_16 lim_17 x18 e_x18.symm) rfl rfl m_517 m_518 m_519 m_520 m_183 (by decide +kernel) ⟨Nat.le_of_ble_eq_true rfl, Nat.le_of_ble_eq_true rfl⟩ (va_recv hK hP (ci := 1) rfl (q0 := 1) rfl) hNB hK hP hD hS rfl hl.1 rfl (Nat.le_of_ble_eq_true rfl) d_PB_text_63 ⟨Nat.zero_le _, Nat.zero_le _⟩ (fun H locs hP hD hS => ?_)
        have hP : va_P D cls (gC cI cL cC ad X len_10 tk_11 row_12 dig_13 pw_14 used_15 lost_16 lim_17) H := hP
        have hD : va_D A (gC cI cL cC ad X len_10 tk_11 row_12 dig_13 pw_14 used_15 lost_16 lim_17) := hD
        obtain rfl := Option.some.inj h
        exact hret 66 ls _ _ _ rfl hP hD hS d_PB_text_66
      refine lv_if_eq (tgt := 50) hx hb d_PB_text_32 rfl (fun hc => ?_) (fun hc => ?_)
      · have h := ite_t hc h
        refine lv_aload_n hx hb d_PB_text_50 rfl (lv_at hl 0 rfl) ?_
        refine lv_lload_n hx hb d_PB_text_51 rfl (lv_at hl 1 rfl) ?_
        refine lv_iload_n hx hb d_PB_text_52 rfl (lv_at hl 2 rfl) ?_
        refine q_S (As := [.int a2]) (rest := [.long a1, .ref (ad 0)]) (n := 1) hx hb hml hown hts (c_PB_realOf l oF oD kA vA a2) rfl rfl mr_3 mr_5 mr_4 mr_6 (by decide +kernel) ⟨Nat.le_of_ble_eq_true rfl, Nat.le_of_ble_eq_true rfl⟩ xPre_bl (fun U hU hW => xPre_of hU hW hS hE) rfl hl.1 rfl (Nat.le_of_ble_eq_true rfl) d_PB_text_53 ⟨Nat.zero_le _, Nat.zero_le _⟩ ?_
        obtain ⟨x19, e_x19, h⟩ := bd_o h
        refine q_EV (D := D) (A := A) (E := fun U => eE oF oD kA vA A U U.heap) (C := R_PB) (b := ad 0) (As := [.long a1, .ref (oR oF oD a2)]) (rest := []) (n := 2) hx hb hml hown hts (c_PB_putReal l D A cI cL cC ad X x9.1 x9.2 row dig pw used lost lim oF oD kA vA n a1 a2 x19 e_x19) rfl rfl m_521 m_522 m_523 m_524 m_3 (by decide +kernel) ⟨Nat.le_of_ble_eq_true rfl, Nat.le_of_ble_eq_true rfl⟩ (va_recv hK hP (ci := 0) rfl (q0 := 0) rfl) (fun U g mk a h => eE_bl U g mk a h) (fun U hU hW => eEe_of hU hW hS hE) hNB hK hP hD hS rfl hl.1 rfl (Nat.le_of_ble_eq_true rfl) d_PB_text_56 ⟨Nat.zero_le _, Nat.zero_le _⟩ (fun H locs hP hD hS => ?_)
        have hP : va_P D cls (gC cI cL cC ad X x19.1 x9.2 x19.2.1 x19.2.2.1 x19.2.2.2.1 x19.2.2.2.2.1 x19.2.2.2.2.2.1 x19.2.2.2.2.2.2) H := hP
        have hD : va_D A (gC cI cL cC ad X x19.1 x9.2 x19.2.1 x19.2.2.1 x19.2.2.2.1 x19.2.2.2.2.1 x19.2.2.2.2.2.1 x19.2.2.2.2.2.2) := hD
        exact hJ59 _ _ _ _ _ _ _ _ ls _ _ (lv_sub hl [0] rfl) hP hD hS h
      · have h := ite_f hc h
        refine lv_aload_n hx hb d_PB_text_35 rfl (lv_at hl 0 rfl) ?_
        refine va_get (D := D) (ci := 0) (C := R_PB) (T := T_PB) (N := 2) hx hb hT in_PB hown hK hP 0 rfl rfl 0 (by decide) (hT _ m_498) (fun _ h9 => h9) rfl d_PB_text_36 ?_
        refine lv_lload_n hx hb d_PB_text_39 rfl (lv_at hl 1 rfl) ?_
        refine lv_iload_n hx hb d_PB_text_40 rfl (lv_at hl 2 rfl) ?_
        refine q_S (As := [.long a1, .int a2]) (rest := [.ref (ad 1)]) (n := 2) hx hb hml hown hts (c_PB_wholeOf l a1 a2) rfl rfl m_173 m_174 m_175 m_3 (by decide +kernel) ⟨Nat.le_of_ble_eq_true rfl, Nat.le_of_ble_eq_true rfl⟩ (p0_bl) (fun U hU hW => p0_mv hU hW hNB) rfl hl.1 rfl (Nat.le_of_ble_eq_true rfl) d_PB_text_41 ⟨Nat.zero_le _, Nat.zero_le _⟩ ?_
        obtain ⟨x20, e_x20, h⟩ := bd_o h
        refine q_GV (D := D) (A := A) (C := R_Lt) (b := ad 1) (As := [.long (F_PB_wholeOf a1 a2)]) (rest := []) (n := 1) hx hb hml hown hts (c_Lt_putWhole l D A cI cL cC ad X x9.1 x9.2 row dig pw used lost lim n (F_PB_wholeOf a1 a2) x20 e_x20) rfl rfl m_195 m_525 m_197 m_198 m_183 (by decide +kernel) ⟨Nat.le_of_ble_eq_true rfl, Nat.le_of_ble_eq_true rfl⟩ (va_recv hK hP (ci := 1) rfl (q0 := 1) rfl) hNB hK hP hD hS rfl hl.1 rfl (Nat.le_of_ble_eq_true rfl) d_PB_text_44 ⟨Nat.zero_le _, Nat.zero_le _⟩ (fun H locs hP hD hS => ?_)
        have hP : va_P D cls (gC cI cL cC ad X x20.1 x9.2 x20.2 dig pw used lost lim) H := hP
        have hD : va_D A (gC cI cL cC ad X x20.1 x9.2 x20.2 dig pw used lost lim) := hD
        refine lv_goto (tgt := 59) hx hb d_PB_text_47 rfl ?_
        exact hJ59 _ _ _ _ _ _ _ _ ls _ _ (lv_sub hl [0] rfl) hP hD hS h
    · have h := ite_f hc h
      exact hJ11 _ _ _ _ _ _ _ _ ls _ _ (lv_sub hl [] rfl) hP hD hS h
-- PB_take
theorem d_PB_take_0 : decode b_PB_take 0 = .ok (.aload_n 0, 1) := by decide +kernel
theorem d_PB_take_1 : decode b_PB_take 1 = .ok (.getfield 10, 3) := by decide +kernel
theorem d_PB_take_4 : decode b_PB_take 4 = .ok (.bipush 8, 2) := by decide +kernel
theorem d_PB_take_6 : decode b_PB_take 6 = .ok (.invokevirtual 108, 3) := by decide +kernel
theorem d_PB_take_9 : decode b_PB_take 9 = .ok (.lreturn, 1) := by decide +kernel
def F_PB_take (n : Nat) (len : Int32) (tk : Int32) (row : Nat → Int32) : Option (Int64 × Int32) := (F_Lt_next n len tk row (8 : Int32)).bind fun x1 => some (x1.1, x1.2)
set_option maxHeartbeats 4000000 in
set_option maxRecDepth 100000 in
theorem c_PB_take (l : Launch) (D : va_G) (A : Nat → Prop) (cI cL cC : ClassId) (ad : Nat → Nat) (X : va_W) (len : Int32) (tk : Int32) (row : Nat → Int32) (dig : Int64) (pw : Int32) (used : Int32) (lost : Int32) (lim : Nat → Int64) (n : Nat) (r : Int64 × Int32) (h : F_PB_take n len tk row = some r) : Met l y_PB_take (.code y_PB_take b_PB_take 1 (some .long) :: BIG) ({ frames := 1, cells := 0, slots := 0, locals := 24 } : Room) (va_Pc [.ref (ad 0)] (gPre D A (tysV cI cL cC) (gC cI cL cC ad X len tk row dig pw used lost lim))) (gQ D A (some (.long r.1)) (gC cI cL cC ad X len r.2 row dig pw used lost lim)) 0 0 A := by
  refine gOpen_l rfl (Nat.le_of_ble_eq_true rfl) ?_
  intro p e s m args below meth c Q ls hx hb hml hown hts hT hNB hP hK hD hl hret
  have hown : s.vm.findClass R_PB = some m.cls := hown
  have hS : va_S A s.heap s.heap [] := va_S.rf
  have hl : lv_has ls 1 [(0, .ref (ad 0))] := hl
  have h : ((F_Lt_next n len tk row (8 : Int32)).bind fun x1 => some (x1.1, x1.2)) = some r := h
  refine lv_aload_n hx hb d_PB_take_0 rfl (lv_at hl 0 rfl) ?_
  refine va_get (D := D) (ci := 0) (C := R_PB) (T := T_PB) (N := 2) hx hb hT in_PB hown hK hP 0 rfl rfl 0 (by decide) (hT _ m_498) (fun _ h9 => h9) rfl d_PB_take_1 ?_
  refine lv_bipush hx hb d_PB_take_4 bp_8 ?_
  obtain ⟨x1, e_x1, h⟩ := bd_o h
  refine q_GV (D := D) (A := A) (C := R_Lt) (b := ad 1) (As := [.int (8 : Int32)]) (rest := []) (n := 1) hx hb hml hown hts (c_Lt_next l D A cI cL cC ad X len tk row dig pw used lost lim n (8 : Int32) x1 e_x1) rfl rfl m_526 m_527 m_528 m_529 m_183 (by decide +kernel) ⟨Nat.le_of_ble_eq_true rfl, Nat.le_of_ble_eq_true rfl⟩ (va_recv hK hP (ci := 1) rfl (q0 := 1) rfl) hNB hK hP hD hS rfl hl.1 rfl (Nat.le_of_ble_eq_true rfl) d_PB_take_6 ⟨Nat.zero_le _, Nat.zero_le _⟩ (fun H locs hP hD hS => ?_)
  have hP : va_P D cls (gC cI cL cC ad X len x1.2 row dig pw used lost lim) H := hP
  have hD : va_D A (gC cI cL cC ad X len x1.2 row dig pw used lost lim) := hD
  obtain rfl := Option.some.inj h
  exact hret 9 ls _ _ _ rfl hP hD hS d_PB_take_9
