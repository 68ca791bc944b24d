-- Real_dividedSignificands
theorem d_Real_dividedSignificands_0 : decode b_Real_dividedSignificands 0 = .ok (.lload_n 2, 1) := by decide +kernel
theorem d_Real_dividedSignificands_1 : decode b_Real_dividedSignificands 1 = .ok (.bipush 10, 2) := by decide +kernel
theorem d_Real_dividedSignificands_3 : decode b_Real_dividedSignificands 3 = .ok (.lushr, 1) := by decide +kernel
theorem d_Real_dividedSignificands_4 : decode b_Real_dividedSignificands 4 = .ok (.lstore 4, 2) := by decide +kernel
theorem d_Real_dividedSignificands_6 : decode b_Real_dividedSignificands 6 = .ok (.lload 4, 2) := by decide +kernel
theorem d_Real_dividedSignificands_8 : decode b_Real_dividedSignificands 8 = .ok (.lconst 0, 1) := by decide +kernel
theorem d_Real_dividedSignificands_9 : decode b_Real_dividedSignificands 9 = .ok (.lcmp, 1) := by decide +kernel
theorem d_Real_dividedSignificands_10 : decode b_Real_dividedSignificands 10 = .ok (.ifCond .ne 5, 3) := by decide +kernel
theorem d_Real_dividedSignificands_13 : decode b_Real_dividedSignificands 13 = .ok (.lconst 0, 1) := by decide +kernel
theorem d_Real_dividedSignificands_14 : decode b_Real_dividedSignificands 14 = .ok (.lreturn, 1) := by decide +kernel
theorem d_Real_dividedSignificands_15 : decode b_Real_dividedSignificands 15 = .ok (.lload_n 0, 1) := by decide +kernel
theorem d_Real_dividedSignificands_16 : decode b_Real_dividedSignificands 16 = .ok (.bipush 10, 2) := by decide +kernel
theorem d_Real_dividedSignificands_18 : decode b_Real_dividedSignificands 18 = .ok (.lushr, 1) := by decide +kernel
theorem d_Real_dividedSignificands_19 : decode b_Real_dividedSignificands 19 = .ok (.lstore 6, 2) := by decide +kernel
theorem d_Real_dividedSignificands_21 : decode b_Real_dividedSignificands 21 = .ok (.lload 6, 2) := by decide +kernel
theorem d_Real_dividedSignificands_23 : decode b_Real_dividedSignificands 23 = .ok (.lload 4, 2) := by decide +kernel
theorem d_Real_dividedSignificands_25 : decode b_Real_dividedSignificands 25 = .ok (.ldiv, 1) := by decide +kernel
theorem d_Real_dividedSignificands_26 : decode b_Real_dividedSignificands 26 = .ok (.lstore 8, 2) := by decide +kernel
theorem d_Real_dividedSignificands_28 : decode b_Real_dividedSignificands 28 = .ok (.lload 6, 2) := by decide +kernel
theorem d_Real_dividedSignificands_30 : decode b_Real_dividedSignificands 30 = .ok (.lload 4, 2) := by decide +kernel
theorem d_Real_dividedSignificands_32 : decode b_Real_dividedSignificands 32 = .ok (.lrem, 1) := by decide +kernel
theorem d_Real_dividedSignificands_33 : decode b_Real_dividedSignificands 33 = .ok (.lstore 6, 2) := by decide +kernel
theorem d_Real_dividedSignificands_35 : decode b_Real_dividedSignificands 35 = .ok (.iconst 0, 1) := by decide +kernel
theorem d_Real_dividedSignificands_36 : decode b_Real_dividedSignificands 36 = .ok (.istore 10, 2) := by decide +kernel
theorem d_Real_dividedSignificands_38 : decode b_Real_dividedSignificands 38 = .ok (.iload 10, 2) := by decide +kernel
theorem d_Real_dividedSignificands_40 : decode b_Real_dividedSignificands 40 = .ok (.bipush 6, 2) := by decide +kernel
theorem d_Real_dividedSignificands_42 : decode b_Real_dividedSignificands 42 = .ok (.if_icmp .ge 36, 3) := by decide +kernel
theorem d_Real_dividedSignificands_45 : decode b_Real_dividedSignificands 45 = .ok (.lload 6, 2) := by decide +kernel
theorem d_Real_dividedSignificands_47 : decode b_Real_dividedSignificands 47 = .ok (.bipush 10, 2) := by decide +kernel
theorem d_Real_dividedSignificands_49 : decode b_Real_dividedSignificands 49 = .ok (.lshl, 1) := by decide +kernel
theorem d_Real_dividedSignificands_50 : decode b_Real_dividedSignificands 50 = .ok (.lstore 6, 2) := by decide +kernel
theorem d_Real_dividedSignificands_52 : decode b_Real_dividedSignificands 52 = .ok (.lload 8, 2) := by decide +kernel
theorem d_Real_dividedSignificands_54 : decode b_Real_dividedSignificands 54 = .ok (.bipush 10, 2) := by decide +kernel
theorem d_Real_dividedSignificands_56 : decode b_Real_dividedSignificands 56 = .ok (.lshl, 1) := by decide +kernel
theorem d_Real_dividedSignificands_57 : decode b_Real_dividedSignificands 57 = .ok (.lload 6, 2) := by decide +kernel
theorem d_Real_dividedSignificands_59 : decode b_Real_dividedSignificands 59 = .ok (.lload 4, 2) := by decide +kernel
theorem d_Real_dividedSignificands_61 : decode b_Real_dividedSignificands 61 = .ok (.ldiv, 1) := by decide +kernel
theorem d_Real_dividedSignificands_62 : decode b_Real_dividedSignificands 62 = .ok (.lor, 1) := by decide +kernel
theorem d_Real_dividedSignificands_63 : decode b_Real_dividedSignificands 63 = .ok (.lstore 8, 2) := by decide +kernel
theorem d_Real_dividedSignificands_65 : decode b_Real_dividedSignificands 65 = .ok (.lload 6, 2) := by decide +kernel
theorem d_Real_dividedSignificands_67 : decode b_Real_dividedSignificands 67 = .ok (.lload 4, 2) := by decide +kernel
theorem d_Real_dividedSignificands_69 : decode b_Real_dividedSignificands 69 = .ok (.lrem, 1) := by decide +kernel
theorem d_Real_dividedSignificands_70 : decode b_Real_dividedSignificands 70 = .ok (.lstore 6, 2) := by decide +kernel
theorem d_Real_dividedSignificands_72 : decode b_Real_dividedSignificands 72 = .ok (.iinc 10 1, 3) := by decide +kernel
theorem d_Real_dividedSignificands_75 : decode b_Real_dividedSignificands 75 = .ok (.goto (-37), 3) := by decide +kernel
theorem d_Real_dividedSignificands_78 : decode b_Real_dividedSignificands 78 = .ok (.lload 8, 2) := by decide +kernel
theorem d_Real_dividedSignificands_80 : decode b_Real_dividedSignificands 80 = .ok (.lload 6, 2) := by decide +kernel
theorem d_Real_dividedSignificands_82 : decode b_Real_dividedSignificands 82 = .ok (.lconst 0, 1) := by decide +kernel
theorem d_Real_dividedSignificands_83 : decode b_Real_dividedSignificands 83 = .ok (.lcmp, 1) := by decide +kernel
theorem d_Real_dividedSignificands_84 : decode b_Real_dividedSignificands 84 = .ok (.ifCond .eq 7, 3) := by decide +kernel
theorem d_Real_dividedSignificands_87 : decode b_Real_dividedSignificands 87 = .ok (.iconst 1, 1) := by decide +kernel
theorem d_Real_dividedSignificands_88 : decode b_Real_dividedSignificands 88 = .ok (.goto 4, 3) := by decide +kernel
theorem d_Real_dividedSignificands_91 : decode b_Real_dividedSignificands 91 = .ok (.iconst 0, 1) := by decide +kernel
theorem d_Real_dividedSignificands_92 : decode b_Real_dividedSignificands 92 = .ok (.invokestatic 99, 3) := by decide +kernel
theorem d_Real_dividedSignificands_95 : decode b_Real_dividedSignificands 95 = .ok (.lreturn, 1) := by decide +kernel
def F_Real_dividedSignificands_L38 (x1 : Int64) (j78 : (Int64 → Int64 → Option (Int64))) : Nat → Int64 → Int64 → Int32 → Option (Int64)
  | 0, _, _, _ => none
  | n+1, y8, y9, y10 => if (6 : Int32) ≤ y10 then (j78 y8 y9) else (lt_ (y8 <<< (((10 : Int32)).toInt64 &&& 63)) fun x11 => gz_ (x1 = 0) <| lt_ ((y9 <<< (((10 : Int32)).toInt64 &&& 63)) ||| (x11 / x1)) fun x12 => gz_ (x1 = 0) <| lt_ (x11 - x11 / x1 * x1) fun x13 => lt_ (y10 + Int32.ofInt 1) fun x14 => F_Real_dividedSignificands_L38 x1 j78 n x13 x12 x14)
def F_Real_dividedSignificands (n : Nat) (a0 : Int64) (a1 : Int64) : Option (Int64) := lt_ (((a1).toUInt64 >>> (((10 : Int32)).toInt64.toUInt64 &&& Int64.toUInt64 63)).toInt64) fun x1 => if ¬ x1 = (0 : Int64) then (lt_ (((a0).toUInt64 >>> (((10 : Int32)).toInt64.toUInt64 &&& Int64.toUInt64 63)).toInt64) fun x2 => gz_ (x1 = 0) <| lt_ (x2 / x1) fun x3 => gz_ (x1 = 0) <| lt_ (x2 - x2 / x1 * x1) fun x4 => lt_ (fun (y5 : Int64) (y6 : Int64) => lt_ (if y5 = (0 : Int64) then (0 : Int32) else (1 : Int32)) fun x7 => some (F_Real_jammed y6 x7)) fun j78 => F_Real_dividedSignificands_L38 x1 j78 n x4 x3 (0 : Int32)) else (some (0 : Int64))
set_option maxHeartbeats 4000000 in
set_option maxRecDepth 100000 in
theorem c_Real_dividedSignificands (l : Launch) (n : Nat) (a0 : Int64) (a1 : Int64) (r : Int64) (h : F_Real_dividedSignificands n a0 a1 = some r) : Met l y_Real_dividedSignificands (.code y_Real_dividedSignificands b_Real_dividedSignificands 11 (some .long) :: BIG) ({ frames := 1, cells := 0, slots := 0, locals := 22 } : Room) (va_Pc [.long a0, .long a1] (pre0)) (pQ (.long r)) 0 0 (fun _ => False) := by
  refine pOpen_l rfl (Nat.le_of_ble_eq_true rfl) ?_
  intro p e s m args below meth c Q ls hx hb hml hown hts hT hp hl hret
  have hNB := hp
  have hown : s.vm.findClass R_Real = some m.cls := hown
  have hl : lv_has ls 11 [(0, .long a0), (2, .long a1)] := hl
  have h : (lt_ (((a1).toUInt64 >>> (((10 : Int32)).toInt64.toUInt64 &&& Int64.toUInt64 63)).toInt64) fun x1 => if ¬ x1 = (0 : Int64) then (lt_ (((a0).toUInt64 >>> (((10 : Int32)).toInt64.toUInt64 &&& Int64.toUInt64 63)).toInt64) fun x2 => gz_ (x1 = 0) <| lt_ (x2 / x1) fun x3 => gz_ (x1 = 0) <| lt_ (x2 - x2 / x1 * x1) fun x4 => lt_ (fun (y5 : Int64) (y6 : Int64) => lt_ (if y5 = (0 : Int64) then (0 : Int32) else (1 : Int32)) fun x7 => some (F_Real_jammed y6 x7)) fun j78 => F_Real_dividedSignificands_L38 x1 j78 n x4 x3 (0 : Int32)) else (some (0 : Int64))) = some r := h
  refine lv_lload_n hx hb d_Real_dividedSignificands_0 rfl (lv_at hl 1 rfl) ?_
  refine lv_bipush hx hb d_Real_dividedSignificands_1 bp_10 ?_
  refine lv_lushr hx hb d_Real_dividedSignificands_3 rfl ?_
  refine lv_topl (fun x1 e_x1 => ?_)
  have h := lt_h e_x1 h
  refine lv_lstore hx hb d_Real_dividedSignificands_4 hl (by decide) rfl (fun ls hl => ?_)
  have hl : lv_has ls 11 [(4, .long x1), (0, .long a0), (2, .long a1)] := hl
  refine lv_lload hx hb d_Real_dividedSignificands_6 (lv_at hl 0 rfl) ?_
  refine lv_lconst hx hb d_Real_dividedSignificands_8 lc_0 ?_
  refine W.lcmp hx hb d_Real_dividedSignificands_9 ?_
  refine lv_if_ne (tgt := 15) hx hb d_Real_dividedSignificands_10 rfl (fun hc => ?_) (fun hc => ?_)
  · have hc := mt (lg_cmp_eq _ _).mpr hc
    have h := ite_t hc h
    refine lv_lload_n hx hb d_Real_dividedSignificands_15 rfl (lv_at hl 1 rfl) ?_
    refine lv_bipush hx hb d_Real_dividedSignificands_16 bp_10 ?_
    refine lv_lushr hx hb d_Real_dividedSignificands_18 rfl ?_
    refine lv_topl (fun x2 e_x2 => ?_)
    have h := lt_h e_x2 h
    refine lv_lstore hx hb d_Real_dividedSignificands_19 hl (by decide) rfl (fun ls hl => ?_)
    have hl : lv_has ls 11 [(6, .long x2), (4, .long x1), (0, .long a0), (2, .long a1)] := hl
    refine lv_lload hx hb d_Real_dividedSignificands_21 (lv_at hl 0 rfl) ?_
    refine lv_lload hx hb d_Real_dividedSignificands_23 (lv_at hl 1 rfl) ?_
    have hz := gz_n h
    have h := gz_h h
    refine lv_ldiv hx hb d_Real_dividedSignificands_25 hz ?_
    refine lv_topl (fun x3 e_x3 => ?_)
    have h := lt_h e_x3 h
    refine lv_lstore hx hb d_Real_dividedSignificands_26 hl (by decide) rfl (fun ls hl => ?_)
    have hl : lv_has ls 11 [(8, .long x3), (6, .long x2), (4, .long x1), (0, .long a0), (2, .long a1)] := hl
    refine lv_lload hx hb d_Real_dividedSignificands_28 (lv_at hl 1 rfl) ?_
    refine lv_lload hx hb d_Real_dividedSignificands_30 (lv_at hl 2 rfl) ?_
    have hz := gz_n h
    have h := gz_h h
    refine lv_lrem hx hb d_Real_dividedSignificands_32 hz ?_
    refine lv_topl (fun x4 e_x4 => ?_)
    have h := lt_h e_x4 h
    refine lv_lstore hx hb d_Real_dividedSignificands_33 hl (by decide) rfl (fun ls hl => ?_)
    have hl : lv_has ls 11 [(6, .long x4), (8, .long x3), (4, .long x1), (0, .long a0), (2, .long a1)] := hl
    refine lv_iconst hx hb d_Real_dividedSignificands_35 ic_0 ?_
    refine lv_istore hx hb d_Real_dividedSignificands_36 hl (by decide) rfl (fun ls hl => ?_)
    have hl : lv_has ls 11 [(10, .int (0 : Int32)), (6, .long x4), (8, .long x3), (4, .long x1), (0, .long a0), (2, .long a1)] := hl
    obtain ⟨j78, e_j78, h⟩ := lt_o h
    have hJ78 : ∀ (y5 : Int64) (y6 : Int64) (ls : Array Slot), lv_has ls 11 [(6, .long y5), (8, .long y6)] → j78 y5 y6 = some r → W p l e ({ frames := 1, cells := 0, slots := 0, locals := 22 } : Room) s m args below meth c s.heap [] 0 0 Q (F0 m 78 ls []) := by
      intro y5 y6 ls hl h
      rw [e_j78] at h
      refine lv_lload hx hb d_Real_dividedSignificands_78 (lv_at hl 1 rfl) ?_
      refine lv_lload hx hb d_Real_dividedSignificands_80 (lv_at hl 0 rfl) ?_
      refine lv_lconst hx hb d_Real_dividedSignificands_82 lc_0 ?_
      refine W.lcmp hx hb d_Real_dividedSignificands_83 ?_
      obtain ⟨x7, e_x7, h⟩ := lt_o h
      have hJ92 : ∀ (x7' : Int32) (ls : Array Slot), x7 = x7' → lv_has ls 11 [] → W p l e ({ frames := 1, cells := 0, slots := 0, locals := 22 } : Room) s m args below meth c s.heap [] 0 0 Q (F0 m 92 ls [.int x7', .long y6]) := by
        intro x7' ls q_x7 hl
        subst q_x7
        refine q_S (As := [.long y6, .int x7]) (rest := []) (n := 2) hx hb hml hown hts (c_Real_jammed l y6 x7) rfl rfl m_46 m_47 m_48 m_11 (by decide +kernel) ⟨Nat.le_of_ble_eq_true rfl, Nat.le_of_ble_eq_true rfl⟩ (p0_bl) (fun U hU hW => p0_mv hU hW hNB) rfl hl.1 rfl (Nat.le_of_ble_eq_true rfl) d_Real_dividedSignificands_92 ⟨Nat.zero_le _, Nat.zero_le _⟩ ?_
        exact hret 95 ls _ (Option.some.inj h) d_Real_dividedSignificands_95
      refine lv_if_eq (tgt := 91) hx hb d_Real_dividedSignificands_84 rfl (fun hc => ?_) (fun hc => ?_)
      · have hc := (lg_cmp_eq _ _).mp hc
        have e_x7 := e_x7.trans (if_pos hc)
        refine lv_iconst hx hb d_Real_dividedSignificands_91 ic_0 ?_
        exact hJ92 _ ls e_x7 (lv_sub hl [] rfl)
      · have hc := mt (lg_cmp_eq _ _).mpr hc
        have e_x7 := e_x7.trans (if_neg hc)
        refine lv_iconst hx hb d_Real_dividedSignificands_87 ic_1 ?_
        refine lv_goto (tgt := 92) hx hb d_Real_dividedSignificands_88 rfl ?_
        exact hJ92 _ ls e_x7 (lv_sub hl [] rfl)
    have hL38 : ∀ (n : Nat) (y8 : Int64) (y9 : Int64) (y10 : Int32) (ls : Array Slot), lv_has ls 11 [(4, .long x1), (6, .long y8), (8, .long y9), (10, .int y10)] → F_Real_dividedSignificands_L38 x1 j78 n y8 y9 y10 = some r → W p l e ({ frames := 1, cells := 0, slots := 0, locals := 22 } : Room) s m args below meth c s.heap [] 0 0 Q (F0 m 38 ls []) := by
      intro n
      induction n with
      | zero => intro y8 y9 y10 ls hl h; exact no_s h
      | succ n ih =>
        intro y8 y9 y10 ls hl h
        have h : (if (6 : Int32) ≤ y10 then (j78 y8 y9) else (lt_ (y8 <<< (((10 : Int32)).toInt64 &&& 63)) fun x11 => gz_ (x1 = 0) <| lt_ ((y9 <<< (((10 : Int32)).toInt64 &&& 63)) ||| (x11 / x1)) fun x12 => gz_ (x1 = 0) <| lt_ (x11 - x11 / x1 * x1) fun x13 => lt_ (y10 + Int32.ofInt 1) fun x14 => F_Real_dividedSignificands_L38 x1 j78 n x13 x12 x14)) = some r := h
        refine lv_iload hx hb d_Real_dividedSignificands_38 (lv_at hl 3 rfl) ?_
        refine lv_bipush hx hb d_Real_dividedSignificands_40 bp_6 ?_
        refine lv_icmp_ge (tgt := 78) hx hb d_Real_dividedSignificands_42 rfl (fun hc => ?_) (fun hc => ?_)
        · have h := ite_t hc h
          exact hJ78 _ _ ls (lv_sub hl [1, 2] rfl) h
        · have h := ite_f hc h
          refine lv_lload hx hb d_Real_dividedSignificands_45 (lv_at hl 1 rfl) ?_
          refine lv_bipush hx hb d_Real_dividedSignificands_47 bp_10 ?_
          refine lv_lshl hx hb d_Real_dividedSignificands_49 rfl ?_
          refine lv_topl (fun x11 e_x11 => ?_)
          have h := lt_h e_x11 h
          refine lv_lstore hx hb d_Real_dividedSignificands_50 hl (by decide) rfl (fun ls hl => ?_)
          have hl : lv_has ls 11 [(6, .long x11), (4, .long x1), (8, .long y9), (10, .int y10)] := hl
          refine lv_lload hx hb d_Real_dividedSignificands_52 (lv_at hl 2 rfl) ?_
          refine lv_bipush hx hb d_Real_dividedSignificands_54 bp_10 ?_
          refine lv_lshl hx hb d_Real_dividedSignificands_56 rfl ?_
          refine lv_lload hx hb d_Real_dividedSignificands_57 (lv_at hl 0 rfl) ?_
          refine lv_lload hx hb d_Real_dividedSignificands_59 (lv_at hl 1 rfl) ?_
          have hz := gz_n h
          have h := gz_h h
          refine lv_ldiv hx hb d_Real_dividedSignificands_61 hz ?_
          refine lv_lor hx hb d_Real_dividedSignificands_62 ?_
          refine lv_topl (fun x12 e_x12 => ?_)
          have h := lt_h e_x12 h
          refine lv_lstore hx hb d_Real_dividedSignificands_63 hl (by decide) rfl (fun ls hl => ?_)
          have hl : lv_has ls 11 [(8, .long x12), (6, .long x11), (4, .long x1), (10, .int y10)] := hl
          refine lv_lload hx hb d_Real_dividedSignificands_65 (lv_at hl 1 rfl) ?_
          refine lv_lload hx hb d_Real_dividedSignificands_67 (lv_at hl 2 rfl) ?_
          have hz := gz_n h
          have h := gz_h h
          refine lv_lrem hx hb d_Real_dividedSignificands_69 hz ?_
          refine lv_topl (fun x13 e_x13 => ?_)
          have h := lt_h e_x13 h
          refine lv_lstore hx hb d_Real_dividedSignificands_70 hl (by decide) rfl (fun ls hl => ?_)
          have hl : lv_has ls 11 [(6, .long x13), (8, .long x12), (4, .long x1), (10, .int y10)] := hl
          obtain ⟨x14, e_x14⟩ : ∃ z, z = y10 + Int32.ofInt 1 := ⟨_, rfl⟩
          have h := lt_h e_x14 h
          refine lv_iinc (k := 3) hx hb d_Real_dividedSignificands_72 hl rfl e_x14.symm (by decide) rfl (fun ls hl => ?_)
          have hl : lv_has ls 11 [(10, .int x14), (6, .long x13), (8, .long x12), (4, .long x1)] := hl
          refine lv_goto (tgt := 38) hx hb d_Real_dividedSignificands_75 rfl ?_
          exact ih _ _ _ ls (lv_sub hl [3, 1, 2, 0] rfl) h
    exact hL38 n _ _ _ ls (lv_sub hl [3, 1, 2, 0] rfl) h
  · have hc := not_not_intro ((lg_cmp_eq _ _).mp hc)
    have h := ite_f hc h
    refine lv_lconst hx hb d_Real_dividedSignificands_13 lc_0 ?_
    exact hret 14 ls _ (Option.some.inj h) d_Real_dividedSignificands_14
-- Real_quotient
theorem d_Real_quotient_0 : decode b_Real_quotient 0 = .ok (.aload_n 0, 1) := by decide +kernel
theorem d_Real_quotient_1 : decode b_Real_quotient 1 = .ok (.lload_n 1, 1) := by decide +kernel
theorem d_Real_quotient_2 : decode b_Real_quotient 2 = .ok (.invokevirtual 52, 3) := by decide +kernel
theorem d_Real_quotient_5 : decode b_Real_quotient 5 = .ok (.aload_n 0, 1) := by decide +kernel
theorem d_Real_quotient_6 : decode b_Real_quotient 6 = .ok (.lload_n 3, 1) := by decide +kernel
theorem d_Real_quotient_7 : decode b_Real_quotient 7 = .ok (.invokevirtual 52, 3) := by decide +kernel
theorem d_Real_quotient_10 : decode b_Real_quotient 10 = .ok (.if_icmp .eq 7, 3) := by decide +kernel
theorem d_Real_quotient_13 : decode b_Real_quotient 13 = .ok (.iconst 1, 1) := by decide +kernel
theorem d_Real_quotient_14 : decode b_Real_quotient 14 = .ok (.goto 4, 3) := by decide +kernel
theorem d_Real_quotient_17 : decode b_Real_quotient 17 = .ok (.iconst 0, 1) := by decide +kernel
theorem d_Real_quotient_18 : decode b_Real_quotient 18 = .ok (.istore 5, 2) := by decide +kernel
theorem d_Real_quotient_20 : decode b_Real_quotient 20 = .ok (.aload_n 0, 1) := by decide +kernel
theorem d_Real_quotient_21 : decode b_Real_quotient 21 = .ok (.lload_n 1, 1) := by decide +kernel
theorem d_Real_quotient_22 : decode b_Real_quotient 22 = .ok (.invokevirtual 80, 3) := by decide +kernel
theorem d_Real_quotient_25 : decode b_Real_quotient 25 = .ok (.ifCond .eq 29, 3) := by decide +kernel
theorem d_Real_quotient_28 : decode b_Real_quotient 28 = .ok (.aload_n 0, 1) := by decide +kernel
theorem d_Real_quotient_29 : decode b_Real_quotient 29 = .ok (.lload_n 3, 1) := by decide +kernel
theorem d_Real_quotient_30 : decode b_Real_quotient 30 = .ok (.invokevirtual 80, 3) := by decide +kernel
theorem d_Real_quotient_33 : decode b_Real_quotient 33 = .ok (.ifCond .eq 10, 3) := by decide +kernel
theorem d_Real_quotient_36 : decode b_Real_quotient 36 = .ok (.aload_n 0, 1) := by decide +kernel
theorem d_Real_quotient_37 : decode b_Real_quotient 37 = .ok (.invokevirtual 72, 3) := by decide +kernel
theorem d_Real_quotient_40 : decode b_Real_quotient 40 = .ok (.goto 13, 3) := by decide +kernel
theorem d_Real_quotient_43 : decode b_Real_quotient 43 = .ok (.aload_n 0, 1) := by decide +kernel
theorem d_Real_quotient_44 : decode b_Real_quotient 44 = .ok (.iload 5, 2) := by decide +kernel
theorem d_Real_quotient_46 : decode b_Real_quotient 46 = .ok (.aload_n 0, 1) := by decide +kernel
theorem d_Real_quotient_47 : decode b_Real_quotient 47 = .ok (.getfield 45, 3) := by decide +kernel
theorem d_Real_quotient_50 : decode b_Real_quotient 50 = .ok (.invokevirtual 76, 3) := by decide +kernel
theorem d_Real_quotient_53 : decode b_Real_quotient 53 = .ok (.lreturn, 1) := by decide +kernel
theorem d_Real_quotient_54 : decode b_Real_quotient 54 = .ok (.aload_n 0, 1) := by decide +kernel
theorem d_Real_quotient_55 : decode b_Real_quotient 55 = .ok (.lload_n 3, 1) := by decide +kernel
theorem d_Real_quotient_56 : decode b_Real_quotient 56 = .ok (.invokevirtual 90, 3) := by decide +kernel
theorem d_Real_quotient_59 : decode b_Real_quotient 59 = .ok (.ifCond .eq 29, 3) := by decide +kernel
theorem d_Real_quotient_62 : decode b_Real_quotient 62 = .ok (.aload_n 0, 1) := by decide +kernel
theorem d_Real_quotient_63 : decode b_Real_quotient 63 = .ok (.lload_n 1, 1) := by decide +kernel
theorem d_Real_quotient_64 : decode b_Real_quotient 64 = .ok (.invokevirtual 90, 3) := by decide +kernel
theorem d_Real_quotient_67 : decode b_Real_quotient 67 = .ok (.ifCond .eq 10, 3) := by decide +kernel
theorem d_Real_quotient_70 : decode b_Real_quotient 70 = .ok (.aload_n 0, 1) := by decide +kernel
theorem d_Real_quotient_71 : decode b_Real_quotient 71 = .ok (.invokevirtual 72, 3) := by decide +kernel
theorem d_Real_quotient_74 : decode b_Real_quotient 74 = .ok (.goto 13, 3) := by decide +kernel
theorem d_Real_quotient_77 : decode b_Real_quotient 77 = .ok (.aload_n 0, 1) := by decide +kernel
theorem d_Real_quotient_78 : decode b_Real_quotient 78 = .ok (.iload 5, 2) := by decide +kernel
theorem d_Real_quotient_80 : decode b_Real_quotient 80 = .ok (.aload_n 0, 1) := by decide +kernel
theorem d_Real_quotient_81 : decode b_Real_quotient 81 = .ok (.getfield 45, 3) := by decide +kernel
theorem d_Real_quotient_84 : decode b_Real_quotient 84 = .ok (.invokevirtual 76, 3) := by decide +kernel
theorem d_Real_quotient_87 : decode b_Real_quotient 87 = .ok (.lreturn, 1) := by decide +kernel
theorem d_Real_quotient_88 : decode b_Real_quotient 88 = .ok (.aload_n 0, 1) := by decide +kernel
theorem d_Real_quotient_89 : decode b_Real_quotient 89 = .ok (.lload_n 3, 1) := by decide +kernel
theorem d_Real_quotient_90 : decode b_Real_quotient 90 = .ok (.invokevirtual 80, 3) := by decide +kernel
theorem d_Real_quotient_93 : decode b_Real_quotient 93 = .ok (.ifCond .ne 11, 3) := by decide +kernel
theorem d_Real_quotient_96 : decode b_Real_quotient 96 = .ok (.aload_n 0, 1) := by decide +kernel
theorem d_Real_quotient_97 : decode b_Real_quotient 97 = .ok (.lload_n 1, 1) := by decide +kernel
theorem d_Real_quotient_98 : decode b_Real_quotient 98 = .ok (.invokevirtual 90, 3) := by decide +kernel
theorem d_Real_quotient_101 : decode b_Real_quotient 101 = .ok (.ifCond .eq 11, 3) := by decide +kernel
theorem d_Real_quotient_104 : decode b_Real_quotient 104 = .ok (.aload_n 0, 1) := by decide +kernel
theorem d_Real_quotient_105 : decode b_Real_quotient 105 = .ok (.iload 5, 2) := by decide +kernel
theorem d_Real_quotient_107 : decode b_Real_quotient 107 = .ok (.lconst 0, 1) := by decide +kernel
theorem d_Real_quotient_108 : decode b_Real_quotient 108 = .ok (.invokevirtual 76, 3) := by decide +kernel
theorem d_Real_quotient_111 : decode b_Real_quotient 111 = .ok (.lreturn, 1) := by decide +kernel
theorem d_Real_quotient_112 : decode b_Real_quotient 112 = .ok (.aload_n 0, 1) := by decide +kernel
theorem d_Real_quotient_113 : decode b_Real_quotient 113 = .ok (.lload_n 1, 1) := by decide +kernel
theorem d_Real_quotient_114 : decode b_Real_quotient 114 = .ok (.invokevirtual 103, 3) := by decide +kernel
theorem d_Real_quotient_117 : decode b_Real_quotient 117 = .ok (.aload_n 0, 1) := by decide +kernel
theorem d_Real_quotient_118 : decode b_Real_quotient 118 = .ok (.lload_n 3, 1) := by decide +kernel
theorem d_Real_quotient_119 : decode b_Real_quotient 119 = .ok (.invokevirtual 103, 3) := by decide +kernel
theorem d_Real_quotient_122 : decode b_Real_quotient 122 = .ok (.isub, 1) := by decide +kernel
theorem d_Real_quotient_123 : decode b_Real_quotient 123 = .ok (.bipush 60, 2) := by decide +kernel
theorem d_Real_quotient_125 : decode b_Real_quotient 125 = .ok (.isub, 1) := by decide +kernel
theorem d_Real_quotient_126 : decode b_Real_quotient 126 = .ok (.istore 6, 2) := by decide +kernel
theorem d_Real_quotient_128 : decode b_Real_quotient 128 = .ok (.aload_n 0, 1) := by decide +kernel
theorem d_Real_quotient_129 : decode b_Real_quotient 129 = .ok (.iload 5, 2) := by decide +kernel
theorem d_Real_quotient_131 : decode b_Real_quotient 131 = .ok (.iload 6, 2) := by decide +kernel
theorem d_Real_quotient_133 : decode b_Real_quotient 133 = .ok (.aload_n 0, 1) := by decide +kernel
theorem d_Real_quotient_134 : decode b_Real_quotient 134 = .ok (.lload_n 1, 1) := by decide +kernel
theorem d_Real_quotient_135 : decode b_Real_quotient 135 = .ok (.invokevirtual 93, 3) := by decide +kernel
theorem d_Real_quotient_138 : decode b_Real_quotient 138 = .ok (.aload_n 0, 1) := by decide +kernel
theorem d_Real_quotient_139 : decode b_Real_quotient 139 = .ok (.lload_n 3, 1) := by decide +kernel
theorem d_Real_quotient_140 : decode b_Real_quotient 140 = .ok (.invokevirtual 93, 3) := by decide +kernel
theorem d_Real_quotient_143 : decode b_Real_quotient 143 = .ok (.invokestatic 110, 3) := by decide +kernel
theorem d_Real_quotient_146 : decode b_Real_quotient 146 = .ok (.invokevirtual 106, 3) := by decide +kernel
theorem d_Real_quotient_149 : decode b_Real_quotient 149 = .ok (.lreturn, 1) := by decide +kernel
def F_Real_quotient (n : Nat) (K0 : rK) (a1 : Int64) (a2 : Int64) : Option (Int64) := lt_ (if (F_Real_isNegative K0 a1) = (F_Real_isNegative K0 a2) then (0 : Int32) else (1 : Int32)) fun x1 => if (F_Real_isInfinite K0 a1) = 0 then (if (F_Real_isZero K0 a2) = 0 then (lt_ (fun (_ : Unit) => some (F_Real_signed K0 x1 (0 : Int64))) fun j104 => if ¬ (F_Real_isInfinite K0 a2) = 0 then (j104 ()) else (if (F_Real_isZero K0 a1) = 0 then ((F_Real_alignedPower n K0 a1).bind fun x2 => (F_Real_alignedPower n K0 a2).bind fun x3 => lt_ ((x2 - x3) - (60 : Int32)) fun x4 => (F_Real_aligned n K0 a1).bind fun x5 => (F_Real_aligned n K0 a2).bind fun x6 => (F_Real_dividedSignificands n x5 x6).bind fun x7 => (F_Real_rounded n K0 x1 x4 x7).bind fun x8 => some x8) else (j104 ()))) else (lt_ (if (F_Real_isZero K0 a1) = 0 then F_Real_signed K0 x1 K0.2.2.2.2 else F_Real_nan K0) fun x9 => some x9)) else (lt_ (if (F_Real_isInfinite K0 a2) = 0 then F_Real_signed K0 x1 K0.2.2.2.2 else F_Real_nan K0) fun x10 => some x10)
set_option maxHeartbeats 4000000 in
set_option maxRecDepth 100000 in
theorem c_Real_quotient (l : Launch) (o0 : Nat) (n : Nat) (K0 : rK) (a1 : Int64) (a2 : Int64) (r : Int64) (h : F_Real_quotient n K0 a1 a2 = some r) : Met l y_Real_quotient (.code y_Real_quotient b_Real_quotient 7 (some .long) :: BIG) ({ frames := 4, cells := 0, slots := 0, locals := 88 } : Room) (va_Pc [.ref o0, .long a1, .long a2] (pre1 o0 K0)) (pQ (.long r)) 0 0 (fun _ => False) := by
  refine pOpen_l rfl (Nat.le_of_ble_eq_true rfl) ?_
  intro p e s m args below meth c Q ls hx hb hml hown hts hT hp hl hret
  obtain ⟨hNB, hRe_o0⟩ := hp
  have hown : s.vm.findClass R_Real = some m.cls := hown
  have hl : lv_has ls 7 [(0, .ref o0), (1, .long a1), (3, .long a2)] := hl
  have h : (lt_ (if (F_Real_isNegative K0 a1) = (F_Real_isNegative K0 a2) then (0 : Int32) else (1 : Int32)) fun x1 => if (F_Real_isInfinite K0 a1) = 0 then (if (F_Real_isZero K0 a2) = 0 then (lt_ (fun (_ : Unit) => some (F_Real_signed K0 x1 (0 : Int64))) fun j104 => if ¬ (F_Real_isInfinite K0 a2) = 0 then (j104 ()) else (if (F_Real_isZero K0 a1) = 0 then ((F_Real_alignedPower n K0 a1).bind fun x2 => (F_Real_alignedPower n K0 a2).bind fun x3 => lt_ ((x2 - x3) - (60 : Int32)) fun x4 => (F_Real_aligned n K0 a1).bind fun x5 => (F_Real_aligned n K0 a2).bind fun x6 => (F_Real_dividedSignificands n x5 x6).bind fun x7 => (F_Real_rounded n K0 x1 x4 x7).bind fun x8 => some x8) else (j104 ()))) else (lt_ (if (F_Real_isZero K0 a1) = 0 then F_Real_signed K0 x1 K0.2.2.2.2 else F_Real_nan K0) fun x9 => some x9)) else (lt_ (if (F_Real_isInfinite K0 a2) = 0 then F_Real_signed K0 x1 K0.2.2.2.2 else F_Real_nan K0) fun x10 => some x10)) = some r := h
  refine lv_aload_n hx hb d_Real_quotient_0 rfl (lv_at hl 0 rfl) ?_
  refine lv_lload_n hx hb d_Real_quotient_1 rfl (lv_at hl 1 rfl) ?_
  refine q_V (As := [.long a1]) (rest := []) (n := 1) hx hb hml hown hts (c_Real_isNegative l o0 K0 a1) rfl rfl m_12 m_13 m_14 m_15 m_11 (by decide +kernel) ⟨Nat.le_of_ble_eq_true rfl, Nat.le_of_ble_eq_true rfl⟩ (rAt_rc hRe_o0) (p1_bl) (fun U hU hW => p1_mv hU hW hNB hRe_o0) rfl hl.1 rfl (Nat.le_of_ble_eq_true rfl) d_Real_quotient_2 ⟨Nat.zero_le _, Nat.zero_le _⟩ ?_
  refine lv_aload_n hx hb d_Real_quotient_5 rfl (lv_at hl 0 rfl) ?_
  refine lv_lload_n hx hb d_Real_quotient_6 rfl (lv_at hl 2 rfl) ?_
  refine q_V (As := [.long a2]) (rest := [.int (F_Real_isNegative K0 a1)]) (n := 1) hx hb hml hown hts (c_Real_isNegative l o0 K0 a2) rfl rfl m_12 m_13 m_14 m_15 m_11 (by decide +kernel) ⟨Nat.le_of_ble_eq_true rfl, Nat.le_of_ble_eq_true rfl⟩ (rAt_rc hRe_o0) (p1_bl) (fun U hU hW => p1_mv hU hW hNB hRe_o0) rfl hl.1 rfl (Nat.le_of_ble_eq_true rfl) d_Real_quotient_7 ⟨Nat.zero_le _, Nat.zero_le _⟩ ?_
  obtain ⟨x1, e_x1, h⟩ := lt_o h
  have hJ18 : ∀ (x1' : Int32) (ls : Array Slot), x1 = x1' → lv_has ls 7 [(0, .ref o0), (1, .long a1), (3, .long a2)] → W p l e ({ frames := 4, cells := 0, slots := 0, locals := 88 } : Room) s m args below meth c s.heap [] 0 0 Q (F0 m 18 ls [.int x1']) := by
    intro x1' ls q_x1 hl
    subst q_x1
    refine lv_istore hx hb d_Real_quotient_18 hl (by decide) rfl (fun ls hl => ?_)
    have hl : lv_has ls 7 [(5, .int x1), (0, .ref o0), (1, .long a1), (3, .long a2)] := hl
    refine lv_aload_n hx hb d_Real_quotient_20 rfl (lv_at hl 1 rfl) ?_
    refine lv_lload_n hx hb d_Real_quotient_21 rfl (lv_at hl 2 rfl) ?_
    refine q_V (As := [.long a1]) (rest := []) (n := 1) hx hb hml hown hts (c_Real_isInfinite l o0 K0 a1) rfl rfl m_42 m_43 m_44 m_45 m_11 (by decide +kernel) ⟨Nat.le_of_ble_eq_true rfl, Nat.le_of_ble_eq_true rfl⟩ (rAt_rc hRe_o0) (p1_bl) (fun U hU hW => p1_mv hU hW hNB hRe_o0) rfl hl.1 rfl (Nat.le_of_ble_eq_true rfl) d_Real_quotient_22 ⟨Nat.zero_le _, Nat.zero_le _⟩ ?_
    refine lv_if_eq (tgt := 54) hx hb d_Real_quotient_25 rfl (fun hc => ?_) (fun hc => ?_)
    · have h := ite_t hc h
      refine lv_aload_n hx hb d_Real_quotient_54 rfl (lv_at hl 1 rfl) ?_
      refine lv_lload_n hx hb d_Real_quotient_55 rfl (lv_at hl 3 rfl) ?_
      refine q_V (As := [.long a2]) (rest := []) (n := 1) hx hb hml hown hts (c_Real_isZero l o0 K0 a2) rfl rfl m_82 m_83 m_84 m_85 m_11 (by decide +kernel) ⟨Nat.le_of_ble_eq_true rfl, Nat.le_of_ble_eq_true rfl⟩ (rAt_rc hRe_o0) (p1_bl) (fun U hU hW => p1_mv hU hW hNB hRe_o0) rfl hl.1 rfl (Nat.le_of_ble_eq_true rfl) d_Real_quotient_56 ⟨Nat.zero_le _, Nat.zero_le _⟩ ?_
      refine lv_if_eq (tgt := 88) hx hb d_Real_quotient_59 rfl (fun hc => ?_) (fun hc => ?_)
      · have h := ite_t hc h
        refine lv_aload_n hx hb d_Real_quotient_88 rfl (lv_at hl 1 rfl) ?_
        refine lv_lload_n hx hb d_Real_quotient_89 rfl (lv_at hl 3 rfl) ?_
        refine q_V (As := [.long a2]) (rest := []) (n := 1) hx hb hml hown hts (c_Real_isInfinite l o0 K0 a2) rfl rfl m_42 m_43 m_44 m_45 m_11 (by decide +kernel) ⟨Nat.le_of_ble_eq_true rfl, Nat.le_of_ble_eq_true rfl⟩ (rAt_rc hRe_o0) (p1_bl) (fun U hU hW => p1_mv hU hW hNB hRe_o0) rfl hl.1 rfl (Nat.le_of_ble_eq_true rfl) d_Real_quotient_90 ⟨Nat.zero_le _, Nat.zero_le _⟩ ?_
        obtain ⟨j104, e_j104, h⟩ := lt_o h
        have hJ104 : ∀ (ls : Array Slot), lv_has ls 7 [(0, .ref o0), (5, .int x1)] → j104 () = some r → W p l e ({ frames := 4, cells := 0, slots := 0, locals := 88 } : Room) s m args below meth c s.heap [] 0 0 Q (F0 m 104 ls []) := by
          intro  ls hl h
          rw [e_j104] at h
          refine lv_aload_n hx hb d_Real_quotient_104 rfl (lv_at hl 0 rfl) ?_
          refine lv_iload hx hb d_Real_quotient_105 (lv_at hl 1 rfl) ?_
          refine lv_lconst hx hb d_Real_quotient_107 lc_0 ?_
          refine q_V (As := [.int x1, .long (0 : Int64)]) (rest := []) (n := 2) hx hb hml hown hts (c_Real_signed l o0 K0 x1 (0 : Int64)) rfl rfl m_34 m_35 m_36 m_37 m_11 (by decide +kernel) ⟨Nat.le_of_ble_eq_true rfl, Nat.le_of_ble_eq_true rfl⟩ (rAt_rc hRe_o0) (p1_bl) (fun U hU hW => p1_mv hU hW hNB hRe_o0) rfl hl.1 rfl (Nat.le_of_ble_eq_true rfl) d_Real_quotient_108 ⟨Nat.zero_le _, Nat.zero_le _⟩ ?_
          exact hret 111 ls _ (Option.some.inj h) d_Real_quotient_111
        refine lv_if_ne (tgt := 104) hx hb d_Real_quotient_93 rfl (fun hc => ?_) (fun hc => ?_)
        · have h := ite_t hc h
          exact hJ104 ls (lv_sub hl [1, 0] rfl) h
        · have hc := not_not_intro hc
          have h := ite_f hc h
          refine lv_aload_n hx hb d_Real_quotient_96 rfl (lv_at hl 1 rfl) ?_
          refine lv_lload_n hx hb d_Real_quotient_97 rfl (lv_at hl 2 rfl) ?_
          refine q_V (As := [.long a1]) (rest := []) (n := 1) hx hb hml hown hts (c_Real_isZero l o0 K0 a1) rfl rfl m_82 m_83 m_84 m_85 m_11 (by decide +kernel) ⟨Nat.le_of_ble_eq_true rfl, Nat.le_of_ble_eq_true rfl⟩ (rAt_rc hRe_o0) (p1_bl) (fun U hU hW => p1_mv hU hW hNB hRe_o0) rfl hl.1 rfl (Nat.le_of_ble_eq_true rfl) d_Real_quotient_98 ⟨Nat.zero_le _, Nat.zero_le _⟩ ?_
          refine lv_if_eq (tgt := 112) hx hb d_Real_quotient_101 rfl (fun hc => ?_) (fun hc => ?_)
          · have h := ite_t hc h
            refine lv_aload_n hx hb d_Real_quotient_112 rfl (lv_at hl 1 rfl) ?_
            refine lv_lload_n hx hb d_Real_quotient_113 rfl (lv_at hl 2 rfl) ?_
            obtain ⟨x2, e_x2, h⟩ := bd_o h
            refine q_V (As := [.long a1]) (rest := []) (n := 1) hx hb hml hown hts (c_Real_alignedPower l o0 n K0 a1 _ e_x2) rfl rfl m_93 m_94 m_95 m_96 m_11 (by decide +kernel) ⟨Nat.le_of_ble_eq_true rfl, Nat.le_of_ble_eq_true rfl⟩ (rAt_rc hRe_o0) (p1_bl) (fun U hU hW => p1_mv hU hW hNB hRe_o0) rfl hl.1 rfl (Nat.le_of_ble_eq_true rfl) d_Real_quotient_114 ⟨Nat.zero_le _, Nat.zero_le _⟩ ?_
            refine lv_aload_n hx hb d_Real_quotient_117 rfl (lv_at hl 1 rfl) ?_
            refine lv_lload_n hx hb d_Real_quotient_118 rfl (lv_at hl 3 rfl) ?_
            obtain ⟨x3, e_x3, h⟩ := bd_o h
            refine q_V (As := [.long a2]) (rest := [.int x2]) (n := 1) hx hb hml hown hts (c_Real_alignedPower l o0 n K0 a2 _ e_x3) rfl rfl m_93 m_94 m_95 m_96 m_11 (by decide +kernel) ⟨Nat.le_of_ble_eq_true rfl, Nat.le_of_ble_eq_true rfl⟩ (rAt_rc hRe_o0) (p1_bl) (fun U hU hW => p1_mv hU hW hNB hRe_o0) rfl hl.1 rfl (Nat.le_of_ble_eq_true rfl) d_Real_quotient_119 ⟨Nat.zero_le _, Nat.zero_le _⟩ ?_
            refine lv_isub hx hb d_Real_quotient_122 ?_
            refine lv_bipush hx hb d_Real_quotient_123 bp_60 ?_
            refine lv_isub hx hb d_Real_quotient_125 ?_
            refine lv_topi (fun x4 e_x4 => ?_)
            have h := lt_h e_x4 h
            refine lv_istore hx hb d_Real_quotient_126 hl (by decide) rfl (fun ls hl => ?_)
            have hl : lv_has ls 7 [(6, .int x4), (5, .int x1), (0, .ref o0), (1, .long a1), (3, .long a2)] := hl
            refine lv_aload_n hx hb d_Real_quotient_128 rfl (lv_at hl 2 rfl) ?_
            refine lv_iload hx hb d_Real_quotient_129 (lv_at hl 1 rfl) ?_
            refine lv_iload hx hb d_Real_quotient_131 (lv_at hl 0 rfl) ?_
            refine lv_aload_n hx hb d_Real_quotient_133 rfl (lv_at hl 2 rfl) ?_
            refine lv_lload_n hx hb d_Real_quotient_134 rfl (lv_at hl 3 rfl) ?_
            obtain ⟨x5, e_x5, h⟩ := bd_o h
            refine q_V (As := [.long a1]) (rest := [.int x4, .int x1, .ref o0]) (n := 1) hx hb hml hown hts (c_Real_aligned l o0 n K0 a1 _ e_x5) rfl rfl m_86 m_87 m_88 m_89 m_11 (by decide +kernel) ⟨Nat.le_of_ble_eq_true rfl, Nat.le_of_ble_eq_true rfl⟩ (rAt_rc hRe_o0) (p1_bl) (fun U hU hW => p1_mv hU hW hNB hRe_o0) rfl hl.1 rfl (Nat.le_of_ble_eq_true rfl) d_Real_quotient_135 ⟨Nat.zero_le _, Nat.zero_le _⟩ ?_
            refine lv_aload_n hx hb d_Real_quotient_138 rfl (lv_at hl 2 rfl) ?_
            refine lv_lload_n hx hb d_Real_quotient_139 rfl (lv_at hl 4 rfl) ?_
            obtain ⟨x6, e_x6, h⟩ := bd_o h
            refine q_V (As := [.long a2]) (rest := [.long x5, .int x4, .int x1, .ref o0]) (n := 1) hx hb hml hown hts (c_Real_aligned l o0 n K0 a2 _ e_x6) rfl rfl m_86 m_87 m_88 m_89 m_11 (by decide +kernel) ⟨Nat.le_of_ble_eq_true rfl, Nat.le_of_ble_eq_true rfl⟩ (rAt_rc hRe_o0) (p1_bl) (fun U hU hW => p1_mv hU hW hNB hRe_o0) rfl hl.1 rfl (Nat.le_of_ble_eq_true rfl) d_Real_quotient_140 ⟨Nat.zero_le _, Nat.zero_le _⟩ ?_
            obtain ⟨x7, e_x7, h⟩ := bd_o h
            refine q_S (As := [.long x5, .long x6]) (rest := [.int x4, .int x1, .ref o0]) (n := 2) hx hb hml hown hts (c_Real_dividedSignificands l n x5 x6 _ e_x7) rfl rfl m_97 m_98 m_99 m_11 (by decide +kernel) ⟨Nat.le_of_ble_eq_true rfl, Nat.le_of_ble_eq_true rfl⟩ (p0_bl) (fun U hU hW => p0_mv hU hW hNB) rfl hl.1 rfl (Nat.le_of_ble_eq_true rfl) d_Real_quotient_143 ⟨Nat.zero_le _, Nat.zero_le _⟩ ?_
            obtain ⟨x8, e_x8, h⟩ := bd_o h
            refine q_V (As := [.int x1, .int x4, .long x7]) (rest := []) (n := 3) hx hb hml hown hts (c_Real_rounded l o0 n K0 x1 x4 x7 _ e_x8) rfl rfl m_65 m_66 m_67 m_68 m_11 (by decide +kernel) ⟨Nat.le_of_ble_eq_true rfl, Nat.le_of_ble_eq_true rfl⟩ (rAt_rc hRe_o0) (p1_bl) (fun U hU hW => p1_mv hU hW hNB hRe_o0) rfl hl.1 rfl (Nat.le_of_ble_eq_true rfl) d_Real_quotient_146 ⟨Nat.zero_le _, Nat.zero_le _⟩ ?_
            exact hret 149 ls _ (Option.some.inj h) d_Real_quotient_149
          · have h := ite_f hc h
            exact hJ104 ls (lv_sub hl [1, 0] rfl) h
      · have h := ite_f hc h
        refine lv_aload_n hx hb d_Real_quotient_62 rfl (lv_at hl 1 rfl) ?_
        refine lv_lload_n hx hb d_Real_quotient_63 rfl (lv_at hl 2 rfl) ?_
        refine q_V (As := [.long a1]) (rest := []) (n := 1) hx hb hml hown hts (c_Real_isZero l o0 K0 a1) rfl rfl m_82 m_83 m_84 m_85 m_11 (by decide +kernel) ⟨Nat.le_of_ble_eq_true rfl, Nat.le_of_ble_eq_true rfl⟩ (rAt_rc hRe_o0) (p1_bl) (fun U hU hW => p1_mv hU hW hNB hRe_o0) rfl hl.1 rfl (Nat.le_of_ble_eq_true rfl) d_Real_quotient_64 ⟨Nat.zero_le _, Nat.zero_le _⟩ ?_
        obtain ⟨x9, e_x9, h⟩ := lt_o h
        have hJ87 : ∀ (x9' : Int64) (ls : Array Slot), x9 = x9' → lv_has ls 7 [] → W p l e ({ frames := 4, cells := 0, slots := 0, locals := 88 } : Room) s m args below meth c s.heap [] 0 0 Q (F0 m 87 ls [.long x9']) := by
          intro x9' ls q_x9 hl
          subst q_x9
          exact hret 87 ls _ (Option.some.inj h) d_Real_quotient_87
        refine lv_if_eq (tgt := 77) hx hb d_Real_quotient_67 rfl (fun hc => ?_) (fun hc => ?_)
        · have e_x9 := e_x9.trans (if_pos hc)
          refine lv_aload_n hx hb d_Real_quotient_77 rfl (lv_at hl 1 rfl) ?_
          refine lv_iload hx hb d_Real_quotient_78 (lv_at hl 0 rfl) ?_
          refine lv_aload_n hx hb d_Real_quotient_80 rfl (lv_at hl 1 rfl) ?_
          refine vk_getf hx hb (hRe_o0.2.2.2.2.2) va_S.rf hown (hT _ m_4) (fun _ h9 => h9) d_Real_quotient_81 ?_
          refine q_V (As := [.int x1, .long K0.2.2.2.2]) (rest := []) (n := 2) hx hb hml hown hts (c_Real_signed l o0 K0 x1 K0.2.2.2.2) rfl rfl m_34 m_35 m_36 m_37 m_11 (by decide +kernel) ⟨Nat.le_of_ble_eq_true rfl, Nat.le_of_ble_eq_true rfl⟩ (rAt_rc hRe_o0) (p1_bl) (fun U hU hW => p1_mv hU hW hNB hRe_o0) rfl hl.1 rfl (Nat.le_of_ble_eq_true rfl) d_Real_quotient_84 ⟨Nat.zero_le _, Nat.zero_le _⟩ ?_
          exact hJ87 _ ls e_x9 (lv_sub hl [] rfl)
        · have e_x9 := e_x9.trans (if_neg hc)
          refine lv_aload_n hx hb d_Real_quotient_70 rfl (lv_at hl 1 rfl) ?_
          refine q_V (As := []) (rest := []) (n := 0) hx hb hml hown hts (c_Real_nan l o0 K0) rfl rfl m_38 m_39 m_40 m_41 m_11 (by decide +kernel) ⟨Nat.le_of_ble_eq_true rfl, Nat.le_of_ble_eq_true rfl⟩ (rAt_rc hRe_o0) (p1_bl) (fun U hU hW => p1_mv hU hW hNB hRe_o0) rfl hl.1 rfl (Nat.le_of_ble_eq_true rfl) d_Real_quotient_71 ⟨Nat.zero_le _, Nat.zero_le _⟩ ?_
          refine lv_goto (tgt := 87) hx hb d_Real_quotient_74 rfl ?_
          exact hJ87 _ ls e_x9 (lv_sub hl [] rfl)
    · have h := ite_f hc h
      refine lv_aload_n hx hb d_Real_quotient_28 rfl (lv_at hl 1 rfl) ?_
      refine lv_lload_n hx hb d_Real_quotient_29 rfl (lv_at hl 3 rfl) ?_
      refine q_V (As := [.long a2]) (rest := []) (n := 1) hx hb hml hown hts (c_Real_isInfinite l o0 K0 a2) rfl rfl m_42 m_43 m_44 m_45 m_11 (by decide +kernel) ⟨Nat.le_of_ble_eq_true rfl, Nat.le_of_ble_eq_true rfl⟩ (rAt_rc hRe_o0) (p1_bl) (fun U hU hW => p1_mv hU hW hNB hRe_o0) rfl hl.1 rfl (Nat.le_of_ble_eq_true rfl) d_Real_quotient_30 ⟨Nat.zero_le _, Nat.zero_le _⟩ ?_
      obtain ⟨x10, e_x10, h⟩ := lt_o h
      have hJ53 : ∀ (x10' : Int64) (ls : Array Slot), x10 = x10' → lv_has ls 7 [] → W p l e ({ frames := 4, cells := 0, slots := 0, locals := 88 } : Room) s m args below meth c s.heap [] 0 0 Q (F0 m 53 ls [.long x10']) := by
        intro x10' ls q_x10 hl
        subst q_x10
        exact hret 53 ls _ (Option.some.inj h) d_Real_quotient_53
      refine lv_if_eq (tgt := 43) hx hb d_Real_quotient_33 rfl (fun hc => ?_) (fun hc => ?_)
      · have e_x10 := e_x10.trans (if_pos hc)
        refine lv_aload_n hx hb d_Real_quotient_43 rfl (lv_at hl 1 rfl) ?_
        refine lv_iload hx hb d_Real_quotient_44 (lv_at hl 0 rfl) ?_
        refine lv_aload_n hx hb d_Real_quotient_46 rfl (lv_at hl 1 rfl) ?_
        refine vk_getf hx hb (hRe_o0.2.2.2.2.2) va_S.rf hown (hT _ m_4) (fun _ h9 => h9) d_Real_quotient_47 ?_
        refine q_V (As := [.int x1, .long K0.2.2.2.2]) (rest := []) (n := 2) hx hb hml hown hts (c_Real_signed l o0 K0 x1 K0.2.2.2.2) rfl rfl m_34 m_35 m_36 m_37 m_11 (by decide +kernel) ⟨Nat.le_of_ble_eq_true rfl, Nat.le_of_ble_eq_true rfl⟩ (rAt_rc hRe_o0) (p1_bl) (fun U hU hW => p1_mv hU hW hNB hRe_o0) rfl hl.1 rfl (Nat.le_of_ble_eq_true rfl) d_Real_quotient_50 ⟨Nat.zero_le _, Nat.zero_le _⟩ ?_
        exact hJ53 _ ls e_x10 (lv_sub hl [] rfl)
      · have e_x10 := e_x10.trans (if_neg hc)
        refine lv_aload_n hx hb d_Real_quotient_36 rfl (lv_at hl 1 rfl) ?_
        refine q_V (As := []) (rest := []) (n := 0) hx hb hml hown hts (c_Real_nan l o0 K0) rfl rfl m_38 m_39 m_40 m_41 m_11 (by decide +kernel) ⟨Nat.le_of_ble_eq_true rfl, Nat.le_of_ble_eq_true rfl⟩ (rAt_rc hRe_o0) (p1_bl) (fun U hU hW => p1_mv hU hW hNB hRe_o0) rfl hl.1 rfl (Nat.le_of_ble_eq_true rfl) d_Real_quotient_37 ⟨Nat.zero_le _, Nat.zero_le _⟩ ?_
        refine lv_goto (tgt := 53) hx hb d_Real_quotient_40 rfl ?_
        exact hJ53 _ ls e_x10 (lv_sub hl [] rfl)
  refine lv_icmp_eq (tgt := 17) hx hb d_Real_quotient_10 rfl (fun hc => ?_) (fun hc => ?_)
  · have e_x1 := e_x1.trans (if_pos hc)
    refine lv_iconst hx hb d_Real_quotient_17 ic_0 ?_
    exact hJ18 _ ls e_x1 (lv_sub hl [0, 1, 2] rfl)
  · have e_x1 := e_x1.trans (if_neg hc)
    refine lv_iconst hx hb d_Real_quotient_13 ic_1 ?_
    refine lv_goto (tgt := 18) hx hb d_Real_quotient_14 rfl ?_
    exact hJ18 _ ls e_x1 (lv_sub hl [0, 1, 2] rfl)
-- Real_remainder
theorem d_Real_remainder_0 : decode b_Real_remainder 0 = .ok (.aload_n 0, 1) := by decide +kernel
theorem d_Real_remainder_1 : decode b_Real_remainder 1 = .ok (.lload_n 1, 1) := by decide +kernel
theorem d_Real_remainder_2 : decode b_Real_remainder 2 = .ok (.invokevirtual 80, 3) := by decide +kernel
theorem d_Real_remainder_5 : decode b_Real_remainder 5 = .ok (.ifCond .ne 11, 3) := by decide +kernel
theorem d_Real_remainder_8 : decode b_Real_remainder 8 = .ok (.aload_n 0, 1) := by decide +kernel
theorem d_Real_remainder_9 : decode b_Real_remainder 9 = .ok (.lload_n 3, 1) := by decide +kernel
theorem d_Real_remainder_10 : decode b_Real_remainder 10 = .ok (.invokevirtual 90, 3) := by decide +kernel
theorem d_Real_remainder_13 : decode b_Real_remainder 13 = .ok (.ifCond .eq 8, 3) := by decide +kernel
theorem d_Real_remainder_16 : decode b_Real_remainder 16 = .ok (.aload_n 0, 1) := by decide +kernel
theorem d_Real_remainder_17 : decode b_Real_remainder 17 = .ok (.invokevirtual 72, 3) := by decide +kernel
theorem d_Real_remainder_20 : decode b_Real_remainder 20 = .ok (.lreturn, 1) := by decide +kernel
theorem d_Real_remainder_21 : decode b_Real_remainder 21 = .ok (.aload_n 0, 1) := by decide +kernel
theorem d_Real_remainder_22 : decode b_Real_remainder 22 = .ok (.lload_n 1, 1) := by decide +kernel
theorem d_Real_remainder_23 : decode b_Real_remainder 23 = .ok (.invokevirtual 48, 3) := by decide +kernel
theorem d_Real_remainder_26 : decode b_Real_remainder 26 = .ok (.aload_n 0, 1) := by decide +kernel
theorem d_Real_remainder_27 : decode b_Real_remainder 27 = .ok (.lload_n 3, 1) := by decide +kernel
theorem d_Real_remainder_28 : decode b_Real_remainder 28 = .ok (.invokevirtual 48, 3) := by decide +kernel
theorem d_Real_remainder_31 : decode b_Real_remainder 31 = .ok (.lcmp, 1) := by decide +kernel
theorem d_Real_remainder_32 : decode b_Real_remainder 32 = .ok (.ifCond .ge 18, 3) := by decide +kernel
theorem d_Real_remainder_35 : decode b_Real_remainder 35 = .ok (.aload_n 0, 1) := by decide +kernel
theorem d_Real_remainder_36 : decode b_Real_remainder 36 = .ok (.aload_n 0, 1) := by decide +kernel
theorem d_Real_remainder_37 : decode b_Real_remainder 37 = .ok (.lload_n 1, 1) := by decide +kernel
theorem d_Real_remainder_38 : decode b_Real_remainder 38 = .ok (.invokevirtual 52, 3) := by decide +kernel
theorem d_Real_remainder_41 : decode b_Real_remainder 41 = .ok (.aload_n 0, 1) := by decide +kernel
theorem d_Real_remainder_42 : decode b_Real_remainder 42 = .ok (.lload_n 1, 1) := by decide +kernel
theorem d_Real_remainder_43 : decode b_Real_remainder 43 = .ok (.invokevirtual 48, 3) := by decide +kernel
theorem d_Real_remainder_46 : decode b_Real_remainder 46 = .ok (.invokevirtual 76, 3) := by decide +kernel
theorem d_Real_remainder_49 : decode b_Real_remainder 49 = .ok (.lreturn, 1) := by decide +kernel
theorem d_Real_remainder_50 : decode b_Real_remainder 50 = .ok (.aload_n 0, 1) := by decide +kernel
theorem d_Real_remainder_51 : decode b_Real_remainder 51 = .ok (.lload_n 3, 1) := by decide +kernel
theorem d_Real_remainder_52 : decode b_Real_remainder 52 = .ok (.invokevirtual 113, 3) := by decide +kernel
theorem d_Real_remainder_55 : decode b_Real_remainder 55 = .ok (.lstore 5, 2) := by decide +kernel
theorem d_Real_remainder_57 : decode b_Real_remainder 57 = .ok (.aload_n 0, 1) := by decide +kernel
theorem d_Real_remainder_58 : decode b_Real_remainder 58 = .ok (.lload_n 1, 1) := by decide +kernel
theorem d_Real_remainder_59 : decode b_Real_remainder 59 = .ok (.invokevirtual 113, 3) := by decide +kernel
theorem d_Real_remainder_62 : decode b_Real_remainder 62 = .ok (.lload 5, 2) := by decide +kernel
theorem d_Real_remainder_64 : decode b_Real_remainder 64 = .ok (.lrem, 1) := by decide +kernel
theorem d_Real_remainder_65 : decode b_Real_remainder 65 = .ok (.lstore 7, 2) := by decide +kernel
theorem d_Real_remainder_67 : decode b_Real_remainder 67 = .ok (.aload_n 0, 1) := by decide +kernel
theorem d_Real_remainder_68 : decode b_Real_remainder 68 = .ok (.lload_n 1, 1) := by decide +kernel
theorem d_Real_remainder_69 : decode b_Real_remainder 69 = .ok (.invokevirtual 116, 3) := by decide +kernel
theorem d_Real_remainder_72 : decode b_Real_remainder 72 = .ok (.aload_n 0, 1) := by decide +kernel
theorem d_Real_remainder_73 : decode b_Real_remainder 73 = .ok (.lload_n 3, 1) := by decide +kernel
theorem d_Real_remainder_74 : decode b_Real_remainder 74 = .ok (.invokevirtual 116, 3) := by decide +kernel
theorem d_Real_remainder_77 : decode b_Real_remainder 77 = .ok (.isub, 1) := by decide +kernel
theorem d_Real_remainder_78 : decode b_Real_remainder 78 = .ok (.istore 9, 2) := by decide +kernel
theorem d_Real_remainder_80 : decode b_Real_remainder 80 = .ok (.iload 9, 2) := by decide +kernel
theorem d_Real_remainder_82 : decode b_Real_remainder 82 = .ok (.ifCond .le 24, 3) := by decide +kernel
theorem d_Real_remainder_85 : decode b_Real_remainder 85 = .ok (.lload 7, 2) := by decide +kernel
theorem d_Real_remainder_87 : decode b_Real_remainder 87 = .ok (.iload 9, 2) := by decide +kernel
theorem d_Real_remainder_89 : decode b_Real_remainder 89 = .ok (.bipush 10, 2) := by decide +kernel
theorem d_Real_remainder_91 : decode b_Real_remainder 91 = .ok (.invokestatic 119, 3) := by decide +kernel
theorem d_Real_remainder_94 : decode b_Real_remainder 94 = .ok (.lshl, 1) := by decide +kernel
theorem d_Real_remainder_95 : decode b_Real_remainder 95 = .ok (.lload 5, 2) := by decide +kernel
theorem d_Real_remainder_97 : decode b_Real_remainder 97 = .ok (.lrem, 1) := by decide +kernel
theorem d_Real_remainder_98 : decode b_Real_remainder 98 = .ok (.lstore 7, 2) := by decide +kernel
theorem d_Real_remainder_100 : decode b_Real_remainder 100 = .ok (.iinc 9 (-10), 3) := by decide +kernel
theorem d_Real_remainder_103 : decode b_Real_remainder 103 = .ok (.goto (-23), 3) := by decide +kernel
theorem d_Real_remainder_106 : decode b_Real_remainder 106 = .ok (.aload_n 0, 1) := by decide +kernel
theorem d_Real_remainder_107 : decode b_Real_remainder 107 = .ok (.aload_n 0, 1) := by decide +kernel
theorem d_Real_remainder_108 : decode b_Real_remainder 108 = .ok (.lload_n 1, 1) := by decide +kernel
theorem d_Real_remainder_109 : decode b_Real_remainder 109 = .ok (.invokevirtual 52, 3) := by decide +kernel
theorem d_Real_remainder_112 : decode b_Real_remainder 112 = .ok (.aload_n 0, 1) := by decide +kernel
theorem d_Real_remainder_113 : decode b_Real_remainder 113 = .ok (.lload_n 3, 1) := by decide +kernel
theorem d_Real_remainder_114 : decode b_Real_remainder 114 = .ok (.invokevirtual 116, 3) := by decide +kernel
theorem d_Real_remainder_117 : decode b_Real_remainder 117 = .ok (.lload 7, 2) := by decide +kernel
theorem d_Real_remainder_119 : decode b_Real_remainder 119 = .ok (.invokevirtual 106, 3) := by decide +kernel
theorem d_Real_remainder_122 : decode b_Real_remainder 122 = .ok (.lreturn, 1) := by decide +kernel
def F_Real_remainder_L80 (K0 : rK) (a1 : Int64) (a2 : Int64) (x1 : Int64) (j106 : (Int64 → Option (Int64))) : Nat → Int64 → Int32 → Option (Int64)
  | 0, _, _ => none
  | n+1, y6, y7 => if y7 ≤ 0 then (j106 y6) else (gz_ (x1 = 0) <| lt_ ((y6 <<< ((if (10 : Int32) < y7 then (10 : Int32) else y7).toInt64 &&& 63)) - (y6 <<< ((if (10 : Int32) < y7 then (10 : Int32) else y7).toInt64 &&& 63)) / x1 * x1) fun x8 => lt_ (y7 + Int32.ofInt (-10)) fun x9 => F_Real_remainder_L80 K0 a1 a2 x1 j106 n x8 x9)
def F_Real_remainder (n : Nat) (K0 : rK) (a1 : Int64) (a2 : Int64) : Option (Int64) := lt_ (fun (_ : Unit) => some (F_Real_nan K0)) fun j16 => if ¬ (F_Real_isInfinite K0 a1) = 0 then (j16 ()) else (if (F_Real_isZero K0 a2) = 0 then (if (F_Real_magnitude K0 a2) ≤ (F_Real_magnitude K0 a1) then (lt_ (F_Real_significand K0 a2) fun x1 => gz_ (x1 = 0) <| lt_ ((F_Real_significand K0 a1) - (F_Real_significand K0 a1) / x1 * x1) fun x2 => lt_ ((F_Real_power K0 a1) - (F_Real_power K0 a2)) fun x3 => lt_ (fun (y4 : Int64) => (F_Real_rounded n K0 (F_Real_isNegative K0 a1) (F_Real_power K0 a2) y4).bind fun x5 => some x5) fun j106 => F_Real_remainder_L80 K0 a1 a2 x1 j106 n x2 x3) else (some (F_Real_signed K0 (F_Real_isNegative K0 a1) (F_Real_magnitude K0 a1)))) else (j16 ()))
set_option maxHeartbeats 4000000 in
set_option maxRecDepth 100000 in
theorem c_Real_remainder (l : Launch) (o0 : Nat) (n : Nat) (K0 : rK) (a1 : Int64) (a2 : Int64) (r : Int64) (h : F_Real_remainder n K0 a1 a2 = some r) : Met l y_Real_remainder (.code y_Real_remainder b_Real_remainder 10 (some .long) :: BIG) ({ frames := 2, cells := 0, slots := 0, locals := 61 } : Room) (va_Pc [.ref o0, .long a1, .long a2] (pre1 o0 K0)) (pQ (.long r)) 0 0 (fun _ => False) := by
  refine pOpen_l rfl (Nat.le_of_ble_eq_true rfl) ?_
  intro p e s m args below meth c Q ls hx hb hml hown hts hT hp hl hret
  obtain ⟨hNB, hRe_o0⟩ := hp
  have hown : s.vm.findClass R_Real = some m.cls := hown
  have hl : lv_has ls 10 [(0, .ref o0), (1, .long a1), (3, .long a2)] := hl
  have h : (lt_ (fun (_ : Unit) => some (F_Real_nan K0)) fun j16 => if ¬ (F_Real_isInfinite K0 a1) = 0 then (j16 ()) else (if (F_Real_isZero K0 a2) = 0 then (if (F_Real_magnitude K0 a2) ≤ (F_Real_magnitude K0 a1) then (lt_ (F_Real_significand K0 a2) fun x1 => gz_ (x1 = 0) <| lt_ ((F_Real_significand K0 a1) - (F_Real_significand K0 a1) / x1 * x1) fun x2 => lt_ ((F_Real_power K0 a1) - (F_Real_power K0 a2)) fun x3 => lt_ (fun (y4 : Int64) => (F_Real_rounded n K0 (F_Real_isNegative K0 a1) (F_Real_power K0 a2) y4).bind fun x5 => some x5) fun j106 => F_Real_remainder_L80 K0 a1 a2 x1 j106 n x2 x3) else (some (F_Real_signed K0 (F_Real_isNegative K0 a1) (F_Real_magnitude K0 a1)))) else (j16 ()))) = some r := h
  refine lv_aload_n hx hb d_Real_remainder_0 rfl (lv_at hl 0 rfl) ?_
  refine lv_lload_n hx hb d_Real_remainder_1 rfl (lv_at hl 1 rfl) ?_
  refine q_V (As := [.long a1]) (rest := []) (n := 1) hx hb hml hown hts (c_Real_isInfinite l o0 K0 a1) rfl rfl m_42 m_43 m_44 m_45 m_11 (by decide +kernel) ⟨Nat.le_of_ble_eq_true rfl, Nat.le_of_ble_eq_true rfl⟩ (rAt_rc hRe_o0) (p1_bl) (fun U hU hW => p1_mv hU hW hNB hRe_o0) rfl hl.1 rfl (Nat.le_of_ble_eq_true rfl) d_Real_remainder_2 ⟨Nat.zero_le _, Nat.zero_le _⟩ ?_
  obtain ⟨j16, e_j16, h⟩ := lt_o h
  have hJ16 : ∀ (ls : Array Slot), lv_has ls 10 [(0, .ref o0)] → j16 () = some r → W p l e ({ frames := 2, cells := 0, slots := 0, locals := 61 } : Room) s m args below meth c s.heap [] 0 0 Q (F0 m 16 ls []) := by
    intro  ls hl h
    rw [e_j16] at h
    refine lv_aload_n hx hb d_Real_remainder_16 rfl (lv_at hl 0 rfl) ?_
    refine q_V (As := []) (rest := []) (n := 0) hx hb hml hown hts (c_Real_nan l o0 K0) rfl rfl m_38 m_39 m_40 m_41 m_11 (by decide +kernel) ⟨Nat.le_of_ble_eq_true rfl, Nat.le_of_ble_eq_true rfl⟩ (rAt_rc hRe_o0) (p1_bl) (fun U hU hW => p1_mv hU hW hNB hRe_o0) rfl hl.1 rfl (Nat.le_of_ble_eq_true rfl) d_Real_remainder_17 ⟨Nat.zero_le _, Nat.zero_le _⟩ ?_
    exact hret 20 ls _ (Option.some.inj h) d_Real_remainder_20
  refine lv_if_ne (tgt := 16) hx hb d_Real_remainder_5 rfl (fun hc => ?_) (fun hc => ?_)
  · have h := ite_t hc h
    exact hJ16 ls (lv_sub hl [0] rfl) h
  · have hc := not_not_intro hc
    have h := ite_f hc h
    refine lv_aload_n hx hb d_Real_remainder_8 rfl (lv_at hl 0 rfl) ?_
    refine lv_lload_n hx hb d_Real_remainder_9 rfl (lv_at hl 2 rfl) ?_
    refine q_V (As := [.long a2]) (rest := []) (n := 1) hx hb hml hown hts (c_Real_isZero l o0 K0 a2) rfl rfl m_82 m_83 m_84 m_85 m_11 (by decide +kernel) ⟨Nat.le_of_ble_eq_true rfl, Nat.le_of_ble_eq_true rfl⟩ (rAt_rc hRe_o0) (p1_bl) (fun U hU hW => p1_mv hU hW hNB hRe_o0) rfl hl.1 rfl (Nat.le_of_ble_eq_true rfl) d_Real_remainder_10 ⟨Nat.zero_le _, Nat.zero_le _⟩ ?_
    refine lv_if_eq (tgt := 21) hx hb d_Real_remainder_13 rfl (fun hc => ?_) (fun hc => ?_)
    · have h := ite_t hc h
      refine lv_aload_n hx hb d_Real_remainder_21 rfl (lv_at hl 0 rfl) ?_
      refine lv_lload_n hx hb d_Real_remainder_22 rfl (lv_at hl 1 rfl) ?_
      refine q_V (As := [.long a1]) (rest := []) (n := 1) hx hb hml hown hts (c_Real_magnitude l o0 K0 a1) rfl rfl m_7 m_8 m_9 m_10 m_11 (by decide +kernel) ⟨Nat.le_of_ble_eq_true rfl, Nat.le_of_ble_eq_true rfl⟩ (rAt_rc hRe_o0) (p1_bl) (fun U hU hW => p1_mv hU hW hNB hRe_o0) rfl hl.1 rfl (Nat.le_of_ble_eq_true rfl) d_Real_remainder_23 ⟨Nat.zero_le _, Nat.zero_le _⟩ ?_
      refine lv_aload_n hx hb d_Real_remainder_26 rfl (lv_at hl 0 rfl) ?_
      refine lv_lload_n hx hb d_Real_remainder_27 rfl (lv_at hl 2 rfl) ?_
      refine q_V (As := [.long a2]) (rest := [.long (F_Real_magnitude K0 a1)]) (n := 1) hx hb hml hown hts (c_Real_magnitude l o0 K0 a2) rfl rfl m_7 m_8 m_9 m_10 m_11 (by decide +kernel) ⟨Nat.le_of_ble_eq_true rfl, Nat.le_of_ble_eq_true rfl⟩ (rAt_rc hRe_o0) (p1_bl) (fun U hU hW => p1_mv hU hW hNB hRe_o0) rfl hl.1 rfl (Nat.le_of_ble_eq_true rfl) d_Real_remainder_28 ⟨Nat.zero_le _, Nat.zero_le _⟩ ?_
      refine W.lcmp hx hb d_Real_remainder_31 ?_
      refine lv_if_ge (tgt := 50) hx hb d_Real_remainder_32 rfl (fun hc => ?_) (fun hc => ?_)
      · have hc := (lg_cmp_ge _ _).mp hc
        have h := ite_t hc h
        refine lv_aload_n hx hb d_Real_remainder_50 rfl (lv_at hl 0 rfl) ?_
        refine lv_lload_n hx hb d_Real_remainder_51 rfl (lv_at hl 2 rfl) ?_
        refine q_V (As := [.long a2]) (rest := []) (n := 1) hx hb hml hown hts (c_Real_significand l o0 K0 a2) rfl rfl m_54 m_55 m_56 m_57 m_11 (by decide +kernel) ⟨Nat.le_of_ble_eq_true rfl, Nat.le_of_ble_eq_true rfl⟩ (rAt_rc hRe_o0) (p1_bl) (fun U hU hW => p1_mv hU hW hNB hRe_o0) rfl hl.1 rfl (Nat.le_of_ble_eq_true rfl) d_Real_remainder_52 ⟨Nat.zero_le _, Nat.zero_le _⟩ ?_
        refine lv_topl (fun x1 e_x1 => ?_)
        have h := lt_h e_x1 h
        refine lv_lstore hx hb d_Real_remainder_55 hl (by decide) rfl (fun ls hl => ?_)
        have hl : lv_has ls 10 [(5, .long x1), (0, .ref o0), (1, .long a1), (3, .long a2)] := hl
        refine lv_aload_n hx hb d_Real_remainder_57 rfl (lv_at hl 1 rfl) ?_
        refine lv_lload_n hx hb d_Real_remainder_58 rfl (lv_at hl 2 rfl) ?_
        refine q_V (As := [.long a1]) (rest := []) (n := 1) hx hb hml hown hts (c_Real_significand l o0 K0 a1) rfl rfl m_54 m_55 m_56 m_57 m_11 (by decide +kernel) ⟨Nat.le_of_ble_eq_true rfl, Nat.le_of_ble_eq_true rfl⟩ (rAt_rc hRe_o0) (p1_bl) (fun U hU hW => p1_mv hU hW hNB hRe_o0) rfl hl.1 rfl (Nat.le_of_ble_eq_true rfl) d_Real_remainder_59 ⟨Nat.zero_le _, Nat.zero_le _⟩ ?_
        refine lv_lload hx hb d_Real_remainder_62 (lv_at hl 0 rfl) ?_
        have hz := gz_n h
        have h := gz_h h
        refine lv_lrem hx hb d_Real_remainder_64 hz ?_
        refine lv_topl (fun x2 e_x2 => ?_)
        have h := lt_h e_x2 h
        refine lv_lstore hx hb d_Real_remainder_65 hl (by decide) rfl (fun ls hl => ?_)
        have hl : lv_has ls 10 [(7, .long x2), (5, .long x1), (0, .ref o0), (1, .long a1), (3, .long a2)] := hl
        refine lv_aload_n hx hb d_Real_remainder_67 rfl (lv_at hl 2 rfl) ?_
        refine lv_lload_n hx hb d_Real_remainder_68 rfl (lv_at hl 3 rfl) ?_
        refine q_V (As := [.long a1]) (rest := []) (n := 1) hx hb hml hown hts (c_Real_power l o0 K0 a1) rfl rfl m_58 m_59 m_60 m_61 m_11 (by decide +kernel) ⟨Nat.le_of_ble_eq_true rfl, Nat.le_of_ble_eq_true rfl⟩ (rAt_rc hRe_o0) (p1_bl) (fun U hU hW => p1_mv hU hW hNB hRe_o0) rfl hl.1 rfl (Nat.le_of_ble_eq_true rfl) d_Real_remainder_69 ⟨Nat.zero_le _, Nat.zero_le _⟩ ?_
        refine lv_aload_n hx hb d_Real_remainder_72 rfl (lv_at hl 2 rfl) ?_
        refine lv_lload_n hx hb d_Real_remainder_73 rfl (lv_at hl 4 rfl) ?_
        refine q_V (As := [.long a2]) (rest := [.int (F_Real_power K0 a1)]) (n := 1) hx hb hml hown hts (c_Real_power l o0 K0 a2) rfl rfl m_58 m_59 m_60 m_61 m_11 (by decide +kernel) ⟨Nat.le_of_ble_eq_true rfl, Nat.le_of_ble_eq_true rfl⟩ (rAt_rc hRe_o0) (p1_bl) (fun U hU hW => p1_mv hU hW hNB hRe_o0) rfl hl.1 rfl (Nat.le_of_ble_eq_true rfl) d_Real_remainder_74 ⟨Nat.zero_le _, Nat.zero_le _⟩ ?_
        refine lv_isub hx hb d_Real_remainder_77 ?_
        refine lv_topi (fun x3 e_x3 => ?_)
        have h := lt_h e_x3 h
        refine lv_istore hx hb d_Real_remainder_78 hl (by decide) rfl (fun ls hl => ?_)
        have hl : lv_has ls 10 [(9, .int x3), (7, .long x2), (5, .long x1), (0, .ref o0), (1, .long a1), (3, .long a2)] := hl
        obtain ⟨j106, e_j106, h⟩ := lt_o h
        have hJ106 : ∀ (y4 : Int64) (ls : Array Slot), lv_has ls 10 [(0, .ref o0), (1, .long a1), (3, .long a2), (7, .long y4)] → j106 y4 = some r → W p l e ({ frames := 2, cells := 0, slots := 0, locals := 61 } : Room) s m args below meth c s.heap [] 0 0 Q (F0 m 106 ls []) := by
          intro y4 ls hl h
          rw [e_j106] at h
          refine lv_aload_n hx hb d_Real_remainder_106 rfl (lv_at hl 0 rfl) ?_
          refine lv_aload_n hx hb d_Real_remainder_107 rfl (lv_at hl 0 rfl) ?_
          refine lv_lload_n hx hb d_Real_remainder_108 rfl (lv_at hl 1 rfl) ?_
          refine q_V (As := [.long a1]) (rest := [.ref o0]) (n := 1) hx hb hml hown hts (c_Real_isNegative l o0 K0 a1) rfl rfl m_12 m_13 m_14 m_15 m_11 (by decide +kernel) ⟨Nat.le_of_ble_eq_true rfl, Nat.le_of_ble_eq_true rfl⟩ (rAt_rc hRe_o0) (p1_bl) (fun U hU hW => p1_mv hU hW hNB hRe_o0) rfl hl.1 rfl (Nat.le_of_ble_eq_true rfl) d_Real_remainder_109 ⟨Nat.zero_le _, Nat.zero_le _⟩ ?_
          refine lv_aload_n hx hb d_Real_remainder_112 rfl (lv_at hl 0 rfl) ?_
          refine lv_lload_n hx hb d_Real_remainder_113 rfl (lv_at hl 2 rfl) ?_
          refine q_V (As := [.long a2]) (rest := [.int (F_Real_isNegative K0 a1), .ref o0]) (n := 1) hx hb hml hown hts (c_Real_power l o0 K0 a2) rfl rfl m_58 m_59 m_60 m_61 m_11 (by decide +kernel) ⟨Nat.le_of_ble_eq_true rfl, Nat.le_of_ble_eq_true rfl⟩ (rAt_rc hRe_o0) (p1_bl) (fun U hU hW => p1_mv hU hW hNB hRe_o0) rfl hl.1 rfl (Nat.le_of_ble_eq_true rfl) d_Real_remainder_114 ⟨Nat.zero_le _, Nat.zero_le _⟩ ?_
          refine lv_lload hx hb d_Real_remainder_117 (lv_at hl 3 rfl) ?_
          obtain ⟨x5, e_x5, h⟩ := bd_o h
          refine q_V (As := [.int (F_Real_isNegative K0 a1), .int (F_Real_power K0 a2), .long y4]) (rest := []) (n := 3) hx hb hml hown hts (c_Real_rounded l o0 n K0 (F_Real_isNegative K0 a1) (F_Real_power K0 a2) y4 _ e_x5) rfl rfl m_65 m_66 m_67 m_68 m_11 (by decide +kernel) ⟨Nat.le_of_ble_eq_true rfl, Nat.le_of_ble_eq_true rfl⟩ (rAt_rc hRe_o0) (p1_bl) (fun U hU hW => p1_mv hU hW hNB hRe_o0) rfl hl.1 rfl (Nat.le_of_ble_eq_true rfl) d_Real_remainder_119 ⟨Nat.zero_le _, Nat.zero_le _⟩ ?_
          exact hret 122 ls _ (Option.some.inj h) d_Real_remainder_122
        have hL80 : ∀ (n : Nat) (y6 : Int64) (y7 : Int32) (ls : Array Slot), lv_has ls 10 [(0, .ref o0), (1, .long a1), (3, .long a2), (5, .long x1), (7, .long y6), (9, .int y7)] → F_Real_remainder_L80 K0 a1 a2 x1 j106 n y6 y7 = some r → W p l e ({ frames := 2, cells := 0, slots := 0, locals := 61 } : Room) s m args below meth c s.heap [] 0 0 Q (F0 m 80 ls []) := by
          intro n
          induction n with
          | zero => intro y6 y7 ls hl h; exact no_s h
          | succ n ih =>
            intro y6 y7 ls hl h
            have h : (if y7 ≤ 0 then (j106 y6) else (gz_ (x1 = 0) <| lt_ ((y6 <<< ((if (10 : Int32) < y7 then (10 : Int32) else y7).toInt64 &&& 63)) - (y6 <<< ((if (10 : Int32) < y7 then (10 : Int32) else y7).toInt64 &&& 63)) / x1 * x1) fun x8 => lt_ (y7 + Int32.ofInt (-10)) fun x9 => F_Real_remainder_L80 K0 a1 a2 x1 j106 n x8 x9)) = some r := h
            refine lv_iload hx hb d_Real_remainder_80 (lv_at hl 5 rfl) ?_
            refine lv_if_le (tgt := 106) hx hb d_Real_remainder_82 rfl (fun hc => ?_) (fun hc => ?_)
            · have h := ite_t hc h
              exact hJ106 _ ls (lv_sub hl [0, 1, 2, 4] rfl) h
            · have h := ite_f hc h
              refine lv_lload hx hb d_Real_remainder_85 (lv_at hl 4 rfl) ?_
              refine lv_iload hx hb d_Real_remainder_87 (lv_at hl 5 rfl) ?_
              refine lv_bipush hx hb d_Real_remainder_89 bp_10 ?_
              refine va_mmin hx hb (hml.trans hl.1.symm) hown (hT _ m_100) (hT _ m_101) (hT _ m_28) (hT _ m_102) (Nat.le_of_ble_eq_true rfl) (Nat.le_of_ble_eq_true rfl) (Nat.zero_le _) (Nat.zero_le _) d_Real_remainder_91 ?_
              refine lv_lshl hx hb d_Real_remainder_94 rfl ?_
              refine lv_lload hx hb d_Real_remainder_95 (lv_at hl 3 rfl) ?_
              have hz := gz_n h
              have h := gz_h h
              refine lv_lrem hx hb d_Real_remainder_97 hz ?_
              refine lv_topl (fun x8 e_x8 => ?_)
              have h := lt_h e_x8 h
              refine lv_lstore hx hb d_Real_remainder_98 hl (by decide) rfl (fun ls hl => ?_)
              have hl : lv_has ls 10 [(7, .long x8), (0, .ref o0), (1, .long a1), (3, .long a2), (5, .long x1), (9, .int y7)] := hl
              obtain ⟨x9, e_x9⟩ : ∃ z, z = y7 + Int32.ofInt (-10) := ⟨_, rfl⟩
              have h := lt_h e_x9 h
              refine lv_iinc (k := 5) hx hb d_Real_remainder_100 hl rfl e_x9.symm (by decide) rfl (fun ls hl => ?_)
              have hl : lv_has ls 10 [(9, .int x9), (7, .long x8), (0, .ref o0), (1, .long a1), (3, .long a2), (5, .long x1)] := hl
              refine lv_goto (tgt := 80) hx hb d_Real_remainder_103 rfl ?_
              exact ih _ _ ls (lv_sub hl [2, 3, 4, 5, 1, 0] rfl) h
        exact hL80 n _ _ ls (lv_sub hl [3, 4, 5, 2, 1, 0] rfl) h
      · have hc := mt (lg_cmp_ge _ _).mpr hc
        have h := ite_f hc h
        refine lv_aload_n hx hb d_Real_remainder_35 rfl (lv_at hl 0 rfl) ?_
        refine lv_aload_n hx hb d_Real_remainder_36 rfl (lv_at hl 0 rfl) ?_
        refine lv_lload_n hx hb d_Real_remainder_37 rfl (lv_at hl 1 rfl) ?_
        refine q_V (As := [.long a1]) (rest := [.ref o0]) (n := 1) hx hb hml hown hts (c_Real_isNegative l o0 K0 a1) rfl rfl m_12 m_13 m_14 m_15 m_11 (by decide +kernel) ⟨Nat.le_of_ble_eq_true rfl, Nat.le_of_ble_eq_true rfl⟩ (rAt_rc hRe_o0) (p1_bl) (fun U hU hW => p1_mv hU hW hNB hRe_o0) rfl hl.1 rfl (Nat.le_of_ble_eq_true rfl) d_Real_remainder_38 ⟨Nat.zero_le _, Nat.zero_le _⟩ ?_
        refine lv_aload_n hx hb d_Real_remainder_41 rfl (lv_at hl 0 rfl) ?_
        refine lv_lload_n hx hb d_Real_remainder_42 rfl (lv_at hl 1 rfl) ?_
        refine q_V (As := [.long a1]) (rest := [.int (F_Real_isNegative K0 a1), .ref o0]) (n := 1) hx hb hml hown hts (c_Real_magnitude l o0 K0 a1) rfl rfl m_7 m_8 m_9 m_10 m_11 (by decide +kernel) ⟨Nat.le_of_ble_eq_true rfl, Nat.le_of_ble_eq_true rfl⟩ (rAt_rc hRe_o0) (p1_bl) (fun U hU hW => p1_mv hU hW hNB hRe_o0) rfl hl.1 rfl (Nat.le_of_ble_eq_true rfl) d_Real_remainder_43 ⟨Nat.zero_le _, Nat.zero_le _⟩ ?_
        refine q_V (As := [.int (F_Real_isNegative K0 a1), .long (F_Real_magnitude K0 a1)]) (rest := []) (n := 2) hx hb hml hown hts (c_Real_signed l o0 K0 (F_Real_isNegative K0 a1) (F_Real_magnitude K0 a1)) rfl rfl m_34 m_35 m_36 m_37 m_11 (by decide +kernel) ⟨Nat.le_of_ble_eq_true rfl, Nat.le_of_ble_eq_true rfl⟩ (rAt_rc hRe_o0) (p1_bl) (fun U hU hW => p1_mv hU hW hNB hRe_o0) rfl hl.1 rfl (Nat.le_of_ble_eq_true rfl) d_Real_remainder_46 ⟨Nat.zero_le _, Nat.zero_le _⟩ ?_
        exact hret 49 ls _ (Option.some.inj h) d_Real_remainder_49
    · have h := ite_f hc h
      exact hJ16 ls (lv_sub hl [0] rfl) h
-- Real_fromWhole
theorem d_Real_fromWhole_0 : decode b_Real_fromWhole 0 = .ok (.lload_n 1, 1) := by decide +kernel
theorem d_Real_fromWhole_1 : decode b_Real_fromWhole 1 = .ok (.ldc2_w 122, 3) := by decide +kernel
theorem d_Real_fromWhole_4 : decode b_Real_fromWhole 4 = .ok (.lcmp, 1) := by decide +kernel
theorem d_Real_fromWhole_5 : decode b_Real_fromWhole 5 = .ok (.ifCond .ne 13, 3) := by decide +kernel
theorem d_Real_fromWhole_8 : decode b_Real_fromWhole 8 = .ok (.aload_n 0, 1) := by decide +kernel
theorem d_Real_fromWhole_9 : decode b_Real_fromWhole 9 = .ok (.iconst 1, 1) := by decide +kernel
theorem d_Real_fromWhole_10 : decode b_Real_fromWhole 10 = .ok (.iconst 1, 1) := by decide +kernel
theorem d_Real_fromWhole_11 : decode b_Real_fromWhole 11 = .ok (.ldc2_w 124, 3) := by decide +kernel
theorem d_Real_fromWhole_14 : decode b_Real_fromWhole 14 = .ok (.invokevirtual 106, 3) := by decide +kernel
theorem d_Real_fromWhole_17 : decode b_Real_fromWhole 17 = .ok (.lreturn, 1) := by decide +kernel
theorem d_Real_fromWhole_18 : decode b_Real_fromWhole 18 = .ok (.aload_n 0, 1) := by decide +kernel
theorem d_Real_fromWhole_19 : decode b_Real_fromWhole 19 = .ok (.lload_n 1, 1) := by decide +kernel
theorem d_Real_fromWhole_20 : decode b_Real_fromWhole 20 = .ok (.lconst 0, 1) := by decide +kernel
theorem d_Real_fromWhole_21 : decode b_Real_fromWhole 21 = .ok (.lcmp, 1) := by decide +kernel
theorem d_Real_fromWhole_22 : decode b_Real_fromWhole 22 = .ok (.ifCond .ge 7, 3) := by decide +kernel
theorem d_Real_fromWhole_25 : decode b_Real_fromWhole 25 = .ok (.iconst 1, 1) := by decide +kernel
theorem d_Real_fromWhole_26 : decode b_Real_fromWhole 26 = .ok (.goto 4, 3) := by decide +kernel
theorem d_Real_fromWhole_29 : decode b_Real_fromWhole 29 = .ok (.iconst 0, 1) := by decide +kernel
theorem d_Real_fromWhole_30 : decode b_Real_fromWhole 30 = .ok (.iconst 0, 1) := by decide +kernel
theorem d_Real_fromWhole_31 : decode b_Real_fromWhole 31 = .ok (.lload_n 1, 1) := by decide +kernel
theorem d_Real_fromWhole_32 : decode b_Real_fromWhole 32 = .ok (.lconst 0, 1) := by decide +kernel
theorem d_Real_fromWhole_33 : decode b_Real_fromWhole 33 = .ok (.lcmp, 1) := by decide +kernel
theorem d_Real_fromWhole_34 : decode b_Real_fromWhole 34 = .ok (.ifCond .ge 8, 3) := by decide +kernel
theorem d_Real_fromWhole_37 : decode b_Real_fromWhole 37 = .ok (.lload_n 1, 1) := by decide +kernel
theorem d_Real_fromWhole_38 : decode b_Real_fromWhole 38 = .ok (.lneg, 1) := by decide +kernel
theorem d_Real_fromWhole_39 : decode b_Real_fromWhole 39 = .ok (.goto 4, 3) := by decide +kernel
theorem d_Real_fromWhole_42 : decode b_Real_fromWhole 42 = .ok (.lload_n 1, 1) := by decide +kernel
theorem d_Real_fromWhole_43 : decode b_Real_fromWhole 43 = .ok (.invokevirtual 106, 3) := by decide +kernel
theorem d_Real_fromWhole_46 : decode b_Real_fromWhole 46 = .ok (.lreturn, 1) := by decide +kernel
def F_Real_fromWhole (n : Nat) (K0 : rK) (a1 : Int64) : Option (Int64) := if ¬ a1 = (-9223372036854775808 : Int64) then (lt_ (if (0 : Int64) ≤ a1 then (0 : Int32) else (1 : Int32)) fun x1 => lt_ (if (0 : Int64) ≤ a1 then a1 else -a1) fun x2 => (F_Real_rounded n K0 x1 (0 : Int32) x2).bind fun x3 => some x3) else ((F_Real_rounded n K0 (1 : Int32) (1 : Int32) (4611686018427387904 : Int64)).bind fun x4 => some x4)
set_option maxHeartbeats 4000000 in
set_option maxRecDepth 100000 in
theorem c_Real_fromWhole (l : Launch) (o0 : Nat) (n : Nat) (K0 : rK) (a1 : Int64) (r : Int64) (h : F_Real_fromWhole n K0 a1 = some r) : Met l y_Real_fromWhole (.code y_Real_fromWhole b_Real_fromWhole 3 (some .long) :: BIG) ({ frames := 2, cells := 0, slots := 0, locals := 61 } : Room) (va_Pc [.ref o0, .long a1] (pre1 o0 K0)) (pQ (.long r)) 0 0 (fun _ => False) := by
  refine pOpen_l rfl (Nat.le_of_ble_eq_true rfl) ?_
  intro p e s m args below meth c Q ls hx hb hml hown hts hT hp hl hret
  obtain ⟨hNB, hRe_o0⟩ := hp
  have hown : s.vm.findClass R_Real = some m.cls := hown
  have hl : lv_has ls 3 [(0, .ref o0), (1, .long a1)] := hl
  have h : (if ¬ a1 = (-9223372036854775808 : Int64) then (lt_ (if (0 : Int64) ≤ a1 then (0 : Int32) else (1 : Int32)) fun x1 => lt_ (if (0 : Int64) ≤ a1 then a1 else -a1) fun x2 => (F_Real_rounded n K0 x1 (0 : Int32) x2).bind fun x3 => some x3) else ((F_Real_rounded n K0 (1 : Int32) (1 : Int32) (4611686018427387904 : Int64)).bind fun x4 => some x4)) = some r := h
  refine lv_lload_n hx hb d_Real_fromWhole_0 rfl (lv_at hl 1 rfl) ?_
  refine lv_ldc2 hx hb hown (hT _ m_103) d_Real_fromWhole_1 ?_
  refine W.lcmp hx hb d_Real_fromWhole_4 ?_
  refine lv_if_ne (tgt := 18) hx hb d_Real_fromWhole_5 rfl (fun hc => ?_) (fun hc => ?_)
  · have hc := mt (lg_cmp_eq _ _).mpr hc
    have h := ite_t hc h
    refine lv_aload_n hx hb d_Real_fromWhole_18 rfl (lv_at hl 0 rfl) ?_
    refine lv_lload_n hx hb d_Real_fromWhole_19 rfl (lv_at hl 1 rfl) ?_
    refine lv_lconst hx hb d_Real_fromWhole_20 lc_0 ?_
    refine W.lcmp hx hb d_Real_fromWhole_21 ?_
    obtain ⟨x1, e_x1, h⟩ := lt_o h
    have hJ30 : ∀ (x1' : Int32) (ls : Array Slot), x1 = x1' → lv_has ls 3 [(1, .long a1)] → W p l e ({ frames := 2, cells := 0, slots := 0, locals := 61 } : Room) s m args below meth c s.heap [] 0 0 Q (F0 m 30 ls [.int x1', .ref o0]) := by
      intro x1' ls q_x1 hl
      subst q_x1
      refine lv_iconst hx hb d_Real_fromWhole_30 ic_0 ?_
      refine lv_lload_n hx hb d_Real_fromWhole_31 rfl (lv_at hl 0 rfl) ?_
      refine lv_lconst hx hb d_Real_fromWhole_32 lc_0 ?_
      refine W.lcmp hx hb d_Real_fromWhole_33 ?_
      obtain ⟨x2, e_x2, h⟩ := lt_o h
      have hJ43 : ∀ (x2' : Int64) (ls : Array Slot), x2 = x2' → lv_has ls 3 [] → W p l e ({ frames := 2, cells := 0, slots := 0, locals := 61 } : Room) s m args below meth c s.heap [] 0 0 Q (F0 m 43 ls [.long x2', .int (0 : Int32), .int x1, .ref o0]) := by
        intro x2' ls q_x2 hl
        subst q_x2
        obtain ⟨x3, e_x3, h⟩ := bd_o h
        refine q_V (As := [.int x1, .int (0 : Int32), .long x2]) (rest := []) (n := 3) hx hb hml hown hts (c_Real_rounded l o0 n K0 x1 (0 : Int32) x2 _ e_x3) rfl rfl m_65 m_66 m_67 m_68 m_11 (by decide +kernel) ⟨Nat.le_of_ble_eq_true rfl, Nat.le_of_ble_eq_true rfl⟩ (rAt_rc hRe_o0) (p1_bl) (fun U hU hW => p1_mv hU hW hNB hRe_o0) rfl hl.1 rfl (Nat.le_of_ble_eq_true rfl) d_Real_fromWhole_43 ⟨Nat.zero_le _, Nat.zero_le _⟩ ?_
        exact hret 46 ls _ (Option.some.inj h) d_Real_fromWhole_46
      refine lv_if_ge (tgt := 42) hx hb d_Real_fromWhole_34 rfl (fun hc => ?_) (fun hc => ?_)
      · have hc := (lg_cmp_ge _ _).mp hc
        have e_x2 := e_x2.trans (if_pos hc)
        refine lv_lload_n hx hb d_Real_fromWhole_42 rfl (lv_at hl 0 rfl) ?_
        exact hJ43 _ ls e_x2 (lv_sub hl [] rfl)
      · have hc := mt (lg_cmp_ge _ _).mpr hc
        have e_x2 := e_x2.trans (if_neg hc)
        refine lv_lload_n hx hb d_Real_fromWhole_37 rfl (lv_at hl 0 rfl) ?_
        refine lv_lneg hx hb d_Real_fromWhole_38 ?_
        refine lv_goto (tgt := 43) hx hb d_Real_fromWhole_39 rfl ?_
        exact hJ43 _ ls e_x2 (lv_sub hl [] rfl)
    refine lv_if_ge (tgt := 29) hx hb d_Real_fromWhole_22 rfl (fun hc => ?_) (fun hc => ?_)
    · have hc := (lg_cmp_ge _ _).mp hc
      have e_x1 := e_x1.trans (if_pos hc)
      refine lv_iconst hx hb d_Real_fromWhole_29 ic_0 ?_
      exact hJ30 _ ls e_x1 (lv_sub hl [1] rfl)
    · have hc := mt (lg_cmp_ge _ _).mpr hc
      have e_x1 := e_x1.trans (if_neg hc)
      refine lv_iconst hx hb d_Real_fromWhole_25 ic_1 ?_
      refine lv_goto (tgt := 30) hx hb d_Real_fromWhole_26 rfl ?_
      exact hJ30 _ ls e_x1 (lv_sub hl [1] rfl)
  · have hc := not_not_intro ((lg_cmp_eq _ _).mp hc)
    have h := ite_f hc h
    refine lv_aload_n hx hb d_Real_fromWhole_8 rfl (lv_at hl 0 rfl) ?_
    refine lv_iconst hx hb d_Real_fromWhole_9 ic_1 ?_
    refine lv_iconst hx hb d_Real_fromWhole_10 ic_1 ?_
    refine lv_ldc2 hx hb hown (hT _ m_104) d_Real_fromWhole_11 ?_
    obtain ⟨x4, e_x4, h⟩ := bd_o h
    refine q_V (As := [.int (1 : Int32), .int (1 : Int32), .long (4611686018427387904 : Int64)]) (rest := []) (n := 3) hx hb hml hown hts (c_Real_rounded l o0 n K0 (1 : Int32) (1 : Int32) (4611686018427387904 : Int64) _ e_x4) rfl rfl m_65 m_66 m_67 m_68 m_11 (by decide +kernel) ⟨Nat.le_of_ble_eq_true rfl, Nat.le_of_ble_eq_true rfl⟩ (rAt_rc hRe_o0) (p1_bl) (fun U hU hW => p1_mv hU hW hNB hRe_o0) rfl hl.1 rfl (Nat.le_of_ble_eq_true rfl) d_Real_fromWhole_14 ⟨Nat.zero_le _, Nat.zero_le _⟩ ?_
    exact hret 17 ls _ (Option.some.inj h) d_Real_fromWhole_17
-- Real_fromReal
theorem d_Real_fromReal_0 : decode b_Real_fromReal 0 = .ok (.aload_n 3, 1) := by decide +kernel
theorem d_Real_fromReal_1 : decode b_Real_fromReal 1 = .ok (.lload_n 1, 1) := by decide +kernel
theorem d_Real_fromReal_2 : decode b_Real_fromReal 2 = .ok (.invokevirtual 69, 3) := by decide +kernel
theorem d_Real_fromReal_5 : decode b_Real_fromReal 5 = .ok (.ifCond .eq 8, 3) := by decide +kernel
theorem d_Real_fromReal_8 : decode b_Real_fromReal 8 = .ok (.aload_n 0, 1) := by decide +kernel
theorem d_Real_fromReal_9 : decode b_Real_fromReal 9 = .ok (.invokevirtual 72, 3) := by decide +kernel
theorem d_Real_fromReal_12 : decode b_Real_fromReal 12 = .ok (.lreturn, 1) := by decide +kernel
theorem d_Real_fromReal_13 : decode b_Real_fromReal 13 = .ok (.aload_n 3, 1) := by decide +kernel
theorem d_Real_fromReal_14 : decode b_Real_fromReal 14 = .ok (.lload_n 1, 1) := by decide +kernel
theorem d_Real_fromReal_15 : decode b_Real_fromReal 15 = .ok (.invokevirtual 80, 3) := by decide +kernel
theorem d_Real_fromReal_18 : decode b_Real_fromReal 18 = .ok (.ifCond .eq 17, 3) := by decide +kernel
theorem d_Real_fromReal_21 : decode b_Real_fromReal 21 = .ok (.aload_n 0, 1) := by decide +kernel
theorem d_Real_fromReal_22 : decode b_Real_fromReal 22 = .ok (.aload_n 3, 1) := by decide +kernel
theorem d_Real_fromReal_23 : decode b_Real_fromReal 23 = .ok (.lload_n 1, 1) := by decide +kernel
theorem d_Real_fromReal_24 : decode b_Real_fromReal 24 = .ok (.invokevirtual 52, 3) := by decide +kernel
theorem d_Real_fromReal_27 : decode b_Real_fromReal 27 = .ok (.aload_n 0, 1) := by decide +kernel
theorem d_Real_fromReal_28 : decode b_Real_fromReal 28 = .ok (.getfield 45, 3) := by decide +kernel
theorem d_Real_fromReal_31 : decode b_Real_fromReal 31 = .ok (.invokevirtual 76, 3) := by decide +kernel
theorem d_Real_fromReal_34 : decode b_Real_fromReal 34 = .ok (.lreturn, 1) := by decide +kernel
theorem d_Real_fromReal_35 : decode b_Real_fromReal 35 = .ok (.aload_n 0, 1) := by decide +kernel
theorem d_Real_fromReal_36 : decode b_Real_fromReal 36 = .ok (.aload_n 3, 1) := by decide +kernel
theorem d_Real_fromReal_37 : decode b_Real_fromReal 37 = .ok (.lload_n 1, 1) := by decide +kernel
theorem d_Real_fromReal_38 : decode b_Real_fromReal 38 = .ok (.invokevirtual 52, 3) := by decide +kernel
theorem d_Real_fromReal_41 : decode b_Real_fromReal 41 = .ok (.aload_n 3, 1) := by decide +kernel
theorem d_Real_fromReal_42 : decode b_Real_fromReal 42 = .ok (.lload_n 1, 1) := by decide +kernel
theorem d_Real_fromReal_43 : decode b_Real_fromReal 43 = .ok (.invokevirtual 116, 3) := by decide +kernel
theorem d_Real_fromReal_46 : decode b_Real_fromReal 46 = .ok (.aload_n 3, 1) := by decide +kernel
theorem d_Real_fromReal_47 : decode b_Real_fromReal 47 = .ok (.lload_n 1, 1) := by decide +kernel
theorem d_Real_fromReal_48 : decode b_Real_fromReal 48 = .ok (.invokevirtual 113, 3) := by decide +kernel
theorem d_Real_fromReal_51 : decode b_Real_fromReal 51 = .ok (.invokevirtual 106, 3) := by decide +kernel
theorem d_Real_fromReal_54 : decode b_Real_fromReal 54 = .ok (.lreturn, 1) := by decide +kernel
def F_Real_fromReal (n : Nat) (K0 : rK) (K2 : rK) (a1 : Int64) : Option (Int64) := if (F_Real_isNan K2 a1) = 0 then (if (F_Real_isInfinite K2 a1) = 0 then ((F_Real_rounded n K0 (F_Real_isNegative K2 a1) (F_Real_power K2 a1) (F_Real_significand K2 a1)).bind fun x1 => some x1) else (some (F_Real_signed K0 (F_Real_isNegative K2 a1) K0.2.2.2.2))) else (some (F_Real_nan K0))
set_option maxHeartbeats 4000000 in
set_option maxRecDepth 100000 in
theorem c_Real_fromReal (l : Launch) (o0 : Nat) (o2 : Nat) (n : Nat) (K0 : rK) (K2 : rK) (a1 : Int64) (r : Int64) (h : F_Real_fromReal n K0 K2 a1 = some r) : Met l y_Real_fromReal (.code y_Real_fromReal b_Real_fromReal 4 (some .long) :: BIG) ({ frames := 2, cells := 0, slots := 0, locals := 61 } : Room) (va_Pc [.ref o0, .long a1, .ref o2] (pre2 o0 K0 o2 K2)) (pQ (.long r)) 0 0 (fun _ => False) := by
  refine pOpen_l rfl (Nat.le_of_ble_eq_true rfl) ?_
  intro p e s m args below meth c Q ls hx hb hml hown hts hT hp hl hret
  obtain ⟨hNB, hRe_o0, hRe_o2⟩ := hp
  have hown : s.vm.findClass R_Real = some m.cls := hown
  have hl : lv_has ls 4 [(0, .ref o0), (1, .long a1), (3, .ref o2)] := hl
  have h : (if (F_Real_isNan K2 a1) = 0 then (if (F_Real_isInfinite K2 a1) = 0 then ((F_Real_rounded n K0 (F_Real_isNegative K2 a1) (F_Real_power K2 a1) (F_Real_significand K2 a1)).bind fun x1 => some x1) else (some (F_Real_signed K0 (F_Real_isNegative K2 a1) K0.2.2.2.2))) else (some (F_Real_nan K0))) = some r := h
  refine lv_aload_n hx hb d_Real_fromReal_0 rfl (lv_at hl 2 rfl) ?_
  refine lv_lload_n hx hb d_Real_fromReal_1 rfl (lv_at hl 1 rfl) ?_
  refine q_V (As := [.long a1]) (rest := []) (n := 1) hx hb hml hown hts (c_Real_isNan l o2 K2 a1) rfl rfl m_30 m_31 m_32 m_33 m_11 (by decide +kernel) ⟨Nat.le_of_ble_eq_true rfl, Nat.le_of_ble_eq_true rfl⟩ (rAt_rc hRe_o2) (p1_bl) (fun U hU hW => p1_mv hU hW hNB hRe_o2) rfl hl.1 rfl (Nat.le_of_ble_eq_true rfl) d_Real_fromReal_2 ⟨Nat.zero_le _, Nat.zero_le _⟩ ?_
  refine lv_if_eq (tgt := 13) hx hb d_Real_fromReal_5 rfl (fun hc => ?_) (fun hc => ?_)
  · have h := ite_t hc h
    refine lv_aload_n hx hb d_Real_fromReal_13 rfl (lv_at hl 2 rfl) ?_
    refine lv_lload_n hx hb d_Real_fromReal_14 rfl (lv_at hl 1 rfl) ?_
    refine q_V (As := [.long a1]) (rest := []) (n := 1) hx hb hml hown hts (c_Real_isInfinite l o2 K2 a1) rfl rfl m_42 m_43 m_44 m_45 m_11 (by decide +kernel) ⟨Nat.le_of_ble_eq_true rfl, Nat.le_of_ble_eq_true rfl⟩ (rAt_rc hRe_o2) (p1_bl) (fun U hU hW => p1_mv hU hW hNB hRe_o2) rfl hl.1 rfl (Nat.le_of_ble_eq_true rfl) d_Real_fromReal_15 ⟨Nat.zero_le _, Nat.zero_le _⟩ ?_
    refine lv_if_eq (tgt := 35) hx hb d_Real_fromReal_18 rfl (fun hc => ?_) (fun hc => ?_)
    · have h := ite_t hc h
      refine lv_aload_n hx hb d_Real_fromReal_35 rfl (lv_at hl 0 rfl) ?_
      refine lv_aload_n hx hb d_Real_fromReal_36 rfl (lv_at hl 2 rfl) ?_
      refine lv_lload_n hx hb d_Real_fromReal_37 rfl (lv_at hl 1 rfl) ?_
      refine q_V (As := [.long a1]) (rest := [.ref o0]) (n := 1) hx hb hml hown hts (c_Real_isNegative l o2 K2 a1) rfl rfl m_12 m_13 m_14 m_15 m_11 (by decide +kernel) ⟨Nat.le_of_ble_eq_true rfl, Nat.le_of_ble_eq_true rfl⟩ (rAt_rc hRe_o2) (p1_bl) (fun U hU hW => p1_mv hU hW hNB hRe_o2) rfl hl.1 rfl (Nat.le_of_ble_eq_true rfl) d_Real_fromReal_38 ⟨Nat.zero_le _, Nat.zero_le _⟩ ?_
      refine lv_aload_n hx hb d_Real_fromReal_41 rfl (lv_at hl 2 rfl) ?_
      refine lv_lload_n hx hb d_Real_fromReal_42 rfl (lv_at hl 1 rfl) ?_
      refine q_V (As := [.long a1]) (rest := [.int (F_Real_isNegative K2 a1), .ref o0]) (n := 1) hx hb hml hown hts (c_Real_power l o2 K2 a1) rfl rfl m_58 m_59 m_60 m_61 m_11 (by decide +kernel) ⟨Nat.le_of_ble_eq_true rfl, Nat.le_of_ble_eq_true rfl⟩ (rAt_rc hRe_o2) (p1_bl) (fun U hU hW => p1_mv hU hW hNB hRe_o2) rfl hl.1 rfl (Nat.le_of_ble_eq_true rfl) d_Real_fromReal_43 ⟨Nat.zero_le _, Nat.zero_le _⟩ ?_
      refine lv_aload_n hx hb d_Real_fromReal_46 rfl (lv_at hl 2 rfl) ?_
      refine lv_lload_n hx hb d_Real_fromReal_47 rfl (lv_at hl 1 rfl) ?_
      refine q_V (As := [.long a1]) (rest := [.int (F_Real_power K2 a1), .int (F_Real_isNegative K2 a1), .ref o0]) (n := 1) hx hb hml hown hts (c_Real_significand l o2 K2 a1) rfl rfl m_54 m_55 m_56 m_57 m_11 (by decide +kernel) ⟨Nat.le_of_ble_eq_true rfl, Nat.le_of_ble_eq_true rfl⟩ (rAt_rc hRe_o2) (p1_bl) (fun U hU hW => p1_mv hU hW hNB hRe_o2) rfl hl.1 rfl (Nat.le_of_ble_eq_true rfl) d_Real_fromReal_48 ⟨Nat.zero_le _, Nat.zero_le _⟩ ?_
      obtain ⟨x1, e_x1, h⟩ := bd_o h
      refine q_V (As := [.int (F_Real_isNegative K2 a1), .int (F_Real_power K2 a1), .long (F_Real_significand K2 a1)]) (rest := []) (n := 3) hx hb hml hown hts (c_Real_rounded l o0 n K0 (F_Real_isNegative K2 a1) (F_Real_power K2 a1) (F_Real_significand K2 a1) _ e_x1) rfl rfl m_65 m_66 m_67 m_68 m_11 (by decide +kernel) ⟨Nat.le_of_ble_eq_true rfl, Nat.le_of_ble_eq_true rfl⟩ (rAt_rc hRe_o0) (p1_bl) (fun U hU hW => p1_mv hU hW hNB hRe_o0) rfl hl.1 rfl (Nat.le_of_ble_eq_true rfl) d_Real_fromReal_51 ⟨Nat.zero_le _, Nat.zero_le _⟩ ?_
      exact hret 54 ls _ (Option.some.inj h) d_Real_fromReal_54
    · have h := ite_f hc h
      refine lv_aload_n hx hb d_Real_fromReal_21 rfl (lv_at hl 0 rfl) ?_
      refine lv_aload_n hx hb d_Real_fromReal_22 rfl (lv_at hl 2 rfl) ?_
      refine lv_lload_n hx hb d_Real_fromReal_23 rfl (lv_at hl 1 rfl) ?_
      refine q_V (As := [.long a1]) (rest := [.ref o0]) (n := 1) hx hb hml hown hts (c_Real_isNegative l o2 K2 a1) rfl rfl m_12 m_13 m_14 m_15 m_11 (by decide +kernel) ⟨Nat.le_of_ble_eq_true rfl, Nat.le_of_ble_eq_true rfl⟩ (rAt_rc hRe_o2) (p1_bl) (fun U hU hW => p1_mv hU hW hNB hRe_o2) rfl hl.1 rfl (Nat.le_of_ble_eq_true rfl) d_Real_fromReal_24 ⟨Nat.zero_le _, Nat.zero_le _⟩ ?_
      refine lv_aload_n hx hb d_Real_fromReal_27 rfl (lv_at hl 0 rfl) ?_
      refine vk_getf hx hb (hRe_o0.2.2.2.2.2) va_S.rf hown (hT _ m_4) (fun _ h9 => h9) d_Real_fromReal_28 ?_
      refine q_V (As := [.int (F_Real_isNegative K2 a1), .long K0.2.2.2.2]) (rest := []) (n := 2) hx hb hml hown hts (c_Real_signed l o0 K0 (F_Real_isNegative K2 a1) K0.2.2.2.2) rfl rfl m_34 m_35 m_36 m_37 m_11 (by decide +kernel) ⟨Nat.le_of_ble_eq_true rfl, Nat.le_of_ble_eq_true rfl⟩ (rAt_rc hRe_o0) (p1_bl) (fun U hU hW => p1_mv hU hW hNB hRe_o0) rfl hl.1 rfl (Nat.le_of_ble_eq_true rfl) d_Real_fromReal_31 ⟨Nat.zero_le _, Nat.zero_le _⟩ ?_
      exact hret 34 ls _ (Option.some.inj h) d_Real_fromReal_34
  · have h := ite_f hc h
    refine lv_aload_n hx hb d_Real_fromReal_8 rfl (lv_at hl 0 rfl) ?_
    refine q_V (As := []) (rest := []) (n := 0) hx hb hml hown hts (c_Real_nan l o0 K0) rfl rfl m_38 m_39 m_40 m_41 m_11 (by decide +kernel) ⟨Nat.le_of_ble_eq_true rfl, Nat.le_of_ble_eq_true rfl⟩ (rAt_rc hRe_o0) (p1_bl) (fun U hU hW => p1_mv hU hW hNB hRe_o0) rfl hl.1 rfl (Nat.le_of_ble_eq_true rfl) d_Real_fromReal_9 ⟨Nat.zero_le _, Nat.zero_le _⟩ ?_
    exact hret 12 ls _ (Option.some.inj h) d_Real_fromReal_12
-- Real_toLong
theorem d_Real_toLong_0 : decode b_Real_toLong 0 = .ok (.aload_n 0, 1) := by decide +kernel
theorem d_Real_toLong_1 : decode b_Real_toLong 1 = .ok (.lload_n 1, 1) := by decide +kernel
theorem d_Real_toLong_2 : decode b_Real_toLong 2 = .ok (.invokevirtual 69, 3) := by decide +kernel
theorem d_Real_toLong_5 : decode b_Real_toLong 5 = .ok (.ifCond .eq 5, 3) := by decide +kernel
theorem d_Real_toLong_8 : decode b_Real_toLong 8 = .ok (.lconst 0, 1) := by decide +kernel
theorem d_Real_toLong_9 : decode b_Real_toLong 9 = .ok (.lreturn, 1) := by decide +kernel
theorem d_Real_toLong_10 : decode b_Real_toLong 10 = .ok (.aload_n 0, 1) := by decide +kernel
theorem d_Real_toLong_11 : decode b_Real_toLong 11 = .ok (.lload_n 1, 1) := by decide +kernel
theorem d_Real_toLong_12 : decode b_Real_toLong 12 = .ok (.invokevirtual 116, 3) := by decide +kernel
theorem d_Real_toLong_15 : decode b_Real_toLong 15 = .ok (.istore_n 3, 1) := by decide +kernel
theorem d_Real_toLong_16 : decode b_Real_toLong 16 = .ok (.iload_n 3, 1) := by decide +kernel
theorem d_Real_toLong_17 : decode b_Real_toLong 17 = .ok (.bipush 62, 2) := by decide +kernel
theorem d_Real_toLong_19 : decode b_Real_toLong 19 = .ok (.aload_n 0, 1) := by decide +kernel
theorem d_Real_toLong_20 : decode b_Real_toLong 20 = .ok (.getfield 31, 3) := by decide +kernel
theorem d_Real_toLong_23 : decode b_Real_toLong 23 = .ok (.isub, 1) := by decide +kernel
theorem d_Real_toLong_24 : decode b_Real_toLong 24 = .ok (.if_icmp .le 21, 3) := by decide +kernel
theorem d_Real_toLong_27 : decode b_Real_toLong 27 = .ok (.aload_n 0, 1) := by decide +kernel
theorem d_Real_toLong_28 : decode b_Real_toLong 28 = .ok (.lload_n 1, 1) := by decide +kernel
theorem d_Real_toLong_29 : decode b_Real_toLong 29 = .ok (.invokevirtual 52, 3) := by decide +kernel
theorem d_Real_toLong_32 : decode b_Real_toLong 32 = .ok (.ifCond .eq 9, 3) := by decide +kernel
theorem d_Real_toLong_35 : decode b_Real_toLong 35 = .ok (.ldc2_w 122, 3) := by decide +kernel
theorem d_Real_toLong_38 : decode b_Real_toLong 38 = .ok (.goto 6, 3) := by decide +kernel
theorem d_Real_toLong_41 : decode b_Real_toLong 41 = .ok (.ldc2_w 126, 3) := by decide +kernel
theorem d_Real_toLong_44 : decode b_Real_toLong 44 = .ok (.lreturn, 1) := by decide +kernel
theorem d_Real_toLong_45 : decode b_Real_toLong 45 = .ok (.iload_n 3, 1) := by decide +kernel
theorem d_Real_toLong_46 : decode b_Real_toLong 46 = .ok (.bipush (-64), 2) := by decide +kernel
theorem d_Real_toLong_48 : decode b_Real_toLong 48 = .ok (.if_icmp .gt 5, 3) := by decide +kernel
theorem d_Real_toLong_51 : decode b_Real_toLong 51 = .ok (.lconst 0, 1) := by decide +kernel
theorem d_Real_toLong_52 : decode b_Real_toLong 52 = .ok (.lreturn, 1) := by decide +kernel
theorem d_Real_toLong_53 : decode b_Real_toLong 53 = .ok (.iload_n 3, 1) := by decide +kernel
theorem d_Real_toLong_54 : decode b_Real_toLong 54 = .ok (.ifCond .ge 14, 3) := by decide +kernel
theorem d_Real_toLong_57 : decode b_Real_toLong 57 = .ok (.aload_n 0, 1) := by decide +kernel
theorem d_Real_toLong_58 : decode b_Real_toLong 58 = .ok (.lload_n 1, 1) := by decide +kernel
theorem d_Real_toLong_59 : decode b_Real_toLong 59 = .ok (.invokevirtual 113, 3) := by decide +kernel
theorem d_Real_toLong_62 : decode b_Real_toLong 62 = .ok (.iload_n 3, 1) := by decide +kernel
theorem d_Real_toLong_63 : decode b_Real_toLong 63 = .ok (.ineg, 1) := by decide +kernel
theorem d_Real_toLong_64 : decode b_Real_toLong 64 = .ok (.lushr, 1) := by decide +kernel
theorem d_Real_toLong_65 : decode b_Real_toLong 65 = .ok (.goto 10, 3) := by decide +kernel
theorem d_Real_toLong_68 : decode b_Real_toLong 68 = .ok (.aload_n 0, 1) := by decide +kernel
theorem d_Real_toLong_69 : decode b_Real_toLong 69 = .ok (.lload_n 1, 1) := by decide +kernel
theorem d_Real_toLong_70 : decode b_Real_toLong 70 = .ok (.invokevirtual 113, 3) := by decide +kernel
theorem d_Real_toLong_73 : decode b_Real_toLong 73 = .ok (.iload_n 3, 1) := by decide +kernel
theorem d_Real_toLong_74 : decode b_Real_toLong 74 = .ok (.lshl, 1) := by decide +kernel
theorem d_Real_toLong_75 : decode b_Real_toLong 75 = .ok (.lstore 4, 2) := by decide +kernel
theorem d_Real_toLong_77 : decode b_Real_toLong 77 = .ok (.aload_n 0, 1) := by decide +kernel
theorem d_Real_toLong_78 : decode b_Real_toLong 78 = .ok (.lload_n 1, 1) := by decide +kernel
theorem d_Real_toLong_79 : decode b_Real_toLong 79 = .ok (.invokevirtual 52, 3) := by decide +kernel
theorem d_Real_toLong_82 : decode b_Real_toLong 82 = .ok (.ifCond .eq 9, 3) := by decide +kernel
theorem d_Real_toLong_85 : decode b_Real_toLong 85 = .ok (.lload 4, 2) := by decide +kernel
theorem d_Real_toLong_87 : decode b_Real_toLong 87 = .ok (.lneg, 1) := by decide +kernel
theorem d_Real_toLong_88 : decode b_Real_toLong 88 = .ok (.goto 5, 3) := by decide +kernel
theorem d_Real_toLong_91 : decode b_Real_toLong 91 = .ok (.lload 4, 2) := by decide +kernel
theorem d_Real_toLong_93 : decode b_Real_toLong 93 = .ok (.lreturn, 1) := by decide +kernel
def F_Real_toLong (K0 : rK) (a1 : Int64) : Int64 := if (F_Real_isNan K0 a1) = 0 then (lt_ (F_Real_power K0 a1) fun x1 => if x1 ≤ ((62 : Int32) - K0.1) then (if (-64 : Int32) < x1 then (lt_ (if 0 ≤ x1 then (F_Real_significand K0 a1) <<< ((x1).toInt64 &&& 63) else ((F_Real_significand K0 a1).toUInt64 >>> ((-x1).toInt64.toUInt64 &&& Int64.toUInt64 63)).toInt64) fun x2 => lt_ (if (F_Real_isNegative K0 a1) = 0 then x2 else -x2) fun x3 => x3) else (0 : Int64)) else (lt_ (if (F_Real_isNegative K0 a1) = 0 then (9223372036854775807 : Int64) else (-9223372036854775808 : Int64)) fun x4 => x4)) else (0 : Int64)
set_option maxHeartbeats 4000000 in
set_option maxRecDepth 100000 in
theorem c_Real_toLong (l : Launch) (o0 : Nat) (K0 : rK) (a1 : Int64) : Met l y_Real_toLong (.code y_Real_toLong b_Real_toLong 6 (some .long) :: BIG) ({ frames := 2, cells := 0, slots := 0, locals := 45 } : Room) (va_Pc [.ref o0, .long a1] (pre1 o0 K0)) (pQ (.long (F_Real_toLong K0 a1))) 0 0 (fun _ => False) := by
  refine pOpen_l rfl (Nat.le_of_ble_eq_true rfl) ?_
  intro p e s m args below meth c Q ls hx hb hml hown hts hT hp hl hret
  obtain ⟨hNB, hRe_o0⟩ := hp
  have hown : s.vm.findClass R_Real = some m.cls := hown
  have hl : lv_has ls 6 [(0, .ref o0), (1, .long a1)] := hl
  obtain ⟨r, h⟩ : ∃ r, F_Real_toLong K0 a1 = r := ⟨_, rfl⟩
  rw [h] at hret
  have h : (if (F_Real_isNan K0 a1) = 0 then (lt_ (F_Real_power K0 a1) fun x1 => if x1 ≤ ((62 : Int32) - K0.1) then (if (-64 : Int32) < x1 then (lt_ (if 0 ≤ x1 then (F_Real_significand K0 a1) <<< ((x1).toInt64 &&& 63) else ((F_Real_significand K0 a1).toUInt64 >>> ((-x1).toInt64.toUInt64 &&& Int64.toUInt64 63)).toInt64) fun x2 => lt_ (if (F_Real_isNegative K0 a1) = 0 then x2 else -x2) fun x3 => x3) else (0 : Int64)) else (lt_ (if (F_Real_isNegative K0 a1) = 0 then (9223372036854775807 : Int64) else (-9223372036854775808 : Int64)) fun x4 => x4)) else (0 : Int64)) = r := h
  refine lv_aload_n hx hb d_Real_toLong_0 rfl (lv_at hl 0 rfl) ?_
  refine lv_lload_n hx hb d_Real_toLong_1 rfl (lv_at hl 1 rfl) ?_
  refine q_V (As := [.long a1]) (rest := []) (n := 1) hx hb hml hown hts (c_Real_isNan l o0 K0 a1) rfl rfl m_30 m_31 m_32 m_33 m_11 (by decide +kernel) ⟨Nat.le_of_ble_eq_true rfl, Nat.le_of_ble_eq_true rfl⟩ (rAt_rc hRe_o0) (p1_bl) (fun U hU hW => p1_mv hU hW hNB hRe_o0) rfl hl.1 rfl (Nat.le_of_ble_eq_true rfl) d_Real_toLong_2 ⟨Nat.zero_le _, Nat.zero_le _⟩ ?_
  refine lv_if_eq (tgt := 10) hx hb d_Real_toLong_5 rfl (fun hc => ?_) (fun hc => ?_)
  · have h := ite_t hc h
    refine lv_aload_n hx hb d_Real_toLong_10 rfl (lv_at hl 0 rfl) ?_
    refine lv_lload_n hx hb d_Real_toLong_11 rfl (lv_at hl 1 rfl) ?_
    refine q_V (As := [.long a1]) (rest := []) (n := 1) hx hb hml hown hts (c_Real_power l o0 K0 a1) rfl rfl m_58 m_59 m_60 m_61 m_11 (by decide +kernel) ⟨Nat.le_of_ble_eq_true rfl, Nat.le_of_ble_eq_true rfl⟩ (rAt_rc hRe_o0) (p1_bl) (fun U hU hW => p1_mv hU hW hNB hRe_o0) rfl hl.1 rfl (Nat.le_of_ble_eq_true rfl) d_Real_toLong_12 ⟨Nat.zero_le _, Nat.zero_le _⟩ ?_
    refine lv_topi (fun x1 e_x1 => ?_)
    have h := lt_h e_x1 h
    refine lv_istore_n hx hb d_Real_toLong_15 rfl hl (by decide) rfl (fun ls hl => ?_)
    have hl : lv_has ls 6 [(3, .int x1), (0, .ref o0), (1, .long a1)] := hl
    refine lv_iload_n hx hb d_Real_toLong_16 rfl (lv_at hl 0 rfl) ?_
    refine lv_bipush hx hb d_Real_toLong_17 bp_62 ?_
    refine lv_aload_n hx hb d_Real_toLong_19 rfl (lv_at hl 1 rfl) ?_
    refine vk_getf hx hb (hRe_o0.2.1) va_S.rf hown (hT _ m_5) (fun _ h9 => h9) d_Real_toLong_20 ?_
    refine lv_isub hx hb d_Real_toLong_23 ?_
    refine lv_icmp_le (tgt := 45) hx hb d_Real_toLong_24 rfl (fun hc => ?_) (fun hc => ?_)
    · have h := ite_t hc h
      refine lv_iload_n hx hb d_Real_toLong_45 rfl (lv_at hl 0 rfl) ?_
      refine lv_bipush hx hb d_Real_toLong_46 bp_m64 ?_
      refine lv_icmp_gt (tgt := 53) hx hb d_Real_toLong_48 rfl (fun hc => ?_) (fun hc => ?_)
      · have h := ite_t hc h
        refine lv_iload_n hx hb d_Real_toLong_53 rfl (lv_at hl 0 rfl) ?_
        obtain ⟨x2, e_x2, h⟩ := lt_o h
        have hJ75 : ∀ (x2' : Int64) (ls : Array Slot), x2 = x2' → lv_has ls 6 [(0, .ref o0), (1, .long a1)] → W p l e ({ frames := 2, cells := 0, slots := 0, locals := 45 } : Room) s m args below meth c s.heap [] 0 0 Q (F0 m 75 ls [.long x2']) := by
          intro x2' ls q_x2 hl
          subst q_x2
          refine lv_lstore hx hb d_Real_toLong_75 hl (by decide) rfl (fun ls hl => ?_)
          have hl : lv_has ls 6 [(4, .long x2), (0, .ref o0), (1, .long a1)] := hl
          refine lv_aload_n hx hb d_Real_toLong_77 rfl (lv_at hl 1 rfl) ?_
          refine lv_lload_n hx hb d_Real_toLong_78 rfl (lv_at hl 2 rfl) ?_
          refine q_V (As := [.long a1]) (rest := []) (n := 1) hx hb hml hown hts (c_Real_isNegative l o0 K0 a1) rfl rfl m_12 m_13 m_14 m_15 m_11 (by decide +kernel) ⟨Nat.le_of_ble_eq_true rfl, Nat.le_of_ble_eq_true rfl⟩ (rAt_rc hRe_o0) (p1_bl) (fun U hU hW => p1_mv hU hW hNB hRe_o0) rfl hl.1 rfl (Nat.le_of_ble_eq_true rfl) d_Real_toLong_79 ⟨Nat.zero_le _, Nat.zero_le _⟩ ?_
          obtain ⟨x3, e_x3, h⟩ := lt_o h
          have hJ93 : ∀ (x3' : Int64) (ls : Array Slot), x3 = x3' → lv_has ls 6 [] → W p l e ({ frames := 2, cells := 0, slots := 0, locals := 45 } : Room) s m args below meth c s.heap [] 0 0 Q (F0 m 93 ls [.long x3']) := by
            intro x3' ls q_x3 hl
            subst q_x3
            exact hret 93 ls _ h d_Real_toLong_93
          refine lv_if_eq (tgt := 91) hx hb d_Real_toLong_82 rfl (fun hc => ?_) (fun hc => ?_)
          · have e_x3 := e_x3.trans (if_pos hc)
            refine lv_lload hx hb d_Real_toLong_91 (lv_at hl 0 rfl) ?_
            exact hJ93 _ ls e_x3 (lv_sub hl [] rfl)
          · have e_x3 := e_x3.trans (if_neg hc)
            refine lv_lload hx hb d_Real_toLong_85 (lv_at hl 0 rfl) ?_
            refine lv_lneg hx hb d_Real_toLong_87 ?_
            refine lv_goto (tgt := 93) hx hb d_Real_toLong_88 rfl ?_
            exact hJ93 _ ls e_x3 (lv_sub hl [] rfl)
        refine lv_if_ge (tgt := 68) hx hb d_Real_toLong_54 rfl (fun hc => ?_) (fun hc => ?_)
        · have e_x2 := e_x2.trans (if_pos hc)
          refine lv_aload_n hx hb d_Real_toLong_68 rfl (lv_at hl 1 rfl) ?_
          refine lv_lload_n hx hb d_Real_toLong_69 rfl (lv_at hl 2 rfl) ?_
          refine q_V (As := [.long a1]) (rest := []) (n := 1) hx hb hml hown hts (c_Real_significand l o0 K0 a1) rfl rfl m_54 m_55 m_56 m_57 m_11 (by decide +kernel) ⟨Nat.le_of_ble_eq_true rfl, Nat.le_of_ble_eq_true rfl⟩ (rAt_rc hRe_o0) (p1_bl) (fun U hU hW => p1_mv hU hW hNB hRe_o0) rfl hl.1 rfl (Nat.le_of_ble_eq_true rfl) d_Real_toLong_70 ⟨Nat.zero_le _, Nat.zero_le _⟩ ?_
          refine lv_iload_n hx hb d_Real_toLong_73 rfl (lv_at hl 0 rfl) ?_
          refine lv_lshl hx hb d_Real_toLong_74 rfl ?_
          exact hJ75 _ ls e_x2 (lv_sub hl [1, 2] rfl)
        · have e_x2 := e_x2.trans (if_neg hc)
          refine lv_aload_n hx hb d_Real_toLong_57 rfl (lv_at hl 1 rfl) ?_
          refine lv_lload_n hx hb d_Real_toLong_58 rfl (lv_at hl 2 rfl) ?_
          refine q_V (As := [.long a1]) (rest := []) (n := 1) hx hb hml hown hts (c_Real_significand l o0 K0 a1) rfl rfl m_54 m_55 m_56 m_57 m_11 (by decide +kernel) ⟨Nat.le_of_ble_eq_true rfl, Nat.le_of_ble_eq_true rfl⟩ (rAt_rc hRe_o0) (p1_bl) (fun U hU hW => p1_mv hU hW hNB hRe_o0) rfl hl.1 rfl (Nat.le_of_ble_eq_true rfl) d_Real_toLong_59 ⟨Nat.zero_le _, Nat.zero_le _⟩ ?_
          refine lv_iload_n hx hb d_Real_toLong_62 rfl (lv_at hl 0 rfl) ?_
          refine lv_ineg hx hb d_Real_toLong_63 ?_
          refine lv_lushr hx hb d_Real_toLong_64 rfl ?_
          refine lv_goto (tgt := 75) hx hb d_Real_toLong_65 rfl ?_
          exact hJ75 _ ls e_x2 (lv_sub hl [1, 2] rfl)
      · have h := ite_f hc h
        refine lv_lconst hx hb d_Real_toLong_51 lc_0 ?_
        exact hret 52 ls _ h d_Real_toLong_52
    · have h := ite_f hc h
      refine lv_aload_n hx hb d_Real_toLong_27 rfl (lv_at hl 1 rfl) ?_
      refine lv_lload_n hx hb d_Real_toLong_28 rfl (lv_at hl 2 rfl) ?_
      refine q_V (As := [.long a1]) (rest := []) (n := 1) hx hb hml hown hts (c_Real_isNegative l o0 K0 a1) rfl rfl m_12 m_13 m_14 m_15 m_11 (by decide +kernel) ⟨Nat.le_of_ble_eq_true rfl, Nat.le_of_ble_eq_true rfl⟩ (rAt_rc hRe_o0) (p1_bl) (fun U hU hW => p1_mv hU hW hNB hRe_o0) rfl hl.1 rfl (Nat.le_of_ble_eq_true rfl) d_Real_toLong_29 ⟨Nat.zero_le _, Nat.zero_le _⟩ ?_
      obtain ⟨x4, e_x4, h⟩ := lt_o h
      have hJ44 : ∀ (x4' : Int64) (ls : Array Slot), x4 = x4' → lv_has ls 6 [] → W p l e ({ frames := 2, cells := 0, slots := 0, locals := 45 } : Room) s m args below meth c s.heap [] 0 0 Q (F0 m 44 ls [.long x4']) := by
        intro x4' ls q_x4 hl
        subst q_x4
        exact hret 44 ls _ h d_Real_toLong_44
      refine lv_if_eq (tgt := 41) hx hb d_Real_toLong_32 rfl (fun hc => ?_) (fun hc => ?_)
      · have e_x4 := e_x4.trans (if_pos hc)
        refine lv_ldc2 hx hb hown (hT _ m_105) d_Real_toLong_41 ?_
        exact hJ44 _ ls e_x4 (lv_sub hl [] rfl)
      · have e_x4 := e_x4.trans (if_neg hc)
        refine lv_ldc2 hx hb hown (hT _ m_103) d_Real_toLong_35 ?_
        refine lv_goto (tgt := 44) hx hb d_Real_toLong_38 rfl ?_
        exact hJ44 _ ls e_x4 (lv_sub hl [] rfl)
  · have h := ite_f hc h
    refine lv_lconst hx hb d_Real_toLong_8 lc_0 ?_
    exact hret 9 ls _ h d_Real_toLong_9
-- SD_nearer
theorem d_SD_nearer_0 : decode b_SD_nearer 0 = .ok (.lload_n 3, 1) := by decide +kernel
theorem d_SD_nearer_1 : decode b_SD_nearer 1 = .ok (.lload 5, 2) := by decide +kernel
theorem d_SD_nearer_3 : decode b_SD_nearer 3 = .ok (.ldc2_w 42, 3) := by decide +kernel
theorem d_SD_nearer_6 : decode b_SD_nearer 6 = .ok (.ldiv, 1) := by decide +kernel
theorem d_SD_nearer_7 : decode b_SD_nearer 7 = .ok (.ladd, 1) := by decide +kernel
theorem d_SD_nearer_8 : decode b_SD_nearer 8 = .ok (.lstore 7, 2) := by decide +kernel
theorem d_SD_nearer_10 : decode b_SD_nearer 10 = .ok (.lload_n 0, 1) := by decide +kernel
theorem d_SD_nearer_11 : decode b_SD_nearer 11 = .ok (.lload 7, 2) := by decide +kernel
theorem d_SD_nearer_13 : decode b_SD_nearer 13 = .ok (.lcmp, 1) := by decide +kernel
theorem d_SD_nearer_14 : decode b_SD_nearer 14 = .ok (.ifCond .lt 27, 3) := by decide +kernel
theorem d_SD_nearer_17 : decode b_SD_nearer 17 = .ok (.lload_n 0, 1) := by decide +kernel
theorem d_SD_nearer_18 : decode b_SD_nearer 18 = .ok (.lload 7, 2) := by decide +kernel
theorem d_SD_nearer_20 : decode b_SD_nearer 20 = .ok (.lcmp, 1) := by decide +kernel
theorem d_SD_nearer_21 : decode b_SD_nearer 21 = .ok (.ifCond .ne 24, 3) := by decide +kernel
theorem d_SD_nearer_24 : decode b_SD_nearer 24 = .ok (.iload_n 2, 1) := by decide +kernel
theorem d_SD_nearer_25 : decode b_SD_nearer 25 = .ok (.ifCond .eq 20, 3) := by decide +kernel
theorem d_SD_nearer_28 : decode b_SD_nearer 28 = .ok (.lload_n 3, 1) := by decide +kernel
theorem d_SD_nearer_29 : decode b_SD_nearer 29 = .ok (.lload 5, 2) := by decide +kernel
theorem d_SD_nearer_31 : decode b_SD_nearer 31 = .ok (.ldiv, 1) := by decide +kernel
theorem d_SD_nearer_32 : decode b_SD_nearer 32 = .ok (.ldc2_w 42, 3) := by decide +kernel
theorem d_SD_nearer_35 : decode b_SD_nearer 35 = .ok (.lrem, 1) := by decide +kernel
theorem d_SD_nearer_36 : decode b_SD_nearer 36 = .ok (.lconst 0, 1) := by decide +kernel
theorem d_SD_nearer_37 : decode b_SD_nearer 37 = .ok (.lcmp, 1) := by decide +kernel
theorem d_SD_nearer_38 : decode b_SD_nearer 38 = .ok (.ifCond .ne 7, 3) := by decide +kernel
theorem d_SD_nearer_41 : decode b_SD_nearer 41 = .ok (.iconst 1, 1) := by decide +kernel
theorem d_SD_nearer_42 : decode b_SD_nearer 42 = .ok (.goto 4, 3) := by decide +kernel
theorem d_SD_nearer_45 : decode b_SD_nearer 45 = .ok (.iconst 0, 1) := by decide +kernel
theorem d_SD_nearer_46 : decode b_SD_nearer 46 = .ok (.istore 9, 2) := by decide +kernel
theorem d_SD_nearer_48 : decode b_SD_nearer 48 = .ok (.iload 9, 2) := by decide +kernel
theorem d_SD_nearer_50 : decode b_SD_nearer 50 = .ok (.ifCond .eq 7, 3) := by decide +kernel
theorem d_SD_nearer_53 : decode b_SD_nearer 53 = .ok (.lload_n 3, 1) := by decide +kernel
theorem d_SD_nearer_54 : decode b_SD_nearer 54 = .ok (.goto 7, 3) := by decide +kernel
theorem d_SD_nearer_57 : decode b_SD_nearer 57 = .ok (.lload_n 3, 1) := by decide +kernel
theorem d_SD_nearer_58 : decode b_SD_nearer 58 = .ok (.lload 5, 2) := by decide +kernel
theorem d_SD_nearer_60 : decode b_SD_nearer 60 = .ok (.ladd, 1) := by decide +kernel
theorem d_SD_nearer_61 : decode b_SD_nearer 61 = .ok (.lreturn, 1) := by decide +kernel
def F_SD_nearer (n : Nat) (a0 : Int64) (a1 : Int32) (a2 : Int64) (a3 : Int64) : Option (Int64) := lt_ (a2 + (a3 / (2 : Int64))) fun x1 => lt_ (fun (y2 : Int32) => lt_ (if y2 = 0 then a2 + a3 else a2) fun x3 => some x3) fun j46 => lt_ (fun (_ : Unit) => j46 (1 : Int32)) fun j41 => if a0 < x1 then (j41 ()) else (lt_ (fun (_ : Unit) => j46 (0 : Int32)) fun j45 => if ¬ a0 = x1 then (j45 ()) else (if a1 = 0 then (j45 ()) else (gz_ (a3 = 0) <| if ¬ ((a2 / a3) - (a2 / a3) / (2 : Int64) * (2 : Int64)) = (0 : Int64) then (j45 ()) else (j41 ()))))
set_option maxHeartbeats 4000000 in
set_option maxRecDepth 100000 in
theorem c_SD_nearer (l : Launch) (n : Nat) (a0 : Int64) (a1 : Int32) (a2 : Int64) (a3 : Int64) (r : Int64) (h : F_SD_nearer n a0 a1 a2 a3 = some r) : Met l y_SD_nearer (.code y_SD_nearer b_SD_nearer 10 (some .long) :: BIG) ({ frames := 0, cells := 0, slots := 0, locals := 0 } : Room) (va_Pc [.long a0, .int a1, .long a2, .long a3] (pre0)) (pQ (.long r)) 0 0 (fun _ => False) := by
  refine pOpen_l rfl (Nat.le_of_ble_eq_true rfl) ?_
  intro p e s m args below meth c Q ls hx hb hml hown hts hT hp hl hret
  have hNB := hp
  have hown : s.vm.findClass R_SD = some m.cls := hown
  have hl : lv_has ls 10 [(0, .long a0), (2, .int a1), (3, .long a2), (5, .long a3)] := hl
  have h : (lt_ (a2 + (a3 / (2 : Int64))) fun x1 => lt_ (fun (y2 : Int32) => lt_ (if y2 = 0 then a2 + a3 else a2) fun x3 => some x3) fun j46 => lt_ (fun (_ : Unit) => j46 (1 : Int32)) fun j41 => if a0 < x1 then (j41 ()) else (lt_ (fun (_ : Unit) => j46 (0 : Int32)) fun j45 => if ¬ a0 = x1 then (j45 ()) else (if a1 = 0 then (j45 ()) else (gz_ (a3 = 0) <| if ¬ ((a2 / a3) - (a2 / a3) / (2 : Int64) * (2 : Int64)) = (0 : Int64) then (j45 ()) else (j41 ()))))) = some r := h
  refine lv_lload_n hx hb d_SD_nearer_0 rfl (lv_at hl 2 rfl) ?_
  refine lv_lload hx hb d_SD_nearer_1 (lv_at hl 3 rfl) ?_
  refine lv_ldc2 hx hb hown (hT _ m_106) d_SD_nearer_3 ?_
  refine lv_ldiv hx hb d_SD_nearer_6 (by decide) ?_
  refine lv_ladd hx hb d_SD_nearer_7 ?_
  refine lv_topl (fun x1 e_x1 => ?_)
  have h := lt_h e_x1 h
  refine lv_lstore hx hb d_SD_nearer_8 hl (by decide) rfl (fun ls hl => ?_)
  have hl : lv_has ls 10 [(7, .long x1), (0, .long a0), (2, .int a1), (3, .long a2), (5, .long a3)] := hl
  refine lv_lload_n hx hb d_SD_nearer_10 rfl (lv_at hl 1 rfl) ?_
  refine lv_lload hx hb d_SD_nearer_11 (lv_at hl 0 rfl) ?_
  refine W.lcmp hx hb d_SD_nearer_13 ?_
  obtain ⟨j46, e_j46, h⟩ := lt_o h
  have hJ46 : ∀ (y2 : Int32) (ls : Array Slot), lv_has ls 10 [(3, .long a2), (5, .long a3)] → j46 y2 = some r → W p l e ({ frames := 0, cells := 0, slots := 0, locals := 0 } : Room) s m args below meth c s.heap [] 0 0 Q (F0 m 46 ls [.int y2]) := by
    intro y2 ls hl h
    rw [e_j46] at h
    refine lv_istore hx hb d_SD_nearer_46 hl (by decide) rfl (fun ls hl => ?_)
    have hl : lv_has ls 10 [(9, .int y2), (3, .long a2), (5, .long a3)] := hl
    refine lv_iload hx hb d_SD_nearer_48 (lv_at hl 0 rfl) ?_
    obtain ⟨x3, e_x3, h⟩ := lt_o h
    have hJ61 : ∀ (x3' : Int64) (ls : Array Slot), x3 = x3' → lv_has ls 10 [] → W p l e ({ frames := 0, cells := 0, slots := 0, locals := 0 } : Room) s m args below meth c s.heap [] 0 0 Q (F0 m 61 ls [.long x3']) := by
      intro x3' ls q_x3 hl
      subst q_x3
      exact hret 61 ls _ (Option.some.inj h) d_SD_nearer_61
    refine lv_if_eq (tgt := 57) hx hb d_SD_nearer_50 rfl (fun hc => ?_) (fun hc => ?_)
    · have e_x3 := e_x3.trans (if_pos hc)
      refine lv_lload_n hx hb d_SD_nearer_57 rfl (lv_at hl 1 rfl) ?_
      refine lv_lload hx hb d_SD_nearer_58 (lv_at hl 2 rfl) ?_
      refine lv_ladd hx hb d_SD_nearer_60 ?_
      exact hJ61 _ ls e_x3 (lv_sub hl [] rfl)
    · have e_x3 := e_x3.trans (if_neg hc)
      refine lv_lload_n hx hb d_SD_nearer_53 rfl (lv_at hl 1 rfl) ?_
      refine lv_goto (tgt := 61) hx hb d_SD_nearer_54 rfl ?_
      exact hJ61 _ ls e_x3 (lv_sub hl [] rfl)
  obtain ⟨j41, e_j41, h⟩ := lt_o h
  have hJ41 : ∀ (ls : Array Slot), lv_has ls 10 [(3, .long a2), (5, .long a3)] → j41 () = some r → W p l e ({ frames := 0, cells := 0, slots := 0, locals := 0 } : Room) s m args below meth c s.heap [] 0 0 Q (F0 m 41 ls []) := by
    intro  ls hl h
    rw [e_j41] at h
    refine lv_iconst hx hb d_SD_nearer_41 ic_1 ?_
    refine lv_goto (tgt := 46) hx hb d_SD_nearer_42 rfl ?_
    exact hJ46 _ ls (lv_sub hl [0, 1] rfl) h
  refine lv_if_lt (tgt := 41) hx hb d_SD_nearer_14 rfl (fun hc => ?_) (fun hc => ?_)
  · have hc := (lg_cmp_lt _ _).mp hc
    have h := ite_t hc h
    exact hJ41 ls (lv_sub hl [3, 4] rfl) h
  · have hc := mt (lg_cmp_lt _ _).mpr hc
    have h := ite_f hc h
    refine lv_lload_n hx hb d_SD_nearer_17 rfl (lv_at hl 1 rfl) ?_
    refine lv_lload hx hb d_SD_nearer_18 (lv_at hl 0 rfl) ?_
    refine W.lcmp hx hb d_SD_nearer_20 ?_
    obtain ⟨j45, e_j45, h⟩ := lt_o h
    have hJ45 : ∀ (ls : Array Slot), lv_has ls 10 [(3, .long a2), (5, .long a3)] → j45 () = some r → W p l e ({ frames := 0, cells := 0, slots := 0, locals := 0 } : Room) s m args below meth c s.heap [] 0 0 Q (F0 m 45 ls []) := by
      intro  ls hl h
      rw [e_j45] at h
      refine lv_iconst hx hb d_SD_nearer_45 ic_0 ?_
      exact hJ46 _ ls (lv_sub hl [0, 1] rfl) h
    refine lv_if_ne (tgt := 45) hx hb d_SD_nearer_21 rfl (fun hc => ?_) (fun hc => ?_)
    · have hc := mt (lg_cmp_eq _ _).mpr hc
      have h := ite_t hc h
      exact hJ45 ls (lv_sub hl [3, 4] rfl) h
    · have hc := not_not_intro ((lg_cmp_eq _ _).mp hc)
      have h := ite_f hc h
      refine lv_iload_n hx hb d_SD_nearer_24 rfl (lv_at hl 2 rfl) ?_
      refine lv_if_eq (tgt := 45) hx hb d_SD_nearer_25 rfl (fun hc => ?_) (fun hc => ?_)
      · have h := ite_t hc h
        exact hJ45 ls (lv_sub hl [3, 4] rfl) h
      · have h := ite_f hc h
        refine lv_lload_n hx hb d_SD_nearer_28 rfl (lv_at hl 3 rfl) ?_
        refine lv_lload hx hb d_SD_nearer_29 (lv_at hl 4 rfl) ?_
        have hz := gz_n h
        have h := gz_h h
        refine lv_ldiv hx hb d_SD_nearer_31 hz ?_
        refine lv_ldc2 hx hb hown (hT _ m_106) d_SD_nearer_32 ?_
        refine lv_lrem hx hb d_SD_nearer_35 (by decide) ?_
        refine lv_lconst hx hb d_SD_nearer_36 lc_0 ?_
        refine W.lcmp hx hb d_SD_nearer_37 ?_
        refine lv_if_ne (tgt := 45) hx hb d_SD_nearer_38 rfl (fun hc => ?_) (fun hc => ?_)
        · have hc := mt (lg_cmp_eq _ _).mpr hc
          have h := ite_t hc h
          exact hJ45 ls (lv_sub hl [3, 4] rfl) h
        · have hc := not_not_intro ((lg_cmp_eq _ _).mp hc)
          have h := ite_f hc h
          exact hJ41 ls (lv_sub hl [3, 4] rfl) h
