-- Real_nearest
theorem d_Real_nearest_0 : decode b_Real_nearest 0 = .ok (.lload_n 0, 1) := by decide +kernel
theorem d_Real_nearest_1 : decode b_Real_nearest 1 = .ok (.iload_n 2, 1) := by decide +kernel
theorem d_Real_nearest_2 : decode b_Real_nearest 2 = .ok (.lushr, 1) := by decide +kernel
theorem d_Real_nearest_3 : decode b_Real_nearest 3 = .ok (.lstore_n 3, 1) := by decide +kernel
theorem d_Real_nearest_4 : decode b_Real_nearest 4 = .ok (.lload_n 0, 1) := by decide +kernel
theorem d_Real_nearest_5 : decode b_Real_nearest 5 = .ok (.lconst 1, 1) := by decide +kernel
theorem d_Real_nearest_6 : decode b_Real_nearest 6 = .ok (.iload_n 2, 1) := by decide +kernel
theorem d_Real_nearest_7 : decode b_Real_nearest 7 = .ok (.lshl, 1) := by decide +kernel
theorem d_Real_nearest_8 : decode b_Real_nearest 8 = .ok (.lconst 1, 1) := by decide +kernel
theorem d_Real_nearest_9 : decode b_Real_nearest 9 = .ok (.lsub, 1) := by decide +kernel
theorem d_Real_nearest_10 : decode b_Real_nearest 10 = .ok (.land, 1) := by decide +kernel
theorem d_Real_nearest_11 : decode b_Real_nearest 11 = .ok (.lstore 5, 2) := by decide +kernel
theorem d_Real_nearest_13 : decode b_Real_nearest 13 = .ok (.lconst 1, 1) := by decide +kernel
theorem d_Real_nearest_14 : decode b_Real_nearest 14 = .ok (.iload_n 2, 1) := by decide +kernel
theorem d_Real_nearest_15 : decode b_Real_nearest 15 = .ok (.iconst 1, 1) := by decide +kernel
theorem d_Real_nearest_16 : decode b_Real_nearest 16 = .ok (.isub, 1) := by decide +kernel
theorem d_Real_nearest_17 : decode b_Real_nearest 17 = .ok (.lshl, 1) := by decide +kernel
theorem d_Real_nearest_18 : decode b_Real_nearest 18 = .ok (.lstore 7, 2) := by decide +kernel
theorem d_Real_nearest_20 : decode b_Real_nearest 20 = .ok (.lload 5, 2) := by decide +kernel
theorem d_Real_nearest_22 : decode b_Real_nearest 22 = .ok (.lload 7, 2) := by decide +kernel
theorem d_Real_nearest_24 : decode b_Real_nearest 24 = .ok (.lcmp, 1) := by decide +kernel
theorem d_Real_nearest_25 : decode b_Real_nearest 25 = .ok (.ifCond .gt 19, 3) := by decide +kernel
theorem d_Real_nearest_28 : decode b_Real_nearest 28 = .ok (.lload 5, 2) := by decide +kernel
theorem d_Real_nearest_30 : decode b_Real_nearest 30 = .ok (.lload 7, 2) := by decide +kernel
theorem d_Real_nearest_32 : decode b_Real_nearest 32 = .ok (.lcmp, 1) := by decide +kernel
theorem d_Real_nearest_33 : decode b_Real_nearest 33 = .ok (.ifCond .ne 15, 3) := by decide +kernel
theorem d_Real_nearest_36 : decode b_Real_nearest 36 = .ok (.lload_n 3, 1) := by decide +kernel
theorem d_Real_nearest_37 : decode b_Real_nearest 37 = .ok (.lconst 1, 1) := by decide +kernel
theorem d_Real_nearest_38 : decode b_Real_nearest 38 = .ok (.land, 1) := by decide +kernel
theorem d_Real_nearest_39 : decode b_Real_nearest 39 = .ok (.lconst 1, 1) := by decide +kernel
theorem d_Real_nearest_40 : decode b_Real_nearest 40 = .ok (.lcmp, 1) := by decide +kernel
theorem d_Real_nearest_41 : decode b_Real_nearest 41 = .ok (.ifCond .ne 7, 3) := by decide +kernel
theorem d_Real_nearest_44 : decode b_Real_nearest 44 = .ok (.iconst 1, 1) := by decide +kernel
theorem d_Real_nearest_45 : decode b_Real_nearest 45 = .ok (.goto 4, 3) := by decide +kernel
theorem d_Real_nearest_48 : decode b_Real_nearest 48 = .ok (.iconst 0, 1) := by decide +kernel
theorem d_Real_nearest_49 : decode b_Real_nearest 49 = .ok (.istore 9, 2) := by decide +kernel
theorem d_Real_nearest_51 : decode b_Real_nearest 51 = .ok (.iload 9, 2) := by decide +kernel
theorem d_Real_nearest_53 : decode b_Real_nearest 53 = .ok (.ifCond .eq 9, 3) := by decide +kernel
theorem d_Real_nearest_56 : decode b_Real_nearest 56 = .ok (.lload_n 3, 1) := by decide +kernel
theorem d_Real_nearest_57 : decode b_Real_nearest 57 = .ok (.lconst 1, 1) := by decide +kernel
theorem d_Real_nearest_58 : decode b_Real_nearest 58 = .ok (.ladd, 1) := by decide +kernel
theorem d_Real_nearest_59 : decode b_Real_nearest 59 = .ok (.goto 4, 3) := by decide +kernel
theorem d_Real_nearest_62 : decode b_Real_nearest 62 = .ok (.lload_n 3, 1) := by decide +kernel
theorem d_Real_nearest_63 : decode b_Real_nearest 63 = .ok (.lreturn, 1) := by decide +kernel
def F_Real_nearest (a0 : Int64) (a1 : Int32) : Int64 := lt_ (((a0).toUInt64 >>> ((a1).toInt64.toUInt64 &&& Int64.toUInt64 63)).toInt64) fun x1 => lt_ (a0 &&& (((1 : Int64) <<< ((a1).toInt64 &&& 63)) - (1 : Int64))) fun x2 => lt_ ((1 : Int64) <<< ((a1 - (1 : Int32)).toInt64 &&& 63)) fun x3 => lt_ (if x3 < x2 then (1 : Int32) else if ¬ x2 = x3 then (0 : Int32) else if ¬ (x1 &&& (1 : Int64)) = (1 : Int64) then (0 : Int32) else (1 : Int32)) fun x4 => lt_ (if x4 = 0 then x1 else x1 + (1 : Int64)) fun x5 => x5
set_option maxHeartbeats 4000000 in
set_option maxRecDepth 100000 in
theorem c_Real_nearest (l : Launch) (a0 : Int64) (a1 : Int32) : Met l y_Real_nearest (.code y_Real_nearest b_Real_nearest 10 (some .long) :: BIG) ({ frames := 0, cells := 0, slots := 0, locals := 0 } : Room) (va_Pc [.long a0, .int a1] (pre0)) (pQ (.long (F_Real_nearest a0 a1))) 0 0 (fun _ => False) := by
  refine pOpen_l rfl (Nat.le_of_ble_eq_true rfl) ?_
  intro p e s m args below meth c Q ls hx hb hml hown hts hT hp hl hret
  have hNB := hp
  have hown : s.vm.findClass R_Real = some m.cls := hown
  have hl : lv_has ls 10 [(0, .long a0), (2, .int a1)] := hl
  obtain ⟨r, h⟩ : ∃ r, F_Real_nearest a0 a1 = r := ⟨_, rfl⟩
  rw [h] at hret
  have h : (lt_ (((a0).toUInt64 >>> ((a1).toInt64.toUInt64 &&& Int64.toUInt64 63)).toInt64) fun x1 => lt_ (a0 &&& (((1 : Int64) <<< ((a1).toInt64 &&& 63)) - (1 : Int64))) fun x2 => lt_ ((1 : Int64) <<< ((a1 - (1 : Int32)).toInt64 &&& 63)) fun x3 => lt_ (if x3 < x2 then (1 : Int32) else if ¬ x2 = x3 then (0 : Int32) else if ¬ (x1 &&& (1 : Int64)) = (1 : Int64) then (0 : Int32) else (1 : Int32)) fun x4 => lt_ (if x4 = 0 then x1 else x1 + (1 : Int64)) fun x5 => x5) = r := h
  refine lv_lload_n hx hb d_Real_nearest_0 rfl (lv_at hl 0 rfl) ?_
  refine lv_iload_n hx hb d_Real_nearest_1 rfl (lv_at hl 1 rfl) ?_
  refine lv_lushr hx hb d_Real_nearest_2 rfl ?_
  refine lv_topl (fun x1 e_x1 => ?_)
  have h := lt_h e_x1 h
  refine lv_lstore_n hx hb d_Real_nearest_3 rfl hl (by decide) rfl (fun ls hl => ?_)
  have hl : lv_has ls 10 [(3, .long x1), (0, .long a0), (2, .int a1)] := hl
  refine lv_lload_n hx hb d_Real_nearest_4 rfl (lv_at hl 1 rfl) ?_
  refine lv_lconst hx hb d_Real_nearest_5 lc_1 ?_
  refine lv_iload_n hx hb d_Real_nearest_6 rfl (lv_at hl 2 rfl) ?_
  refine lv_lshl hx hb d_Real_nearest_7 rfl ?_
  refine lv_lconst hx hb d_Real_nearest_8 lc_1 ?_
  refine lv_lsub hx hb d_Real_nearest_9 ?_
  refine lv_land hx hb d_Real_nearest_10 ?_
  refine lv_topl (fun x2 e_x2 => ?_)
  have h := lt_h e_x2 h
  refine lv_lstore hx hb d_Real_nearest_11 hl (by decide) rfl (fun ls hl => ?_)
  have hl : lv_has ls 10 [(5, .long x2), (3, .long x1), (0, .long a0), (2, .int a1)] := hl
  refine lv_lconst hx hb d_Real_nearest_13 lc_1 ?_
  refine lv_iload_n hx hb d_Real_nearest_14 rfl (lv_at hl 3 rfl) ?_
  refine lv_iconst hx hb d_Real_nearest_15 ic_1 ?_
  refine lv_isub hx hb d_Real_nearest_16 ?_
  refine lv_lshl hx hb d_Real_nearest_17 rfl ?_
  refine lv_topl (fun x3 e_x3 => ?_)
  have h := lt_h e_x3 h
  refine lv_lstore hx hb d_Real_nearest_18 hl (by decide) rfl (fun ls hl => ?_)
  have hl : lv_has ls 10 [(7, .long x3), (5, .long x2), (3, .long x1), (0, .long a0), (2, .int a1)] := hl
  refine lv_lload hx hb d_Real_nearest_20 (lv_at hl 1 rfl) ?_
  refine lv_lload hx hb d_Real_nearest_22 (lv_at hl 0 rfl) ?_
  refine W.lcmp hx hb d_Real_nearest_24 ?_
  obtain ⟨x4, e_x4, h⟩ := lt_o h
  have hJ49 : ∀ (x4' : Int32) (ls : Array Slot), x4 = x4' → lv_has ls 10 [(3, .long x1)] → W p l e ({ frames := 0, cells := 0, slots := 0, locals := 0 } : Room) s m args below meth c s.heap [] 0 0 Q (F0 m 49 ls [.int x4']) := by
    intro x4' ls q_x4 hl
    subst q_x4
    refine lv_istore hx hb d_Real_nearest_49 hl (by decide) rfl (fun ls hl => ?_)
    have hl : lv_has ls 10 [(9, .int x4), (3, .long x1)] := hl
    refine lv_iload hx hb d_Real_nearest_51 (lv_at hl 0 rfl) ?_
    obtain ⟨x5, e_x5, h⟩ := lt_o h
    have hJ63 : ∀ (x5' : Int64) (ls : Array Slot), x5 = x5' → lv_has ls 10 [] → W p l e ({ frames := 0, cells := 0, slots := 0, locals := 0 } : Room) s m args below meth c s.heap [] 0 0 Q (F0 m 63 ls [.long x5']) := by
      intro x5' ls q_x5 hl
      subst q_x5
      exact hret 63 ls _ h d_Real_nearest_63
    refine lv_if_eq (tgt := 62) hx hb d_Real_nearest_53 rfl (fun hc => ?_) (fun hc => ?_)
    · have e_x5 := e_x5.trans (if_pos hc)
      refine lv_lload_n hx hb d_Real_nearest_62 rfl (lv_at hl 1 rfl) ?_
      exact hJ63 _ ls e_x5 (lv_sub hl [] rfl)
    · have e_x5 := e_x5.trans (if_neg hc)
      refine lv_lload_n hx hb d_Real_nearest_56 rfl (lv_at hl 1 rfl) ?_
      refine lv_lconst hx hb d_Real_nearest_57 lc_1 ?_
      refine lv_ladd hx hb d_Real_nearest_58 ?_
      refine lv_goto (tgt := 63) hx hb d_Real_nearest_59 rfl ?_
      exact hJ63 _ ls e_x5 (lv_sub hl [] rfl)
  refine lv_if_gt (tgt := 44) hx hb d_Real_nearest_25 rfl (fun hc => ?_) (fun hc => ?_)
  · have hc := (lg_cmp_gt _ _).mp hc
    have e_x4 := e_x4.trans (if_pos hc)
    refine lv_iconst hx hb d_Real_nearest_44 ic_1 ?_
    refine lv_goto (tgt := 49) hx hb d_Real_nearest_45 rfl ?_
    exact hJ49 _ ls e_x4 (lv_sub hl [2] rfl)
  · have hc := mt (lg_cmp_gt _ _).mpr hc
    have e_x4 := e_x4.trans (if_neg hc)
    refine lv_lload hx hb d_Real_nearest_28 (lv_at hl 1 rfl) ?_
    refine lv_lload hx hb d_Real_nearest_30 (lv_at hl 0 rfl) ?_
    refine W.lcmp hx hb d_Real_nearest_32 ?_
    refine lv_if_ne (tgt := 48) hx hb d_Real_nearest_33 rfl (fun hc => ?_) (fun hc => ?_)
    · have hc := mt (lg_cmp_eq _ _).mpr hc
      have e_x4 := e_x4.trans (if_pos hc)
      refine lv_iconst hx hb d_Real_nearest_48 ic_0 ?_
      exact hJ49 _ ls e_x4 (lv_sub hl [2] rfl)
    · have hc := not_not_intro ((lg_cmp_eq _ _).mp hc)
      have e_x4 := e_x4.trans (if_neg hc)
      refine lv_lload_n hx hb d_Real_nearest_36 rfl (lv_at hl 2 rfl) ?_
      refine lv_lconst hx hb d_Real_nearest_37 lc_1 ?_
      refine lv_land hx hb d_Real_nearest_38 ?_
      refine lv_lconst hx hb d_Real_nearest_39 lc_1 ?_
      refine W.lcmp hx hb d_Real_nearest_40 ?_
      refine lv_if_ne (tgt := 48) hx hb d_Real_nearest_41 rfl (fun hc => ?_) (fun hc => ?_)
      · have hc := mt (lg_cmp_eq _ _).mpr hc
        have e_x4 := e_x4.trans (if_pos hc)
        refine lv_iconst hx hb d_Real_nearest_48 ic_0 ?_
        exact hJ49 _ ls e_x4 (lv_sub hl [2] rfl)
      · have hc := not_not_intro ((lg_cmp_eq _ _).mp hc)
        have e_x4 := e_x4.trans (if_neg hc)
        refine lv_iconst hx hb d_Real_nearest_44 ic_1 ?_
        refine lv_goto (tgt := 49) hx hb d_Real_nearest_45 rfl ?_
        exact hJ49 _ ls e_x4 (lv_sub hl [2] rfl)
-- Real_rounded
theorem d_Real_rounded_0 : decode b_Real_rounded 0 = .ok (.lload_n 3, 1) := by decide +kernel
theorem d_Real_rounded_1 : decode b_Real_rounded 1 = .ok (.lconst 0, 1) := by decide +kernel
theorem d_Real_rounded_2 : decode b_Real_rounded 2 = .ok (.lcmp, 1) := by decide +kernel
theorem d_Real_rounded_3 : decode b_Real_rounded 3 = .ok (.ifCond .ne 10, 3) := by decide +kernel
theorem d_Real_rounded_6 : decode b_Real_rounded 6 = .ok (.aload_n 0, 1) := by decide +kernel
theorem d_Real_rounded_7 : decode b_Real_rounded 7 = .ok (.iload_n 1, 1) := by decide +kernel
theorem d_Real_rounded_8 : decode b_Real_rounded 8 = .ok (.lconst 0, 1) := by decide +kernel
theorem d_Real_rounded_9 : decode b_Real_rounded 9 = .ok (.invokevirtual 76, 3) := by decide +kernel
theorem d_Real_rounded_12 : decode b_Real_rounded 12 = .ok (.lreturn, 1) := by decide +kernel
theorem d_Real_rounded_13 : decode b_Real_rounded 13 = .ok (.lload_n 3, 1) := by decide +kernel
theorem d_Real_rounded_14 : decode b_Real_rounded 14 = .ok (.invokestatic 135, 3) := by decide +kernel
theorem d_Real_rounded_17 : decode b_Real_rounded 17 = .ok (.iconst 1, 1) := by decide +kernel
theorem d_Real_rounded_18 : decode b_Real_rounded 18 = .ok (.isub, 1) := by decide +kernel
theorem d_Real_rounded_19 : decode b_Real_rounded 19 = .ok (.istore 5, 2) := by decide +kernel
theorem d_Real_rounded_21 : decode b_Real_rounded 21 = .ok (.lload_n 3, 1) := by decide +kernel
theorem d_Real_rounded_22 : decode b_Real_rounded 22 = .ok (.iload 5, 2) := by decide +kernel
theorem d_Real_rounded_24 : decode b_Real_rounded 24 = .ok (.lshl, 1) := by decide +kernel
theorem d_Real_rounded_25 : decode b_Real_rounded 25 = .ok (.lstore 6, 2) := by decide +kernel
theorem d_Real_rounded_27 : decode b_Real_rounded 27 = .ok (.bipush 62, 2) := by decide +kernel
theorem d_Real_rounded_29 : decode b_Real_rounded 29 = .ok (.aload_n 0, 1) := by decide +kernel
theorem d_Real_rounded_30 : decode b_Real_rounded 30 = .ok (.getfield 31, 3) := by decide +kernel
theorem d_Real_rounded_33 : decode b_Real_rounded 33 = .ok (.isub, 1) := by decide +kernel
theorem d_Real_rounded_34 : decode b_Real_rounded 34 = .ok (.istore 8, 2) := by decide +kernel
theorem d_Real_rounded_36 : decode b_Real_rounded 36 = .ok (.iload_n 2, 1) := by decide +kernel
theorem d_Real_rounded_37 : decode b_Real_rounded 37 = .ok (.iload 5, 2) := by decide +kernel
theorem d_Real_rounded_39 : decode b_Real_rounded 39 = .ok (.isub, 1) := by decide +kernel
theorem d_Real_rounded_40 : decode b_Real_rounded 40 = .ok (.iload 8, 2) := by decide +kernel
theorem d_Real_rounded_42 : decode b_Real_rounded 42 = .ok (.iadd, 1) := by decide +kernel
theorem d_Real_rounded_43 : decode b_Real_rounded 43 = .ok (.aload_n 0, 1) := by decide +kernel
theorem d_Real_rounded_44 : decode b_Real_rounded 44 = .ok (.getfield 38, 3) := by decide +kernel
theorem d_Real_rounded_47 : decode b_Real_rounded 47 = .ok (.isub, 1) := by decide +kernel
theorem d_Real_rounded_48 : decode b_Real_rounded 48 = .ok (.iconst 1, 1) := by decide +kernel
theorem d_Real_rounded_49 : decode b_Real_rounded 49 = .ok (.iadd, 1) := by decide +kernel
theorem d_Real_rounded_50 : decode b_Real_rounded 50 = .ok (.istore 9, 2) := by decide +kernel
theorem d_Real_rounded_52 : decode b_Real_rounded 52 = .ok (.iload 9, 2) := by decide +kernel
theorem d_Real_rounded_54 : decode b_Real_rounded 54 = .ok (.aload_n 0, 1) := by decide +kernel
theorem d_Real_rounded_55 : decode b_Real_rounded 55 = .ok (.getfield 35, 3) := by decide +kernel
theorem d_Real_rounded_58 : decode b_Real_rounded 58 = .ok (.if_icmp .lt 13, 3) := by decide +kernel
theorem d_Real_rounded_61 : decode b_Real_rounded 61 = .ok (.aload_n 0, 1) := by decide +kernel
theorem d_Real_rounded_62 : decode b_Real_rounded 62 = .ok (.iload_n 1, 1) := by decide +kernel
theorem d_Real_rounded_63 : decode b_Real_rounded 63 = .ok (.aload_n 0, 1) := by decide +kernel
theorem d_Real_rounded_64 : decode b_Real_rounded 64 = .ok (.getfield 45, 3) := by decide +kernel
theorem d_Real_rounded_67 : decode b_Real_rounded 67 = .ok (.invokevirtual 76, 3) := by decide +kernel
theorem d_Real_rounded_70 : decode b_Real_rounded 70 = .ok (.lreturn, 1) := by decide +kernel
theorem d_Real_rounded_71 : decode b_Real_rounded 71 = .ok (.iload 9, 2) := by decide +kernel
theorem d_Real_rounded_73 : decode b_Real_rounded 73 = .ok (.iconst 1, 1) := by decide +kernel
theorem d_Real_rounded_74 : decode b_Real_rounded 74 = .ok (.if_icmp .ge 13, 3) := by decide +kernel
theorem d_Real_rounded_77 : decode b_Real_rounded 77 = .ok (.iload 8, 2) := by decide +kernel
theorem d_Real_rounded_79 : decode b_Real_rounded 79 = .ok (.iconst 1, 1) := by decide +kernel
theorem d_Real_rounded_80 : decode b_Real_rounded 80 = .ok (.iadd, 1) := by decide +kernel
theorem d_Real_rounded_81 : decode b_Real_rounded 81 = .ok (.iload 9, 2) := by decide +kernel
theorem d_Real_rounded_83 : decode b_Real_rounded 83 = .ok (.isub, 1) := by decide +kernel
theorem d_Real_rounded_84 : decode b_Real_rounded 84 = .ok (.goto 5, 3) := by decide +kernel
theorem d_Real_rounded_87 : decode b_Real_rounded 87 = .ok (.iload 8, 2) := by decide +kernel
theorem d_Real_rounded_89 : decode b_Real_rounded 89 = .ok (.istore 10, 2) := by decide +kernel
theorem d_Real_rounded_91 : decode b_Real_rounded 91 = .ok (.iload 10, 2) := by decide +kernel
theorem d_Real_rounded_93 : decode b_Real_rounded 93 = .ok (.bipush 63, 2) := by decide +kernel
theorem d_Real_rounded_95 : decode b_Real_rounded 95 = .ok (.if_icmp .le 10, 3) := by decide +kernel
theorem d_Real_rounded_98 : decode b_Real_rounded 98 = .ok (.aload_n 0, 1) := by decide +kernel
theorem d_Real_rounded_99 : decode b_Real_rounded 99 = .ok (.iload_n 1, 1) := by decide +kernel
theorem d_Real_rounded_100 : decode b_Real_rounded 100 = .ok (.lconst 0, 1) := by decide +kernel
theorem d_Real_rounded_101 : decode b_Real_rounded 101 = .ok (.invokevirtual 76, 3) := by decide +kernel
theorem d_Real_rounded_104 : decode b_Real_rounded 104 = .ok (.lreturn, 1) := by decide +kernel
theorem d_Real_rounded_105 : decode b_Real_rounded 105 = .ok (.iload 9, 2) := by decide +kernel
theorem d_Real_rounded_107 : decode b_Real_rounded 107 = .ok (.iconst 1, 1) := by decide +kernel
theorem d_Real_rounded_108 : decode b_Real_rounded 108 = .ok (.invokestatic 63, 3) := by decide +kernel
theorem d_Real_rounded_111 : decode b_Real_rounded 111 = .ok (.iconst 1, 1) := by decide +kernel
theorem d_Real_rounded_112 : decode b_Real_rounded 112 = .ok (.isub, 1) := by decide +kernel
theorem d_Real_rounded_113 : decode b_Real_rounded 113 = .ok (.i2l, 1) := by decide +kernel
theorem d_Real_rounded_114 : decode b_Real_rounded 114 = .ok (.aload_n 0, 1) := by decide +kernel
theorem d_Real_rounded_115 : decode b_Real_rounded 115 = .ok (.getfield 31, 3) := by decide +kernel
theorem d_Real_rounded_118 : decode b_Real_rounded 118 = .ok (.lshl, 1) := by decide +kernel
theorem d_Real_rounded_119 : decode b_Real_rounded 119 = .ok (.lstore 11, 2) := by decide +kernel
theorem d_Real_rounded_121 : decode b_Real_rounded 121 = .ok (.aload_n 0, 1) := by decide +kernel
theorem d_Real_rounded_122 : decode b_Real_rounded 122 = .ok (.iload_n 1, 1) := by decide +kernel
theorem d_Real_rounded_123 : decode b_Real_rounded 123 = .ok (.lload 11, 2) := by decide +kernel
theorem d_Real_rounded_125 : decode b_Real_rounded 125 = .ok (.lload 6, 2) := by decide +kernel
theorem d_Real_rounded_127 : decode b_Real_rounded 127 = .ok (.iload 10, 2) := by decide +kernel
theorem d_Real_rounded_129 : decode b_Real_rounded 129 = .ok (.invokestatic 140, 3) := by decide +kernel
theorem d_Real_rounded_132 : decode b_Real_rounded 132 = .ok (.ladd, 1) := by decide +kernel
theorem d_Real_rounded_133 : decode b_Real_rounded 133 = .ok (.invokevirtual 76, 3) := by decide +kernel
theorem d_Real_rounded_136 : decode b_Real_rounded 136 = .ok (.lreturn, 1) := by decide +kernel
def F_Real_rounded (n : Nat) (K0 : rK) (a1 : Int32) (a2 : Int32) (a3 : Int64) : Option (Int64) := if ¬ a3 = (0 : Int64) then ((F_PB_leadingZeros n a3).bind fun x1 => lt_ (x1 - (1 : Int32)) fun x2 => lt_ (a3 <<< ((x2).toInt64 &&& 63)) fun x3 => lt_ ((62 : Int32) - K0.1) fun x4 => lt_ ((((a2 - x2) + x4) - K0.2.2.1) + (1 : Int32)) fun x5 => if x5 < K0.2.1 then (lt_ (if (1 : Int32) ≤ x5 then x4 else (x4 + (1 : Int32)) - x5) fun x6 => if x6 ≤ (63 : Int32) then (lt_ ((((if x5 < (1 : Int32) then (1 : Int32) else x5) - (1 : Int32)).toInt64) <<< ((K0.1).toInt64 &&& 63)) fun x7 => some (F_Real_signed K0 a1 (x7 + (F_Real_nearest x3 x6)))) else (some (F_Real_signed K0 a1 (0 : Int64)))) else (some (F_Real_signed K0 a1 K0.2.2.2.2))) else (some (F_Real_signed K0 a1 (0 : Int64)))
set_option maxHeartbeats 4000000 in
set_option maxRecDepth 100000 in
theorem c_Real_rounded (l : Launch) (o0 : Nat) (n : Nat) (K0 : rK) (a1 : Int32) (a2 : Int32) (a3 : Int64) (r : Int64) (h : F_Real_rounded n K0 a1 a2 a3 = some r) : Met l y_Real_rounded (.code y_Real_rounded b_Real_rounded 13 (some .long) :: BIG) ({ frames := 1, cells := 0, slots := 0, locals := 29 } : Room) (va_Pc [.ref o0, .int a1, .int a2, .long a3] (pre1 o0 K0)) (pQ (.long r)) 0 0 (fun _ => False) := by
  refine pOpen_l rfl (Nat.le_of_ble_eq_true rfl) ?_
  intro p e s m args below meth c Q ls hx hb hml hown hts hT hp hl hret
  obtain ⟨hNB, hRe_o0⟩ := hp
  have hown : s.vm.findClass R_Real = some m.cls := hown
  have hl : lv_has ls 13 [(0, .ref o0), (1, .int a1), (2, .int a2), (3, .long a3)] := hl
  have h : (if ¬ a3 = (0 : Int64) then ((F_PB_leadingZeros n a3).bind fun x1 => lt_ (x1 - (1 : Int32)) fun x2 => lt_ (a3 <<< ((x2).toInt64 &&& 63)) fun x3 => lt_ ((62 : Int32) - K0.1) fun x4 => lt_ ((((a2 - x2) + x4) - K0.2.2.1) + (1 : Int32)) fun x5 => if x5 < K0.2.1 then (lt_ (if (1 : Int32) ≤ x5 then x4 else (x4 + (1 : Int32)) - x5) fun x6 => if x6 ≤ (63 : Int32) then (lt_ ((((if x5 < (1 : Int32) then (1 : Int32) else x5) - (1 : Int32)).toInt64) <<< ((K0.1).toInt64 &&& 63)) fun x7 => some (F_Real_signed K0 a1 (x7 + (F_Real_nearest x3 x6)))) else (some (F_Real_signed K0 a1 (0 : Int64)))) else (some (F_Real_signed K0 a1 K0.2.2.2.2))) else (some (F_Real_signed K0 a1 (0 : Int64)))) = some r := h
  refine lv_lload_n hx hb d_Real_rounded_0 rfl (lv_at hl 3 rfl) ?_
  refine lv_lconst hx hb d_Real_rounded_1 lc_0 ?_
  refine W.lcmp hx hb d_Real_rounded_2 ?_
  refine lv_if_ne (tgt := 13) hx hb d_Real_rounded_3 rfl (fun hc => ?_) (fun hc => ?_)
  · have hc := mt (lg_cmp_eq _ _).mpr hc
    have h := ite_t hc h
    refine lv_lload_n hx hb d_Real_rounded_13 rfl (lv_at hl 3 rfl) ?_
    obtain ⟨x1, e_x1, h⟩ := bd_o h
    refine q_SN (As := [.long a3]) (rest := []) (n := 1) hx hb hml hown hts (c_PB_leadingZeros l n a3 _ e_x1) rfl rfl m_49 (hNB_Real hNB) m_50 m_3 (by decide +kernel) ⟨Nat.le_of_ble_eq_true rfl, Nat.le_of_ble_eq_true rfl⟩ (p0_bl) (fun U hU hW => p0_mv hU hW hNB) rfl hl.1 rfl (Nat.le_of_ble_eq_true rfl) d_Real_rounded_14 ⟨Nat.zero_le _, Nat.zero_le _⟩ ?_
    refine lv_iconst hx hb d_Real_rounded_17 ic_1 ?_
    refine lv_isub hx hb d_Real_rounded_18 ?_
    refine lv_topi (fun x2 e_x2 => ?_)
    have h := lt_h e_x2 h
    refine lv_istore hx hb d_Real_rounded_19 hl (by decide) rfl (fun ls hl => ?_)
    have hl : lv_has ls 13 [(5, .int x2), (0, .ref o0), (1, .int a1), (2, .int a2), (3, .long a3)] := hl
    refine lv_lload_n hx hb d_Real_rounded_21 rfl (lv_at hl 4 rfl) ?_
    refine lv_iload hx hb d_Real_rounded_22 (lv_at hl 0 rfl) ?_
    refine lv_lshl hx hb d_Real_rounded_24 rfl ?_
    refine lv_topl (fun x3 e_x3 => ?_)
    have h := lt_h e_x3 h
    refine lv_lstore hx hb d_Real_rounded_25 hl (by decide) rfl (fun ls hl => ?_)
    have hl : lv_has ls 13 [(6, .long x3), (5, .int x2), (0, .ref o0), (1, .int a1), (2, .int a2), (3, .long a3)] := hl
    refine lv_bipush hx hb d_Real_rounded_27 bp_62 ?_
    refine lv_aload_n hx hb d_Real_rounded_29 rfl (lv_at hl 2 rfl) ?_
    refine vk_getf hx hb (hRe_o0.2.1) va_S.rf hown (hT _ m_5) (fun _ h9 => h9) d_Real_rounded_30 ?_
    refine lv_isub hx hb d_Real_rounded_33 ?_
    refine lv_topi (fun x4 e_x4 => ?_)
    have h := lt_h e_x4 h
    refine lv_istore hx hb d_Real_rounded_34 hl (by decide) rfl (fun ls hl => ?_)
    have hl : lv_has ls 13 [(8, .int x4), (6, .long x3), (5, .int x2), (0, .ref o0), (1, .int a1), (2, .int a2), (3, .long a3)] := hl
    refine lv_iload_n hx hb d_Real_rounded_36 rfl (lv_at hl 5 rfl) ?_
    refine lv_iload hx hb d_Real_rounded_37 (lv_at hl 2 rfl) ?_
    refine lv_isub hx hb d_Real_rounded_39 ?_
    refine lv_iload hx hb d_Real_rounded_40 (lv_at hl 0 rfl) ?_
    refine lv_iadd hx hb d_Real_rounded_42 ?_
    refine lv_aload_n hx hb d_Real_rounded_43 rfl (lv_at hl 3 rfl) ?_
    refine vk_getf hx hb (hRe_o0.2.2.2.1) va_S.rf hown (hT _ m_25) (fun _ h9 => h9) d_Real_rounded_44 ?_
    refine lv_isub hx hb d_Real_rounded_47 ?_
    refine lv_iconst hx hb d_Real_rounded_48 ic_1 ?_
    refine lv_iadd hx hb d_Real_rounded_49 ?_
    refine lv_topi (fun x5 e_x5 => ?_)
    have h := lt_h e_x5 h
    refine lv_istore hx hb d_Real_rounded_50 hl (by decide) rfl (fun ls hl => ?_)
    have hl : lv_has ls 13 [(9, .int x5), (8, .int x4), (6, .long x3), (5, .int x2), (0, .ref o0), (1, .int a1), (2, .int a2), (3, .long a3)] := hl
    refine lv_iload hx hb d_Real_rounded_52 (lv_at hl 0 rfl) ?_
    refine lv_aload_n hx hb d_Real_rounded_54 rfl (lv_at hl 4 rfl) ?_
    refine vk_getf hx hb (hRe_o0.2.2.1) va_S.rf hown (hT _ m_16) (fun _ h9 => h9) d_Real_rounded_55 ?_
    refine lv_icmp_lt (tgt := 71) hx hb d_Real_rounded_58 rfl (fun hc => ?_) (fun hc => ?_)
    · have h := ite_t hc h
      refine lv_iload hx hb d_Real_rounded_71 (lv_at hl 0 rfl) ?_
      refine lv_iconst hx hb d_Real_rounded_73 ic_1 ?_
      obtain ⟨x6, e_x6, h⟩ := lt_o h
      have hJ89 : ∀ (x6' : Int32) (ls : Array Slot), x6 = x6' → lv_has ls 13 [(0, .ref o0), (1, .int a1), (6, .long x3), (9, .int x5)] → W p l e ({ frames := 1, cells := 0, slots := 0, locals := 29 } : Room) s m args below meth c s.heap [] 0 0 Q (F0 m 89 ls [.int x6']) := by
        intro x6' ls q_x6 hl
        subst q_x6
        refine lv_istore hx hb d_Real_rounded_89 hl (by decide) rfl (fun ls hl => ?_)
        have hl : lv_has ls 13 [(10, .int x6), (0, .ref o0), (1, .int a1), (6, .long x3), (9, .int x5)] := hl
        refine lv_iload hx hb d_Real_rounded_91 (lv_at hl 0 rfl) ?_
        refine lv_bipush hx hb d_Real_rounded_93 bp_63 ?_
        refine lv_icmp_le (tgt := 105) hx hb d_Real_rounded_95 rfl (fun hc => ?_) (fun hc => ?_)
        · have h := ite_t hc h
          refine lv_iload hx hb d_Real_rounded_105 (lv_at hl 4 rfl) ?_
          refine lv_iconst hx hb d_Real_rounded_107 ic_1 ?_
          refine va_mmax hx hb (hml.trans hl.1.symm) hown (hT _ m_26) (hT _ m_27) (hT _ m_28) (hT _ m_29) (Nat.le_of_ble_eq_true rfl) (Nat.le_of_ble_eq_true rfl) (Nat.zero_le _) (Nat.zero_le _) d_Real_rounded_108 ?_
          refine lv_iconst hx hb d_Real_rounded_111 ic_1 ?_
          refine lv_isub hx hb d_Real_rounded_112 ?_
          refine lv_i2l hx hb d_Real_rounded_113 rfl ?_
          refine lv_aload_n hx hb d_Real_rounded_114 rfl (lv_at hl 1 rfl) ?_
          refine vk_getf hx hb (hRe_o0.2.1) va_S.rf hown (hT _ m_5) (fun _ h9 => h9) d_Real_rounded_115 ?_
          refine lv_lshl hx hb d_Real_rounded_118 rfl ?_
          refine lv_topl (fun x7 e_x7 => ?_)
          have h := lt_h e_x7 h
          refine lv_lstore hx hb d_Real_rounded_119 hl (by decide) rfl (fun ls hl => ?_)
          have hl : lv_has ls 13 [(11, .long x7), (10, .int x6), (0, .ref o0), (1, .int a1), (6, .long x3), (9, .int x5)] := hl
          refine lv_aload_n hx hb d_Real_rounded_121 rfl (lv_at hl 2 rfl) ?_
          refine lv_iload_n hx hb d_Real_rounded_122 rfl (lv_at hl 3 rfl) ?_
          refine lv_lload hx hb d_Real_rounded_123 (lv_at hl 0 rfl) ?_
          refine lv_lload hx hb d_Real_rounded_125 (lv_at hl 4 rfl) ?_
          refine lv_iload hx hb d_Real_rounded_127 (lv_at hl 1 rfl) ?_
          refine q_S (As := [.long x3, .int x6]) (rest := [.long x7, .int a1, .ref o0]) (n := 2) hx hb hml hown hts (c_Real_nearest l x3 x6) rfl rfl m_51 m_52 m_53 m_11 (by decide +kernel) ⟨Nat.le_of_ble_eq_true rfl, Nat.le_of_ble_eq_true rfl⟩ (p0_bl) (fun U hU hW => p0_mv hU hW hNB) rfl hl.1 rfl (Nat.le_of_ble_eq_true rfl) d_Real_rounded_129 ⟨Nat.zero_le _, Nat.zero_le _⟩ ?_
          refine lv_ladd hx hb d_Real_rounded_132 ?_
          refine q_V (As := [.int a1, .long (x7 + (F_Real_nearest x3 x6))]) (rest := []) (n := 2) hx hb hml hown hts (c_Real_signed l o0 K0 a1 (x7 + (F_Real_nearest x3 x6))) rfl rfl m_34 m_35 m_36 m_37 m_11 (by decide +kernel) ⟨Nat.le_of_ble_eq_true rfl, Nat.le_of_ble_eq_true rfl⟩ (rAt_rc hRe_o0) (p1_bl) (fun U hU hW => p1_mv hU hW hNB hRe_o0) rfl hl.1 rfl (Nat.le_of_ble_eq_true rfl) d_Real_rounded_133 ⟨Nat.zero_le _, Nat.zero_le _⟩ ?_
          exact hret 136 ls _ (Option.some.inj h) d_Real_rounded_136
        · have h := ite_f hc h
          refine lv_aload_n hx hb d_Real_rounded_98 rfl (lv_at hl 1 rfl) ?_
          refine lv_iload_n hx hb d_Real_rounded_99 rfl (lv_at hl 2 rfl) ?_
          refine lv_lconst hx hb d_Real_rounded_100 lc_0 ?_
          refine q_V (As := [.int a1, .long (0 : Int64)]) (rest := []) (n := 2) hx hb hml hown hts (c_Real_signed l o0 K0 a1 (0 : Int64)) rfl rfl m_34 m_35 m_36 m_37 m_11 (by decide +kernel) ⟨Nat.le_of_ble_eq_true rfl, Nat.le_of_ble_eq_true rfl⟩ (rAt_rc hRe_o0) (p1_bl) (fun U hU hW => p1_mv hU hW hNB hRe_o0) rfl hl.1 rfl (Nat.le_of_ble_eq_true rfl) d_Real_rounded_101 ⟨Nat.zero_le _, Nat.zero_le _⟩ ?_
          exact hret 104 ls _ (Option.some.inj h) d_Real_rounded_104
      refine lv_icmp_ge (tgt := 87) hx hb d_Real_rounded_74 rfl (fun hc => ?_) (fun hc => ?_)
      · have e_x6 := e_x6.trans (if_pos hc)
        refine lv_iload hx hb d_Real_rounded_87 (lv_at hl 1 rfl) ?_
        exact hJ89 _ ls e_x6 (lv_sub hl [4, 5, 2, 0] rfl)
      · have e_x6 := e_x6.trans (if_neg hc)
        refine lv_iload hx hb d_Real_rounded_77 (lv_at hl 1 rfl) ?_
        refine lv_iconst hx hb d_Real_rounded_79 ic_1 ?_
        refine lv_iadd hx hb d_Real_rounded_80 ?_
        refine lv_iload hx hb d_Real_rounded_81 (lv_at hl 0 rfl) ?_
        refine lv_isub hx hb d_Real_rounded_83 ?_
        refine lv_goto (tgt := 89) hx hb d_Real_rounded_84 rfl ?_
        exact hJ89 _ ls e_x6 (lv_sub hl [4, 5, 2, 0] rfl)
    · have h := ite_f hc h
      refine lv_aload_n hx hb d_Real_rounded_61 rfl (lv_at hl 4 rfl) ?_
      refine lv_iload_n hx hb d_Real_rounded_62 rfl (lv_at hl 5 rfl) ?_
      refine lv_aload_n hx hb d_Real_rounded_63 rfl (lv_at hl 4 rfl) ?_
      refine vk_getf hx hb (hRe_o0.2.2.2.2.2) va_S.rf hown (hT _ m_4) (fun _ h9 => h9) d_Real_rounded_64 ?_
      refine q_V (As := [.int a1, .long K0.2.2.2.2]) (rest := []) (n := 2) hx hb hml hown hts (c_Real_signed l o0 K0 a1 K0.2.2.2.2) rfl rfl m_34 m_35 m_36 m_37 m_11 (by decide +kernel) ⟨Nat.le_of_ble_eq_true rfl, Nat.le_of_ble_eq_true rfl⟩ (rAt_rc hRe_o0) (p1_bl) (fun U hU hW => p1_mv hU hW hNB hRe_o0) rfl hl.1 rfl (Nat.le_of_ble_eq_true rfl) d_Real_rounded_67 ⟨Nat.zero_le _, Nat.zero_le _⟩ ?_
      exact hret 70 ls _ (Option.some.inj h) d_Real_rounded_70
  · have hc := not_not_intro ((lg_cmp_eq _ _).mp hc)
    have h := ite_f hc h
    refine lv_aload_n hx hb d_Real_rounded_6 rfl (lv_at hl 0 rfl) ?_
    refine lv_iload_n hx hb d_Real_rounded_7 rfl (lv_at hl 1 rfl) ?_
    refine lv_lconst hx hb d_Real_rounded_8 lc_0 ?_
    refine q_V (As := [.int a1, .long (0 : Int64)]) (rest := []) (n := 2) hx hb hml hown hts (c_Real_signed l o0 K0 a1 (0 : Int64)) rfl rfl m_34 m_35 m_36 m_37 m_11 (by decide +kernel) ⟨Nat.le_of_ble_eq_true rfl, Nat.le_of_ble_eq_true rfl⟩ (rAt_rc hRe_o0) (p1_bl) (fun U hU hW => p1_mv hU hW hNB hRe_o0) rfl hl.1 rfl (Nat.le_of_ble_eq_true rfl) d_Real_rounded_9 ⟨Nat.zero_le _, Nat.zero_le _⟩ ?_
    exact hret 12 ls _ (Option.some.inj h) d_Real_rounded_12
-- Real_orderedSum
theorem d_Real_orderedSum_0 : decode b_Real_orderedSum 0 = .ok (.aload_n 0, 1) := by decide +kernel
theorem d_Real_orderedSum_1 : decode b_Real_orderedSum 1 = .ok (.lload_n 1, 1) := by decide +kernel
theorem d_Real_orderedSum_2 : decode b_Real_orderedSum 2 = .ok (.invokevirtual 52, 3) := by decide +kernel
theorem d_Real_orderedSum_5 : decode b_Real_orderedSum 5 = .ok (.aload_n 0, 1) := by decide +kernel
theorem d_Real_orderedSum_6 : decode b_Real_orderedSum 6 = .ok (.lload_n 3, 1) := by decide +kernel
theorem d_Real_orderedSum_7 : decode b_Real_orderedSum 7 = .ok (.invokevirtual 52, 3) := by decide +kernel
theorem d_Real_orderedSum_10 : decode b_Real_orderedSum 10 = .ok (.if_icmp .ne 7, 3) := by decide +kernel
theorem d_Real_orderedSum_13 : decode b_Real_orderedSum 13 = .ok (.iconst 1, 1) := by decide +kernel
theorem d_Real_orderedSum_14 : decode b_Real_orderedSum 14 = .ok (.goto 4, 3) := by decide +kernel
theorem d_Real_orderedSum_17 : decode b_Real_orderedSum 17 = .ok (.iconst 0, 1) := by decide +kernel
theorem d_Real_orderedSum_18 : decode b_Real_orderedSum 18 = .ok (.istore 5, 2) := by decide +kernel
theorem d_Real_orderedSum_20 : decode b_Real_orderedSum 20 = .ok (.aload_n 0, 1) := by decide +kernel
theorem d_Real_orderedSum_21 : decode b_Real_orderedSum 21 = .ok (.lload_n 1, 1) := by decide +kernel
theorem d_Real_orderedSum_22 : decode b_Real_orderedSum 22 = .ok (.invokevirtual 113, 3) := by decide +kernel
theorem d_Real_orderedSum_25 : decode b_Real_orderedSum 25 = .ok (.bipush 9, 2) := by decide +kernel
theorem d_Real_orderedSum_27 : decode b_Real_orderedSum 27 = .ok (.lshl, 1) := by decide +kernel
theorem d_Real_orderedSum_28 : decode b_Real_orderedSum 28 = .ok (.lstore 6, 2) := by decide +kernel
theorem d_Real_orderedSum_30 : decode b_Real_orderedSum 30 = .ok (.aload_n 0, 1) := by decide +kernel
theorem d_Real_orderedSum_31 : decode b_Real_orderedSum 31 = .ok (.lload_n 3, 1) := by decide +kernel
theorem d_Real_orderedSum_32 : decode b_Real_orderedSum 32 = .ok (.invokevirtual 113, 3) := by decide +kernel
theorem d_Real_orderedSum_35 : decode b_Real_orderedSum 35 = .ok (.bipush 9, 2) := by decide +kernel
theorem d_Real_orderedSum_37 : decode b_Real_orderedSum 37 = .ok (.lshl, 1) := by decide +kernel
theorem d_Real_orderedSum_38 : decode b_Real_orderedSum 38 = .ok (.aload_n 0, 1) := by decide +kernel
theorem d_Real_orderedSum_39 : decode b_Real_orderedSum 39 = .ok (.lload_n 1, 1) := by decide +kernel
theorem d_Real_orderedSum_40 : decode b_Real_orderedSum 40 = .ok (.invokevirtual 116, 3) := by decide +kernel
theorem d_Real_orderedSum_43 : decode b_Real_orderedSum 43 = .ok (.aload_n 0, 1) := by decide +kernel
theorem d_Real_orderedSum_44 : decode b_Real_orderedSum 44 = .ok (.lload_n 3, 1) := by decide +kernel
theorem d_Real_orderedSum_45 : decode b_Real_orderedSum 45 = .ok (.invokevirtual 116, 3) := by decide +kernel
theorem d_Real_orderedSum_48 : decode b_Real_orderedSum 48 = .ok (.isub, 1) := by decide +kernel
theorem d_Real_orderedSum_49 : decode b_Real_orderedSum 49 = .ok (.invokestatic 128, 3) := by decide +kernel
theorem d_Real_orderedSum_52 : decode b_Real_orderedSum 52 = .ok (.lstore 8, 2) := by decide +kernel
theorem d_Real_orderedSum_54 : decode b_Real_orderedSum 54 = .ok (.iload 5, 2) := by decide +kernel
theorem d_Real_orderedSum_56 : decode b_Real_orderedSum 56 = .ok (.ifCond .eq 11, 3) := by decide +kernel
theorem d_Real_orderedSum_59 : decode b_Real_orderedSum 59 = .ok (.lload 6, 2) := by decide +kernel
theorem d_Real_orderedSum_61 : decode b_Real_orderedSum 61 = .ok (.lload 8, 2) := by decide +kernel
theorem d_Real_orderedSum_63 : decode b_Real_orderedSum 63 = .ok (.ladd, 1) := by decide +kernel
theorem d_Real_orderedSum_64 : decode b_Real_orderedSum 64 = .ok (.goto 8, 3) := by decide +kernel
theorem d_Real_orderedSum_67 : decode b_Real_orderedSum 67 = .ok (.lload 6, 2) := by decide +kernel
theorem d_Real_orderedSum_69 : decode b_Real_orderedSum 69 = .ok (.lload 8, 2) := by decide +kernel
theorem d_Real_orderedSum_71 : decode b_Real_orderedSum 71 = .ok (.lsub, 1) := by decide +kernel
theorem d_Real_orderedSum_72 : decode b_Real_orderedSum 72 = .ok (.lstore 10, 2) := by decide +kernel
theorem d_Real_orderedSum_74 : decode b_Real_orderedSum 74 = .ok (.aload_n 0, 1) := by decide +kernel
theorem d_Real_orderedSum_75 : decode b_Real_orderedSum 75 = .ok (.lload_n 1, 1) := by decide +kernel
theorem d_Real_orderedSum_76 : decode b_Real_orderedSum 76 = .ok (.invokevirtual 52, 3) := by decide +kernel
theorem d_Real_orderedSum_79 : decode b_Real_orderedSum 79 = .ok (.ifCond .eq 19, 3) := by decide +kernel
theorem d_Real_orderedSum_82 : decode b_Real_orderedSum 82 = .ok (.iload 5, 2) := by decide +kernel
theorem d_Real_orderedSum_84 : decode b_Real_orderedSum 84 = .ok (.ifCond .ne 10, 3) := by decide +kernel
theorem d_Real_orderedSum_87 : decode b_Real_orderedSum 87 = .ok (.lload 10, 2) := by decide +kernel
theorem d_Real_orderedSum_89 : decode b_Real_orderedSum 89 = .ok (.lconst 0, 1) := by decide +kernel
theorem d_Real_orderedSum_90 : decode b_Real_orderedSum 90 = .ok (.lcmp, 1) := by decide +kernel
theorem d_Real_orderedSum_91 : decode b_Real_orderedSum 91 = .ok (.ifCond .eq 7, 3) := by decide +kernel
theorem d_Real_orderedSum_94 : decode b_Real_orderedSum 94 = .ok (.iconst 1, 1) := by decide +kernel
theorem d_Real_orderedSum_95 : decode b_Real_orderedSum 95 = .ok (.goto 4, 3) := by decide +kernel
theorem d_Real_orderedSum_98 : decode b_Real_orderedSum 98 = .ok (.iconst 0, 1) := by decide +kernel
theorem d_Real_orderedSum_99 : decode b_Real_orderedSum 99 = .ok (.istore 12, 2) := by decide +kernel
theorem d_Real_orderedSum_101 : decode b_Real_orderedSum 101 = .ok (.aload_n 0, 1) := by decide +kernel
theorem d_Real_orderedSum_102 : decode b_Real_orderedSum 102 = .ok (.iload 12, 2) := by decide +kernel
theorem d_Real_orderedSum_104 : decode b_Real_orderedSum 104 = .ok (.aload_n 0, 1) := by decide +kernel
theorem d_Real_orderedSum_105 : decode b_Real_orderedSum 105 = .ok (.lload_n 1, 1) := by decide +kernel
theorem d_Real_orderedSum_106 : decode b_Real_orderedSum 106 = .ok (.invokevirtual 116, 3) := by decide +kernel
theorem d_Real_orderedSum_109 : decode b_Real_orderedSum 109 = .ok (.bipush 9, 2) := by decide +kernel
theorem d_Real_orderedSum_111 : decode b_Real_orderedSum 111 = .ok (.isub, 1) := by decide +kernel
theorem d_Real_orderedSum_112 : decode b_Real_orderedSum 112 = .ok (.lload 10, 2) := by decide +kernel
theorem d_Real_orderedSum_114 : decode b_Real_orderedSum 114 = .ok (.invokevirtual 106, 3) := by decide +kernel
theorem d_Real_orderedSum_117 : decode b_Real_orderedSum 117 = .ok (.lreturn, 1) := by decide +kernel
def F_Real_orderedSum (n : Nat) (K0 : rK) (a1 : Int64) (a2 : Int64) : Option (Int64) := lt_ (if ¬ (F_Real_isNegative K0 a1) = (F_Real_isNegative K0 a2) then (0 : Int32) else (1 : Int32)) fun x1 => lt_ ((F_Real_significand K0 a1) <<< (((9 : Int32)).toInt64 &&& 63)) fun x2 => lt_ (F_Real_shiftedDown ((F_Real_significand K0 a2) <<< (((9 : Int32)).toInt64 &&& 63)) ((F_Real_power K0 a1) - (F_Real_power K0 a2))) fun x3 => lt_ (if x1 = 0 then x2 - x3 else x2 + x3) fun x4 => lt_ (if (F_Real_isNegative K0 a1) = 0 then (0 : Int32) else if ¬ x1 = 0 then (1 : Int32) else if x4 = (0 : Int64) then (0 : Int32) else (1 : Int32)) fun x5 => (F_Real_rounded n K0 x5 ((F_Real_power K0 a1) - (9 : Int32)) x4).bind fun x6 => some x6
set_option maxHeartbeats 4000000 in
set_option maxRecDepth 100000 in
theorem c_Real_orderedSum (l : Launch) (o0 : Nat) (n : Nat) (K0 : rK) (a1 : Int64) (a2 : Int64) (r : Int64) (h : F_Real_orderedSum n K0 a1 a2 = some r) : Met l y_Real_orderedSum (.code y_Real_orderedSum b_Real_orderedSum 13 (some .long) :: BIG) ({ frames := 2, cells := 0, slots := 0, locals := 61 } : Room) (va_Pc [.ref o0, .long a1, .long a2] (pre1 o0 K0)) (pQ (.long r)) 0 0 (fun _ => False) := by
  refine pOpen_l rfl (Nat.le_of_ble_eq_true rfl) ?_
  intro p e s m args below meth c Q ls hx hb hml hown hts hT hp hl hret
  obtain ⟨hNB, hRe_o0⟩ := hp
  have hown : s.vm.findClass R_Real = some m.cls := hown
  have hl : lv_has ls 13 [(0, .ref o0), (1, .long a1), (3, .long a2)] := hl
  have h : (lt_ (if ¬ (F_Real_isNegative K0 a1) = (F_Real_isNegative K0 a2) then (0 : Int32) else (1 : Int32)) fun x1 => lt_ ((F_Real_significand K0 a1) <<< (((9 : Int32)).toInt64 &&& 63)) fun x2 => lt_ (F_Real_shiftedDown ((F_Real_significand K0 a2) <<< (((9 : Int32)).toInt64 &&& 63)) ((F_Real_power K0 a1) - (F_Real_power K0 a2))) fun x3 => lt_ (if x1 = 0 then x2 - x3 else x2 + x3) fun x4 => lt_ (if (F_Real_isNegative K0 a1) = 0 then (0 : Int32) else if ¬ x1 = 0 then (1 : Int32) else if x4 = (0 : Int64) then (0 : Int32) else (1 : Int32)) fun x5 => (F_Real_rounded n K0 x5 ((F_Real_power K0 a1) - (9 : Int32)) x4).bind fun x6 => some x6) = some r := h
  refine lv_aload_n hx hb d_Real_orderedSum_0 rfl (lv_at hl 0 rfl) ?_
  refine lv_lload_n hx hb d_Real_orderedSum_1 rfl (lv_at hl 1 rfl) ?_
  refine q_V (As := [.long a1]) (rest := []) (n := 1) hx hb hml hown hts (c_Real_isNegative l o0 K0 a1) rfl rfl m_12 m_13 m_14 m_15 m_11 (by decide +kernel) ⟨Nat.le_of_ble_eq_true rfl, Nat.le_of_ble_eq_true rfl⟩ (rAt_rc hRe_o0) (p1_bl) (fun U hU hW => p1_mv hU hW hNB hRe_o0) rfl hl.1 rfl (Nat.le_of_ble_eq_true rfl) d_Real_orderedSum_2 ⟨Nat.zero_le _, Nat.zero_le _⟩ ?_
  refine lv_aload_n hx hb d_Real_orderedSum_5 rfl (lv_at hl 0 rfl) ?_
  refine lv_lload_n hx hb d_Real_orderedSum_6 rfl (lv_at hl 2 rfl) ?_
  refine q_V (As := [.long a2]) (rest := [.int (F_Real_isNegative K0 a1)]) (n := 1) hx hb hml hown hts (c_Real_isNegative l o0 K0 a2) rfl rfl m_12 m_13 m_14 m_15 m_11 (by decide +kernel) ⟨Nat.le_of_ble_eq_true rfl, Nat.le_of_ble_eq_true rfl⟩ (rAt_rc hRe_o0) (p1_bl) (fun U hU hW => p1_mv hU hW hNB hRe_o0) rfl hl.1 rfl (Nat.le_of_ble_eq_true rfl) d_Real_orderedSum_7 ⟨Nat.zero_le _, Nat.zero_le _⟩ ?_
  obtain ⟨x1, e_x1, h⟩ := lt_o h
  have hJ18 : ∀ (x1' : Int32) (ls : Array Slot), x1 = x1' → lv_has ls 13 [(0, .ref o0), (1, .long a1), (3, .long a2)] → W p l e ({ frames := 2, cells := 0, slots := 0, locals := 61 } : Room) s m args below meth c s.heap [] 0 0 Q (F0 m 18 ls [.int x1']) := by
    intro x1' ls q_x1 hl
    subst q_x1
    refine lv_istore hx hb d_Real_orderedSum_18 hl (by decide) rfl (fun ls hl => ?_)
    have hl : lv_has ls 13 [(5, .int x1), (0, .ref o0), (1, .long a1), (3, .long a2)] := hl
    refine lv_aload_n hx hb d_Real_orderedSum_20 rfl (lv_at hl 1 rfl) ?_
    refine lv_lload_n hx hb d_Real_orderedSum_21 rfl (lv_at hl 2 rfl) ?_
    refine q_V (As := [.long a1]) (rest := []) (n := 1) hx hb hml hown hts (c_Real_significand l o0 K0 a1) rfl rfl m_54 m_55 m_56 m_57 m_11 (by decide +kernel) ⟨Nat.le_of_ble_eq_true rfl, Nat.le_of_ble_eq_true rfl⟩ (rAt_rc hRe_o0) (p1_bl) (fun U hU hW => p1_mv hU hW hNB hRe_o0) rfl hl.1 rfl (Nat.le_of_ble_eq_true rfl) d_Real_orderedSum_22 ⟨Nat.zero_le _, Nat.zero_le _⟩ ?_
    refine lv_bipush hx hb d_Real_orderedSum_25 bp_9 ?_
    refine lv_lshl hx hb d_Real_orderedSum_27 rfl ?_
    refine lv_topl (fun x2 e_x2 => ?_)
    have h := lt_h e_x2 h
    refine lv_lstore hx hb d_Real_orderedSum_28 hl (by decide) rfl (fun ls hl => ?_)
    have hl : lv_has ls 13 [(6, .long x2), (5, .int x1), (0, .ref o0), (1, .long a1), (3, .long a2)] := hl
    refine lv_aload_n hx hb d_Real_orderedSum_30 rfl (lv_at hl 2 rfl) ?_
    refine lv_lload_n hx hb d_Real_orderedSum_31 rfl (lv_at hl 4 rfl) ?_
    refine q_V (As := [.long a2]) (rest := []) (n := 1) hx hb hml hown hts (c_Real_significand l o0 K0 a2) rfl rfl m_54 m_55 m_56 m_57 m_11 (by decide +kernel) ⟨Nat.le_of_ble_eq_true rfl, Nat.le_of_ble_eq_true rfl⟩ (rAt_rc hRe_o0) (p1_bl) (fun U hU hW => p1_mv hU hW hNB hRe_o0) rfl hl.1 rfl (Nat.le_of_ble_eq_true rfl) d_Real_orderedSum_32 ⟨Nat.zero_le _, Nat.zero_le _⟩ ?_
    refine lv_bipush hx hb d_Real_orderedSum_35 bp_9 ?_
    refine lv_lshl hx hb d_Real_orderedSum_37 rfl ?_
    refine lv_aload_n hx hb d_Real_orderedSum_38 rfl (lv_at hl 2 rfl) ?_
    refine lv_lload_n hx hb d_Real_orderedSum_39 rfl (lv_at hl 3 rfl) ?_
    refine q_V (As := [.long a1]) (rest := [.long ((F_Real_significand K0 a2) <<< (((9 : Int32)).toInt64 &&& 63))]) (n := 1) hx hb hml hown hts (c_Real_power l o0 K0 a1) rfl rfl m_58 m_59 m_60 m_61 m_11 (by decide +kernel) ⟨Nat.le_of_ble_eq_true rfl, Nat.le_of_ble_eq_true rfl⟩ (rAt_rc hRe_o0) (p1_bl) (fun U hU hW => p1_mv hU hW hNB hRe_o0) rfl hl.1 rfl (Nat.le_of_ble_eq_true rfl) d_Real_orderedSum_40 ⟨Nat.zero_le _, Nat.zero_le _⟩ ?_
    refine lv_aload_n hx hb d_Real_orderedSum_43 rfl (lv_at hl 2 rfl) ?_
    refine lv_lload_n hx hb d_Real_orderedSum_44 rfl (lv_at hl 4 rfl) ?_
    refine q_V (As := [.long a2]) (rest := [.int (F_Real_power K0 a1), .long ((F_Real_significand K0 a2) <<< (((9 : Int32)).toInt64 &&& 63))]) (n := 1) hx hb hml hown hts (c_Real_power l o0 K0 a2) rfl rfl m_58 m_59 m_60 m_61 m_11 (by decide +kernel) ⟨Nat.le_of_ble_eq_true rfl, Nat.le_of_ble_eq_true rfl⟩ (rAt_rc hRe_o0) (p1_bl) (fun U hU hW => p1_mv hU hW hNB hRe_o0) rfl hl.1 rfl (Nat.le_of_ble_eq_true rfl) d_Real_orderedSum_45 ⟨Nat.zero_le _, Nat.zero_le _⟩ ?_
    refine lv_isub hx hb d_Real_orderedSum_48 ?_
    refine q_S (As := [.long ((F_Real_significand K0 a2) <<< (((9 : Int32)).toInt64 &&& 63)), .int ((F_Real_power K0 a1) - (F_Real_power K0 a2))]) (rest := []) (n := 2) hx hb hml hown hts (c_Real_shiftedDown l ((F_Real_significand K0 a2) <<< (((9 : Int32)).toInt64 &&& 63)) ((F_Real_power K0 a1) - (F_Real_power K0 a2))) rfl rfl m_62 m_63 m_64 m_11 (by decide +kernel) ⟨Nat.le_of_ble_eq_true rfl, Nat.le_of_ble_eq_true rfl⟩ (p0_bl) (fun U hU hW => p0_mv hU hW hNB) rfl hl.1 rfl (Nat.le_of_ble_eq_true rfl) d_Real_orderedSum_49 ⟨Nat.zero_le _, Nat.zero_le _⟩ ?_
    refine lv_topl (fun x3 e_x3 => ?_)
    have h := lt_h e_x3 h
    refine lv_lstore hx hb d_Real_orderedSum_52 hl (by decide) rfl (fun ls hl => ?_)
    have hl : lv_has ls 13 [(8, .long x3), (6, .long x2), (5, .int x1), (0, .ref o0), (1, .long a1), (3, .long a2)] := hl
    refine lv_iload hx hb d_Real_orderedSum_54 (lv_at hl 2 rfl) ?_
    obtain ⟨x4, e_x4, h⟩ := lt_o h
    have hJ72 : ∀ (x4' : Int64) (ls : Array Slot), x4 = x4' → lv_has ls 13 [(0, .ref o0), (1, .long a1), (5, .int x1)] → W p l e ({ frames := 2, cells := 0, slots := 0, locals := 61 } : Room) s m args below meth c s.heap [] 0 0 Q (F0 m 72 ls [.long x4']) := by
      intro x4' ls q_x4 hl
      subst q_x4
      refine lv_lstore hx hb d_Real_orderedSum_72 hl (by decide) rfl (fun ls hl => ?_)
      have hl : lv_has ls 13 [(10, .long x4), (0, .ref o0), (1, .long a1), (5, .int x1)] := hl
      refine lv_aload_n hx hb d_Real_orderedSum_74 rfl (lv_at hl 1 rfl) ?_
      refine lv_lload_n hx hb d_Real_orderedSum_75 rfl (lv_at hl 2 rfl) ?_
      refine q_V (As := [.long a1]) (rest := []) (n := 1) hx hb hml hown hts (c_Real_isNegative l o0 K0 a1) rfl rfl m_12 m_13 m_14 m_15 m_11 (by decide +kernel) ⟨Nat.le_of_ble_eq_true rfl, Nat.le_of_ble_eq_true rfl⟩ (rAt_rc hRe_o0) (p1_bl) (fun U hU hW => p1_mv hU hW hNB hRe_o0) rfl hl.1 rfl (Nat.le_of_ble_eq_true rfl) d_Real_orderedSum_76 ⟨Nat.zero_le _, Nat.zero_le _⟩ ?_
      obtain ⟨x5, e_x5, h⟩ := lt_o h
      have hJ99 : ∀ (x5' : Int32) (ls : Array Slot), x5 = x5' → lv_has ls 13 [(0, .ref o0), (1, .long a1), (10, .long x4)] → W p l e ({ frames := 2, cells := 0, slots := 0, locals := 61 } : Room) s m args below meth c s.heap [] 0 0 Q (F0 m 99 ls [.int x5']) := by
        intro x5' ls q_x5 hl
        subst q_x5
        refine lv_istore hx hb d_Real_orderedSum_99 hl (by decide) rfl (fun ls hl => ?_)
        have hl : lv_has ls 13 [(12, .int x5), (0, .ref o0), (1, .long a1), (10, .long x4)] := hl
        refine lv_aload_n hx hb d_Real_orderedSum_101 rfl (lv_at hl 1 rfl) ?_
        refine lv_iload hx hb d_Real_orderedSum_102 (lv_at hl 0 rfl) ?_
        refine lv_aload_n hx hb d_Real_orderedSum_104 rfl (lv_at hl 1 rfl) ?_
        refine lv_lload_n hx hb d_Real_orderedSum_105 rfl (lv_at hl 2 rfl) ?_
        refine q_V (As := [.long a1]) (rest := [.int x5, .ref o0]) (n := 1) hx hb hml hown hts (c_Real_power l o0 K0 a1) rfl rfl m_58 m_59 m_60 m_61 m_11 (by decide +kernel) ⟨Nat.le_of_ble_eq_true rfl, Nat.le_of_ble_eq_true rfl⟩ (rAt_rc hRe_o0) (p1_bl) (fun U hU hW => p1_mv hU hW hNB hRe_o0) rfl hl.1 rfl (Nat.le_of_ble_eq_true rfl) d_Real_orderedSum_106 ⟨Nat.zero_le _, Nat.zero_le _⟩ ?_
        refine lv_bipush hx hb d_Real_orderedSum_109 bp_9 ?_
        refine lv_isub hx hb d_Real_orderedSum_111 ?_
        refine lv_lload hx hb d_Real_orderedSum_112 (lv_at hl 3 rfl) ?_
        obtain ⟨x6, e_x6, h⟩ := bd_o h
        refine q_V (As := [.int x5, .int ((F_Real_power K0 a1) - (9 : Int32)), .long x4]) (rest := []) (n := 3) hx hb hml hown hts (c_Real_rounded l o0 n K0 x5 ((F_Real_power K0 a1) - (9 : Int32)) x4 _ e_x6) rfl rfl m_65 m_66 m_67 m_68 m_11 (by decide +kernel) ⟨Nat.le_of_ble_eq_true rfl, Nat.le_of_ble_eq_true rfl⟩ (rAt_rc hRe_o0) (p1_bl) (fun U hU hW => p1_mv hU hW hNB hRe_o0) rfl hl.1 rfl (Nat.le_of_ble_eq_true rfl) d_Real_orderedSum_114 ⟨Nat.zero_le _, Nat.zero_le _⟩ ?_
        exact hret 117 ls _ (Option.some.inj h) d_Real_orderedSum_117
      refine lv_if_eq (tgt := 98) hx hb d_Real_orderedSum_79 rfl (fun hc => ?_) (fun hc => ?_)
      · have e_x5 := e_x5.trans (if_pos hc)
        refine lv_iconst hx hb d_Real_orderedSum_98 ic_0 ?_
        exact hJ99 _ ls e_x5 (lv_sub hl [1, 2, 0] rfl)
      · have e_x5 := e_x5.trans (if_neg hc)
        refine lv_iload hx hb d_Real_orderedSum_82 (lv_at hl 3 rfl) ?_
        refine lv_if_ne (tgt := 94) hx hb d_Real_orderedSum_84 rfl (fun hc => ?_) (fun hc => ?_)
        · have e_x5 := e_x5.trans (if_pos hc)
          refine lv_iconst hx hb d_Real_orderedSum_94 ic_1 ?_
          refine lv_goto (tgt := 99) hx hb d_Real_orderedSum_95 rfl ?_
          exact hJ99 _ ls e_x5 (lv_sub hl [1, 2, 0] rfl)
        · have hc := not_not_intro hc
          have e_x5 := e_x5.trans (if_neg hc)
          refine lv_lload hx hb d_Real_orderedSum_87 (lv_at hl 0 rfl) ?_
          refine lv_lconst hx hb d_Real_orderedSum_89 lc_0 ?_
          refine W.lcmp hx hb d_Real_orderedSum_90 ?_
          refine lv_if_eq (tgt := 98) hx hb d_Real_orderedSum_91 rfl (fun hc => ?_) (fun hc => ?_)
          · have hc := (lg_cmp_eq _ _).mp hc
            have e_x5 := e_x5.trans (if_pos hc)
            refine lv_iconst hx hb d_Real_orderedSum_98 ic_0 ?_
            exact hJ99 _ ls e_x5 (lv_sub hl [1, 2, 0] rfl)
          · have hc := mt (lg_cmp_eq _ _).mpr hc
            have e_x5 := e_x5.trans (if_neg hc)
            refine lv_iconst hx hb d_Real_orderedSum_94 ic_1 ?_
            refine lv_goto (tgt := 99) hx hb d_Real_orderedSum_95 rfl ?_
            exact hJ99 _ ls e_x5 (lv_sub hl [1, 2, 0] rfl)
    refine lv_if_eq (tgt := 67) hx hb d_Real_orderedSum_56 rfl (fun hc => ?_) (fun hc => ?_)
    · have e_x4 := e_x4.trans (if_pos hc)
      refine lv_lload hx hb d_Real_orderedSum_67 (lv_at hl 1 rfl) ?_
      refine lv_lload hx hb d_Real_orderedSum_69 (lv_at hl 0 rfl) ?_
      refine lv_lsub hx hb d_Real_orderedSum_71 ?_
      exact hJ72 _ ls e_x4 (lv_sub hl [3, 4, 2] rfl)
    · have e_x4 := e_x4.trans (if_neg hc)
      refine lv_lload hx hb d_Real_orderedSum_59 (lv_at hl 1 rfl) ?_
      refine lv_lload hx hb d_Real_orderedSum_61 (lv_at hl 0 rfl) ?_
      refine lv_ladd hx hb d_Real_orderedSum_63 ?_
      refine lv_goto (tgt := 72) hx hb d_Real_orderedSum_64 rfl ?_
      exact hJ72 _ ls e_x4 (lv_sub hl [3, 4, 2] rfl)
  refine lv_icmp_ne (tgt := 17) hx hb d_Real_orderedSum_10 rfl (fun hc => ?_) (fun hc => ?_)
  · have e_x1 := e_x1.trans (if_pos hc)
    refine lv_iconst hx hb d_Real_orderedSum_17 ic_0 ?_
    exact hJ18 _ ls e_x1 (lv_sub hl [0, 1, 2] rfl)
  · have hc := not_not_intro hc
    have e_x1 := e_x1.trans (if_neg hc)
    refine lv_iconst hx hb d_Real_orderedSum_13 ic_1 ?_
    refine lv_goto (tgt := 18) hx hb d_Real_orderedSum_14 rfl ?_
    exact hJ18 _ ls e_x1 (lv_sub hl [0, 1, 2] rfl)
-- Real_sum
theorem d_Real_sum_0 : decode b_Real_sum 0 = .ok (.aload_n 0, 1) := by decide +kernel
theorem d_Real_sum_1 : decode b_Real_sum 1 = .ok (.lload_n 1, 1) := by decide +kernel
theorem d_Real_sum_2 : decode b_Real_sum 2 = .ok (.invokevirtual 80, 3) := by decide +kernel
theorem d_Real_sum_5 : decode b_Real_sum 5 = .ok (.ifCond .ne 11, 3) := by decide +kernel
theorem d_Real_sum_8 : decode b_Real_sum 8 = .ok (.aload_n 0, 1) := by decide +kernel
theorem d_Real_sum_9 : decode b_Real_sum 9 = .ok (.lload_n 3, 1) := by decide +kernel
theorem d_Real_sum_10 : decode b_Real_sum 10 = .ok (.invokevirtual 80, 3) := by decide +kernel
theorem d_Real_sum_13 : decode b_Real_sum 13 = .ok (.ifCond .eq 10, 3) := by decide +kernel
theorem d_Real_sum_16 : decode b_Real_sum 16 = .ok (.aload_n 0, 1) := by decide +kernel
theorem d_Real_sum_17 : decode b_Real_sum 17 = .ok (.lload_n 1, 1) := by decide +kernel
theorem d_Real_sum_18 : decode b_Real_sum 18 = .ok (.lload_n 3, 1) := by decide +kernel
theorem d_Real_sum_19 : decode b_Real_sum 19 = .ok (.invokevirtual 83, 3) := by decide +kernel
theorem d_Real_sum_22 : decode b_Real_sum 22 = .ok (.lreturn, 1) := by decide +kernel
theorem d_Real_sum_23 : decode b_Real_sum 23 = .ok (.aload_n 0, 1) := by decide +kernel
theorem d_Real_sum_24 : decode b_Real_sum 24 = .ok (.lload_n 1, 1) := by decide +kernel
theorem d_Real_sum_25 : decode b_Real_sum 25 = .ok (.invokevirtual 48, 3) := by decide +kernel
theorem d_Real_sum_28 : decode b_Real_sum 28 = .ok (.aload_n 0, 1) := by decide +kernel
theorem d_Real_sum_29 : decode b_Real_sum 29 = .ok (.lload_n 3, 1) := by decide +kernel
theorem d_Real_sum_30 : decode b_Real_sum 30 = .ok (.invokevirtual 48, 3) := by decide +kernel
theorem d_Real_sum_33 : decode b_Real_sum 33 = .ok (.lcmp, 1) := by decide +kernel
theorem d_Real_sum_34 : decode b_Real_sum 34 = .ok (.ifCond .ge 10, 3) := by decide +kernel
theorem d_Real_sum_37 : decode b_Real_sum 37 = .ok (.aload_n 0, 1) := by decide +kernel
theorem d_Real_sum_38 : decode b_Real_sum 38 = .ok (.lload_n 3, 1) := by decide +kernel
theorem d_Real_sum_39 : decode b_Real_sum 39 = .ok (.lload_n 1, 1) := by decide +kernel
theorem d_Real_sum_40 : decode b_Real_sum 40 = .ok (.invokevirtual 87, 3) := by decide +kernel
theorem d_Real_sum_43 : decode b_Real_sum 43 = .ok (.lreturn, 1) := by decide +kernel
theorem d_Real_sum_44 : decode b_Real_sum 44 = .ok (.aload_n 0, 1) := by decide +kernel
theorem d_Real_sum_45 : decode b_Real_sum 45 = .ok (.lload_n 1, 1) := by decide +kernel
theorem d_Real_sum_46 : decode b_Real_sum 46 = .ok (.lload_n 3, 1) := by decide +kernel
theorem d_Real_sum_47 : decode b_Real_sum 47 = .ok (.invokevirtual 87, 3) := by decide +kernel
theorem d_Real_sum_50 : decode b_Real_sum 50 = .ok (.lreturn, 1) := by decide +kernel
def F_Real_sum (n : Nat) (K0 : rK) (a1 : Int64) (a2 : Int64) : Option (Int64) := lt_ (fun (_ : Unit) => some (F_Real_infiniteSum K0 a1 a2)) fun j16 => if ¬ (F_Real_isInfinite K0 a1) = 0 then (j16 ()) else (if (F_Real_isInfinite K0 a2) = 0 then (if (F_Real_magnitude K0 a2) ≤ (F_Real_magnitude K0 a1) then ((F_Real_orderedSum n K0 a1 a2).bind fun x1 => some x1) else ((F_Real_orderedSum n K0 a2 a1).bind fun x2 => some x2)) else (j16 ()))
set_option maxHeartbeats 4000000 in
set_option maxRecDepth 100000 in
theorem c_Real_sum (l : Launch) (o0 : Nat) (n : Nat) (K0 : rK) (a1 : Int64) (a2 : Int64) (r : Int64) (h : F_Real_sum n K0 a1 a2 = some r) : Met l y_Real_sum (.code y_Real_sum b_Real_sum 5 (some .long) :: BIG) ({ frames := 3, cells := 0, slots := 0, locals := 93 } : Room) (va_Pc [.ref o0, .long a1, .long a2] (pre1 o0 K0)) (pQ (.long r)) 0 0 (fun _ => False) := by
  refine pOpen_l rfl (Nat.le_of_ble_eq_true rfl) ?_
  intro p e s m args below meth c Q ls hx hb hml hown hts hT hp hl hret
  obtain ⟨hNB, hRe_o0⟩ := hp
  have hown : s.vm.findClass R_Real = some m.cls := hown
  have hl : lv_has ls 5 [(0, .ref o0), (1, .long a1), (3, .long a2)] := hl
  have h : (lt_ (fun (_ : Unit) => some (F_Real_infiniteSum K0 a1 a2)) fun j16 => if ¬ (F_Real_isInfinite K0 a1) = 0 then (j16 ()) else (if (F_Real_isInfinite K0 a2) = 0 then (if (F_Real_magnitude K0 a2) ≤ (F_Real_magnitude K0 a1) then ((F_Real_orderedSum n K0 a1 a2).bind fun x1 => some x1) else ((F_Real_orderedSum n K0 a2 a1).bind fun x2 => some x2)) else (j16 ()))) = some r := h
  refine lv_aload_n hx hb d_Real_sum_0 rfl (lv_at hl 0 rfl) ?_
  refine lv_lload_n hx hb d_Real_sum_1 rfl (lv_at hl 1 rfl) ?_
  refine q_V (As := [.long a1]) (rest := []) (n := 1) hx hb hml hown hts (c_Real_isInfinite l o0 K0 a1) rfl rfl m_42 m_43 m_44 m_45 m_11 (by decide +kernel) ⟨Nat.le_of_ble_eq_true rfl, Nat.le_of_ble_eq_true rfl⟩ (rAt_rc hRe_o0) (p1_bl) (fun U hU hW => p1_mv hU hW hNB hRe_o0) rfl hl.1 rfl (Nat.le_of_ble_eq_true rfl) d_Real_sum_2 ⟨Nat.zero_le _, Nat.zero_le _⟩ ?_
  obtain ⟨j16, e_j16, h⟩ := lt_o h
  have hJ16 : ∀ (ls : Array Slot), lv_has ls 5 [(0, .ref o0), (1, .long a1), (3, .long a2)] → j16 () = some r → W p l e ({ frames := 3, cells := 0, slots := 0, locals := 93 } : Room) s m args below meth c s.heap [] 0 0 Q (F0 m 16 ls []) := by
    intro  ls hl h
    rw [e_j16] at h
    refine lv_aload_n hx hb d_Real_sum_16 rfl (lv_at hl 0 rfl) ?_
    refine lv_lload_n hx hb d_Real_sum_17 rfl (lv_at hl 1 rfl) ?_
    refine lv_lload_n hx hb d_Real_sum_18 rfl (lv_at hl 2 rfl) ?_
    refine q_V (As := [.long a1, .long a2]) (rest := []) (n := 2) hx hb hml hown hts (c_Real_infiniteSum l o0 K0 a1 a2) rfl rfl m_69 m_70 m_71 m_72 m_11 (by decide +kernel) ⟨Nat.le_of_ble_eq_true rfl, Nat.le_of_ble_eq_true rfl⟩ (rAt_rc hRe_o0) (p1_bl) (fun U hU hW => p1_mv hU hW hNB hRe_o0) rfl hl.1 rfl (Nat.le_of_ble_eq_true rfl) d_Real_sum_19 ⟨Nat.zero_le _, Nat.zero_le _⟩ ?_
    exact hret 22 ls _ (Option.some.inj h) d_Real_sum_22
  refine lv_if_ne (tgt := 16) hx hb d_Real_sum_5 rfl (fun hc => ?_) (fun hc => ?_)
  · have h := ite_t hc h
    exact hJ16 ls (lv_sub hl [0, 1, 2] rfl) h
  · have hc := not_not_intro hc
    have h := ite_f hc h
    refine lv_aload_n hx hb d_Real_sum_8 rfl (lv_at hl 0 rfl) ?_
    refine lv_lload_n hx hb d_Real_sum_9 rfl (lv_at hl 2 rfl) ?_
    refine q_V (As := [.long a2]) (rest := []) (n := 1) hx hb hml hown hts (c_Real_isInfinite l o0 K0 a2) rfl rfl m_42 m_43 m_44 m_45 m_11 (by decide +kernel) ⟨Nat.le_of_ble_eq_true rfl, Nat.le_of_ble_eq_true rfl⟩ (rAt_rc hRe_o0) (p1_bl) (fun U hU hW => p1_mv hU hW hNB hRe_o0) rfl hl.1 rfl (Nat.le_of_ble_eq_true rfl) d_Real_sum_10 ⟨Nat.zero_le _, Nat.zero_le _⟩ ?_
    refine lv_if_eq (tgt := 23) hx hb d_Real_sum_13 rfl (fun hc => ?_) (fun hc => ?_)
    · have h := ite_t hc h
      refine lv_aload_n hx hb d_Real_sum_23 rfl (lv_at hl 0 rfl) ?_
      refine lv_lload_n hx hb d_Real_sum_24 rfl (lv_at hl 1 rfl) ?_
      refine q_V (As := [.long a1]) (rest := []) (n := 1) hx hb hml hown hts (c_Real_magnitude l o0 K0 a1) rfl rfl m_7 m_8 m_9 m_10 m_11 (by decide +kernel) ⟨Nat.le_of_ble_eq_true rfl, Nat.le_of_ble_eq_true rfl⟩ (rAt_rc hRe_o0) (p1_bl) (fun U hU hW => p1_mv hU hW hNB hRe_o0) rfl hl.1 rfl (Nat.le_of_ble_eq_true rfl) d_Real_sum_25 ⟨Nat.zero_le _, Nat.zero_le _⟩ ?_
      refine lv_aload_n hx hb d_Real_sum_28 rfl (lv_at hl 0 rfl) ?_
      refine lv_lload_n hx hb d_Real_sum_29 rfl (lv_at hl 2 rfl) ?_
      refine q_V (As := [.long a2]) (rest := [.long (F_Real_magnitude K0 a1)]) (n := 1) hx hb hml hown hts (c_Real_magnitude l o0 K0 a2) rfl rfl m_7 m_8 m_9 m_10 m_11 (by decide +kernel) ⟨Nat.le_of_ble_eq_true rfl, Nat.le_of_ble_eq_true rfl⟩ (rAt_rc hRe_o0) (p1_bl) (fun U hU hW => p1_mv hU hW hNB hRe_o0) rfl hl.1 rfl (Nat.le_of_ble_eq_true rfl) d_Real_sum_30 ⟨Nat.zero_le _, Nat.zero_le _⟩ ?_
      refine W.lcmp hx hb d_Real_sum_33 ?_
      refine lv_if_ge (tgt := 44) hx hb d_Real_sum_34 rfl (fun hc => ?_) (fun hc => ?_)
      · have hc := (lg_cmp_ge _ _).mp hc
        have h := ite_t hc h
        refine lv_aload_n hx hb d_Real_sum_44 rfl (lv_at hl 0 rfl) ?_
        refine lv_lload_n hx hb d_Real_sum_45 rfl (lv_at hl 1 rfl) ?_
        refine lv_lload_n hx hb d_Real_sum_46 rfl (lv_at hl 2 rfl) ?_
        obtain ⟨x1, e_x1, h⟩ := bd_o h
        refine q_V (As := [.long a1, .long a2]) (rest := []) (n := 2) hx hb hml hown hts (c_Real_orderedSum l o0 n K0 a1 a2 _ e_x1) rfl rfl m_73 m_74 m_75 m_76 m_11 (by decide +kernel) ⟨Nat.le_of_ble_eq_true rfl, Nat.le_of_ble_eq_true rfl⟩ (rAt_rc hRe_o0) (p1_bl) (fun U hU hW => p1_mv hU hW hNB hRe_o0) rfl hl.1 rfl (Nat.le_of_ble_eq_true rfl) d_Real_sum_47 ⟨Nat.zero_le _, Nat.zero_le _⟩ ?_
        exact hret 50 ls _ (Option.some.inj h) d_Real_sum_50
      · have hc := mt (lg_cmp_ge _ _).mpr hc
        have h := ite_f hc h
        refine lv_aload_n hx hb d_Real_sum_37 rfl (lv_at hl 0 rfl) ?_
        refine lv_lload_n hx hb d_Real_sum_38 rfl (lv_at hl 2 rfl) ?_
        refine lv_lload_n hx hb d_Real_sum_39 rfl (lv_at hl 1 rfl) ?_
        obtain ⟨x2, e_x2, h⟩ := bd_o h
        refine q_V (As := [.long a2, .long a1]) (rest := []) (n := 2) hx hb hml hown hts (c_Real_orderedSum l o0 n K0 a2 a1 _ e_x2) rfl rfl m_73 m_74 m_75 m_76 m_11 (by decide +kernel) ⟨Nat.le_of_ble_eq_true rfl, Nat.le_of_ble_eq_true rfl⟩ (rAt_rc hRe_o0) (p1_bl) (fun U hU hW => p1_mv hU hW hNB hRe_o0) rfl hl.1 rfl (Nat.le_of_ble_eq_true rfl) d_Real_sum_40 ⟨Nat.zero_le _, Nat.zero_le _⟩ ?_
        exact hret 43 ls _ (Option.some.inj h) d_Real_sum_43
    · have h := ite_f hc h
      exact hJ16 ls (lv_sub hl [0, 1, 2] rfl) h
-- Real_alignment
theorem d_Real_alignment_0 : decode b_Real_alignment 0 = .ok (.aload_n 0, 1) := by decide +kernel
theorem d_Real_alignment_1 : decode b_Real_alignment 1 = .ok (.lload_n 1, 1) := by decide +kernel
theorem d_Real_alignment_2 : decode b_Real_alignment 2 = .ok (.invokevirtual 113, 3) := by decide +kernel
theorem d_Real_alignment_5 : decode b_Real_alignment 5 = .ok (.invokestatic 135, 3) := by decide +kernel
theorem d_Real_alignment_8 : decode b_Real_alignment 8 = .ok (.iconst 1, 1) := by decide +kernel
theorem d_Real_alignment_9 : decode b_Real_alignment 9 = .ok (.isub, 1) := by decide +kernel
theorem d_Real_alignment_10 : decode b_Real_alignment 10 = .ok (.ireturn, 1) := by decide +kernel
def F_Real_alignment (n : Nat) (K0 : rK) (a1 : Int64) : Option (Int32) := (F_PB_leadingZeros n (F_Real_significand K0 a1)).bind fun x1 => some (x1 - (1 : Int32))
set_option maxHeartbeats 4000000 in
set_option maxRecDepth 100000 in
theorem c_Real_alignment (l : Launch) (o0 : Nat) (n : Nat) (K0 : rK) (a1 : Int64) (r : Int32) (h : F_Real_alignment n K0 a1 = some r) : Met l y_Real_alignment (.code y_Real_alignment b_Real_alignment 3 (some .int) :: BIG) ({ frames := 2, cells := 0, slots := 0, locals := 44 } : Room) (va_Pc [.ref o0, .long a1] (pre1 o0 K0)) (pQ (.int r)) 0 0 (fun _ => False) := by
  refine pOpen_i rfl (Nat.le_of_ble_eq_true rfl) ?_
  intro p e s m args below meth c Q ls hx hb hml hown hts hT hp hl hret
  obtain ⟨hNB, hRe_o0⟩ := hp
  have hown : s.vm.findClass R_Real = some m.cls := hown
  have hl : lv_has ls 3 [(0, .ref o0), (1, .long a1)] := hl
  have h : ((F_PB_leadingZeros n (F_Real_significand K0 a1)).bind fun x1 => some (x1 - (1 : Int32))) = some r := h
  refine lv_aload_n hx hb d_Real_alignment_0 rfl (lv_at hl 0 rfl) ?_
  refine lv_lload_n hx hb d_Real_alignment_1 rfl (lv_at hl 1 rfl) ?_
  refine q_V (As := [.long a1]) (rest := []) (n := 1) hx hb hml hown hts (c_Real_significand l o0 K0 a1) rfl rfl m_54 m_55 m_56 m_57 m_11 (by decide +kernel) ⟨Nat.le_of_ble_eq_true rfl, Nat.le_of_ble_eq_true rfl⟩ (rAt_rc hRe_o0) (p1_bl) (fun U hU hW => p1_mv hU hW hNB hRe_o0) rfl hl.1 rfl (Nat.le_of_ble_eq_true rfl) d_Real_alignment_2 ⟨Nat.zero_le _, Nat.zero_le _⟩ ?_
  obtain ⟨x1, e_x1, h⟩ := bd_o h
  refine q_SN (As := [.long (F_Real_significand K0 a1)]) (rest := []) (n := 1) hx hb hml hown hts (c_PB_leadingZeros l n (F_Real_significand K0 a1) _ e_x1) rfl rfl m_49 (hNB_Real hNB) m_50 m_3 (by decide +kernel) ⟨Nat.le_of_ble_eq_true rfl, Nat.le_of_ble_eq_true rfl⟩ (p0_bl) (fun U hU hW => p0_mv hU hW hNB) rfl hl.1 rfl (Nat.le_of_ble_eq_true rfl) d_Real_alignment_5 ⟨Nat.zero_le _, Nat.zero_le _⟩ ?_
  refine lv_iconst hx hb d_Real_alignment_8 ic_1 ?_
  refine lv_isub hx hb d_Real_alignment_9 ?_
  exact hret 10 ls _ (Option.some.inj h) d_Real_alignment_10
-- Real_aligned
theorem d_Real_aligned_0 : decode b_Real_aligned 0 = .ok (.aload_n 0, 1) := by decide +kernel
theorem d_Real_aligned_1 : decode b_Real_aligned 1 = .ok (.lload_n 1, 1) := by decide +kernel
theorem d_Real_aligned_2 : decode b_Real_aligned 2 = .ok (.invokevirtual 113, 3) := by decide +kernel
theorem d_Real_aligned_5 : decode b_Real_aligned 5 = .ok (.aload_n 0, 1) := by decide +kernel
theorem d_Real_aligned_6 : decode b_Real_aligned 6 = .ok (.lload_n 1, 1) := by decide +kernel
theorem d_Real_aligned_7 : decode b_Real_aligned 7 = .ok (.invokevirtual 132, 3) := by decide +kernel
theorem d_Real_aligned_10 : decode b_Real_aligned 10 = .ok (.lshl, 1) := by decide +kernel
theorem d_Real_aligned_11 : decode b_Real_aligned 11 = .ok (.lreturn, 1) := by decide +kernel
def F_Real_aligned (n : Nat) (K0 : rK) (a1 : Int64) : Option (Int64) := (F_Real_alignment n K0 a1).bind fun x1 => some ((F_Real_significand K0 a1) <<< ((x1).toInt64 &&& 63))
set_option maxHeartbeats 4000000 in
set_option maxRecDepth 100000 in
theorem c_Real_aligned (l : Launch) (o0 : Nat) (n : Nat) (K0 : rK) (a1 : Int64) (r : Int64) (h : F_Real_aligned n K0 a1 = some r) : Met l y_Real_aligned (.code y_Real_aligned b_Real_aligned 3 (some .long) :: BIG) ({ frames := 3, cells := 0, slots := 0, locals := 66 } : Room) (va_Pc [.ref o0, .long a1] (pre1 o0 K0)) (pQ (.long r)) 0 0 (fun _ => False) := by
  refine pOpen_l rfl (Nat.le_of_ble_eq_true rfl) ?_
  intro p e s m args below meth c Q ls hx hb hml hown hts hT hp hl hret
  obtain ⟨hNB, hRe_o0⟩ := hp
  have hown : s.vm.findClass R_Real = some m.cls := hown
  have hl : lv_has ls 3 [(0, .ref o0), (1, .long a1)] := hl
  have h : ((F_Real_alignment n K0 a1).bind fun x1 => some ((F_Real_significand K0 a1) <<< ((x1).toInt64 &&& 63))) = some r := h
  refine lv_aload_n hx hb d_Real_aligned_0 rfl (lv_at hl 0 rfl) ?_
  refine lv_lload_n hx hb d_Real_aligned_1 rfl (lv_at hl 1 rfl) ?_
  refine q_V (As := [.long a1]) (rest := []) (n := 1) hx hb hml hown hts (c_Real_significand l o0 K0 a1) rfl rfl m_54 m_55 m_56 m_57 m_11 (by decide +kernel) ⟨Nat.le_of_ble_eq_true rfl, Nat.le_of_ble_eq_true rfl⟩ (rAt_rc hRe_o0) (p1_bl) (fun U hU hW => p1_mv hU hW hNB hRe_o0) rfl hl.1 rfl (Nat.le_of_ble_eq_true rfl) d_Real_aligned_2 ⟨Nat.zero_le _, Nat.zero_le _⟩ ?_
  refine lv_aload_n hx hb d_Real_aligned_5 rfl (lv_at hl 0 rfl) ?_
  refine lv_lload_n hx hb d_Real_aligned_6 rfl (lv_at hl 1 rfl) ?_
  obtain ⟨x1, e_x1, h⟩ := bd_o h
  refine q_V (As := [.long a1]) (rest := [.long (F_Real_significand K0 a1)]) (n := 1) hx hb hml hown hts (c_Real_alignment l o0 n K0 a1 _ e_x1) rfl rfl m_77 m_78 m_79 m_80 m_11 (by decide +kernel) ⟨Nat.le_of_ble_eq_true rfl, Nat.le_of_ble_eq_true rfl⟩ (rAt_rc hRe_o0) (p1_bl) (fun U hU hW => p1_mv hU hW hNB hRe_o0) rfl hl.1 rfl (Nat.le_of_ble_eq_true rfl) d_Real_aligned_7 ⟨Nat.zero_le _, Nat.zero_le _⟩ ?_
  refine lv_lshl hx hb d_Real_aligned_10 rfl ?_
  exact hret 11 ls _ (Option.some.inj h) d_Real_aligned_11
-- Real_highProduct
theorem d_Real_highProduct_0 : decode b_Real_highProduct 0 = .ok (.lload_n 0, 1) := by decide +kernel
theorem d_Real_highProduct_1 : decode b_Real_highProduct 1 = .ok (.bipush 32, 2) := by decide +kernel
theorem d_Real_highProduct_3 : decode b_Real_highProduct 3 = .ok (.lushr, 1) := by decide +kernel
theorem d_Real_highProduct_4 : decode b_Real_highProduct 4 = .ok (.lstore 4, 2) := by decide +kernel
theorem d_Real_highProduct_6 : decode b_Real_highProduct 6 = .ok (.lload_n 0, 1) := by decide +kernel
theorem d_Real_highProduct_7 : decode b_Real_highProduct 7 = .ok (.ldc2_w 138, 3) := by decide +kernel
theorem d_Real_highProduct_10 : decode b_Real_highProduct 10 = .ok (.land, 1) := by decide +kernel
theorem d_Real_highProduct_11 : decode b_Real_highProduct 11 = .ok (.lstore 6, 2) := by decide +kernel
theorem d_Real_highProduct_13 : decode b_Real_highProduct 13 = .ok (.lload_n 2, 1) := by decide +kernel
theorem d_Real_highProduct_14 : decode b_Real_highProduct 14 = .ok (.bipush 32, 2) := by decide +kernel
theorem d_Real_highProduct_16 : decode b_Real_highProduct 16 = .ok (.lushr, 1) := by decide +kernel
theorem d_Real_highProduct_17 : decode b_Real_highProduct 17 = .ok (.lstore 8, 2) := by decide +kernel
theorem d_Real_highProduct_19 : decode b_Real_highProduct 19 = .ok (.lload_n 2, 1) := by decide +kernel
theorem d_Real_highProduct_20 : decode b_Real_highProduct 20 = .ok (.ldc2_w 138, 3) := by decide +kernel
theorem d_Real_highProduct_23 : decode b_Real_highProduct 23 = .ok (.land, 1) := by decide +kernel
theorem d_Real_highProduct_24 : decode b_Real_highProduct 24 = .ok (.lstore 10, 2) := by decide +kernel
theorem d_Real_highProduct_26 : decode b_Real_highProduct 26 = .ok (.lload 4, 2) := by decide +kernel
theorem d_Real_highProduct_28 : decode b_Real_highProduct 28 = .ok (.lload 10, 2) := by decide +kernel
theorem d_Real_highProduct_30 : decode b_Real_highProduct 30 = .ok (.lmul, 1) := by decide +kernel
theorem d_Real_highProduct_31 : decode b_Real_highProduct 31 = .ok (.lload 6, 2) := by decide +kernel
theorem d_Real_highProduct_33 : decode b_Real_highProduct 33 = .ok (.lload 10, 2) := by decide +kernel
theorem d_Real_highProduct_35 : decode b_Real_highProduct 35 = .ok (.lmul, 1) := by decide +kernel
theorem d_Real_highProduct_36 : decode b_Real_highProduct 36 = .ok (.bipush 32, 2) := by decide +kernel
theorem d_Real_highProduct_38 : decode b_Real_highProduct 38 = .ok (.lushr, 1) := by decide +kernel
theorem d_Real_highProduct_39 : decode b_Real_highProduct 39 = .ok (.ladd, 1) := by decide +kernel
theorem d_Real_highProduct_40 : decode b_Real_highProduct 40 = .ok (.lstore 12, 2) := by decide +kernel
theorem d_Real_highProduct_42 : decode b_Real_highProduct 42 = .ok (.lload 6, 2) := by decide +kernel
theorem d_Real_highProduct_44 : decode b_Real_highProduct 44 = .ok (.lload 8, 2) := by decide +kernel
theorem d_Real_highProduct_46 : decode b_Real_highProduct 46 = .ok (.lmul, 1) := by decide +kernel
theorem d_Real_highProduct_47 : decode b_Real_highProduct 47 = .ok (.lload 12, 2) := by decide +kernel
theorem d_Real_highProduct_49 : decode b_Real_highProduct 49 = .ok (.ldc2_w 138, 3) := by decide +kernel
theorem d_Real_highProduct_52 : decode b_Real_highProduct 52 = .ok (.land, 1) := by decide +kernel
theorem d_Real_highProduct_53 : decode b_Real_highProduct 53 = .ok (.ladd, 1) := by decide +kernel
theorem d_Real_highProduct_54 : decode b_Real_highProduct 54 = .ok (.lstore 14, 2) := by decide +kernel
theorem d_Real_highProduct_56 : decode b_Real_highProduct 56 = .ok (.lload 4, 2) := by decide +kernel
theorem d_Real_highProduct_58 : decode b_Real_highProduct 58 = .ok (.lload 8, 2) := by decide +kernel
theorem d_Real_highProduct_60 : decode b_Real_highProduct 60 = .ok (.lmul, 1) := by decide +kernel
theorem d_Real_highProduct_61 : decode b_Real_highProduct 61 = .ok (.lload 12, 2) := by decide +kernel
theorem d_Real_highProduct_63 : decode b_Real_highProduct 63 = .ok (.bipush 32, 2) := by decide +kernel
theorem d_Real_highProduct_65 : decode b_Real_highProduct 65 = .ok (.lushr, 1) := by decide +kernel
theorem d_Real_highProduct_66 : decode b_Real_highProduct 66 = .ok (.ladd, 1) := by decide +kernel
theorem d_Real_highProduct_67 : decode b_Real_highProduct 67 = .ok (.lload 14, 2) := by decide +kernel
theorem d_Real_highProduct_69 : decode b_Real_highProduct 69 = .ok (.bipush 32, 2) := by decide +kernel
theorem d_Real_highProduct_71 : decode b_Real_highProduct 71 = .ok (.lushr, 1) := by decide +kernel
theorem d_Real_highProduct_72 : decode b_Real_highProduct 72 = .ok (.ladd, 1) := by decide +kernel
theorem d_Real_highProduct_73 : decode b_Real_highProduct 73 = .ok (.lreturn, 1) := by decide +kernel
def F_Real_highProduct (a0 : Int64) (a1 : Int64) : Int64 := lt_ (((a0).toUInt64 >>> (((32 : Int32)).toInt64.toUInt64 &&& Int64.toUInt64 63)).toInt64) fun x1 => lt_ (a0 &&& (4294967295 : Int64)) fun x2 => lt_ (((a1).toUInt64 >>> (((32 : Int32)).toInt64.toUInt64 &&& Int64.toUInt64 63)).toInt64) fun x3 => lt_ (a1 &&& (4294967295 : Int64)) fun x4 => lt_ ((x1 * x4) + (((x2 * x4).toUInt64 >>> (((32 : Int32)).toInt64.toUInt64 &&& Int64.toUInt64 63)).toInt64)) fun x5 => lt_ ((x2 * x3) + (x5 &&& (4294967295 : Int64))) fun x6 => ((x1 * x3) + (((x5).toUInt64 >>> (((32 : Int32)).toInt64.toUInt64 &&& Int64.toUInt64 63)).toInt64)) + (((x6).toUInt64 >>> (((32 : Int32)).toInt64.toUInt64 &&& Int64.toUInt64 63)).toInt64)
set_option maxHeartbeats 4000000 in
set_option maxRecDepth 100000 in
theorem c_Real_highProduct (l : Launch) (a0 : Int64) (a1 : Int64) : Met l y_Real_highProduct (.code y_Real_highProduct b_Real_highProduct 16 (some .long) :: BIG) ({ frames := 0, cells := 0, slots := 0, locals := 0 } : Room) (va_Pc [.long a0, .long a1] (pre0)) (pQ (.long (F_Real_highProduct a0 a1))) 0 0 (fun _ => False) := by
  refine pOpen_l rfl (Nat.le_of_ble_eq_true rfl) ?_
  intro p e s m args below meth c Q ls hx hb hml hown hts hT hp hl hret
  have hNB := hp
  have hown : s.vm.findClass R_Real = some m.cls := hown
  have hl : lv_has ls 16 [(0, .long a0), (2, .long a1)] := hl
  obtain ⟨r, h⟩ : ∃ r, F_Real_highProduct a0 a1 = r := ⟨_, rfl⟩
  rw [h] at hret
  have h : (lt_ (((a0).toUInt64 >>> (((32 : Int32)).toInt64.toUInt64 &&& Int64.toUInt64 63)).toInt64) fun x1 => lt_ (a0 &&& (4294967295 : Int64)) fun x2 => lt_ (((a1).toUInt64 >>> (((32 : Int32)).toInt64.toUInt64 &&& Int64.toUInt64 63)).toInt64) fun x3 => lt_ (a1 &&& (4294967295 : Int64)) fun x4 => lt_ ((x1 * x4) + (((x2 * x4).toUInt64 >>> (((32 : Int32)).toInt64.toUInt64 &&& Int64.toUInt64 63)).toInt64)) fun x5 => lt_ ((x2 * x3) + (x5 &&& (4294967295 : Int64))) fun x6 => ((x1 * x3) + (((x5).toUInt64 >>> (((32 : Int32)).toInt64.toUInt64 &&& Int64.toUInt64 63)).toInt64)) + (((x6).toUInt64 >>> (((32 : Int32)).toInt64.toUInt64 &&& Int64.toUInt64 63)).toInt64)) = r := h
  refine lv_lload_n hx hb d_Real_highProduct_0 rfl (lv_at hl 0 rfl) ?_
  refine lv_bipush hx hb d_Real_highProduct_1 bp_32 ?_
  refine lv_lushr hx hb d_Real_highProduct_3 rfl ?_
  refine lv_topl (fun x1 e_x1 => ?_)
  have h := lt_h e_x1 h
  refine lv_lstore hx hb d_Real_highProduct_4 hl (by decide) rfl (fun ls hl => ?_)
  have hl : lv_has ls 16 [(4, .long x1), (0, .long a0), (2, .long a1)] := hl
  refine lv_lload_n hx hb d_Real_highProduct_6 rfl (lv_at hl 1 rfl) ?_
  refine lv_ldc2 hx hb hown (hT _ m_81) d_Real_highProduct_7 ?_
  refine lv_land hx hb d_Real_highProduct_10 ?_
  refine lv_topl (fun x2 e_x2 => ?_)
  have h := lt_h e_x2 h
  refine lv_lstore hx hb d_Real_highProduct_11 hl (by decide) rfl (fun ls hl => ?_)
  have hl : lv_has ls 16 [(6, .long x2), (4, .long x1), (0, .long a0), (2, .long a1)] := hl
  refine lv_lload_n hx hb d_Real_highProduct_13 rfl (lv_at hl 3 rfl) ?_
  refine lv_bipush hx hb d_Real_highProduct_14 bp_32 ?_
  refine lv_lushr hx hb d_Real_highProduct_16 rfl ?_
  refine lv_topl (fun x3 e_x3 => ?_)
  have h := lt_h e_x3 h
  refine lv_lstore hx hb d_Real_highProduct_17 hl (by decide) rfl (fun ls hl => ?_)
  have hl : lv_has ls 16 [(8, .long x3), (6, .long x2), (4, .long x1), (0, .long a0), (2, .long a1)] := hl
  refine lv_lload_n hx hb d_Real_highProduct_19 rfl (lv_at hl 4 rfl) ?_
  refine lv_ldc2 hx hb hown (hT _ m_81) d_Real_highProduct_20 ?_
  refine lv_land hx hb d_Real_highProduct_23 ?_
  refine lv_topl (fun x4 e_x4 => ?_)
  have h := lt_h e_x4 h
  refine lv_lstore hx hb d_Real_highProduct_24 hl (by decide) rfl (fun ls hl => ?_)
  have hl : lv_has ls 16 [(10, .long x4), (8, .long x3), (6, .long x2), (4, .long x1), (0, .long a0), (2, .long a1)] := hl
  refine lv_lload hx hb d_Real_highProduct_26 (lv_at hl 3 rfl) ?_
  refine lv_lload hx hb d_Real_highProduct_28 (lv_at hl 0 rfl) ?_
  refine lv_lmul hx hb d_Real_highProduct_30 ?_
  refine lv_lload hx hb d_Real_highProduct_31 (lv_at hl 2 rfl) ?_
  refine lv_lload hx hb d_Real_highProduct_33 (lv_at hl 0 rfl) ?_
  refine lv_lmul hx hb d_Real_highProduct_35 ?_
  refine lv_bipush hx hb d_Real_highProduct_36 bp_32 ?_
  refine lv_lushr hx hb d_Real_highProduct_38 rfl ?_
  refine lv_ladd hx hb d_Real_highProduct_39 ?_
  refine lv_topl (fun x5 e_x5 => ?_)
  have h := lt_h e_x5 h
  refine lv_lstore hx hb d_Real_highProduct_40 hl (by decide) rfl (fun ls hl => ?_)
  have hl : lv_has ls 16 [(12, .long x5), (10, .long x4), (8, .long x3), (6, .long x2), (4, .long x1), (0, .long a0), (2, .long a1)] := hl
  refine lv_lload hx hb d_Real_highProduct_42 (lv_at hl 3 rfl) ?_
  refine lv_lload hx hb d_Real_highProduct_44 (lv_at hl 2 rfl) ?_
  refine lv_lmul hx hb d_Real_highProduct_46 ?_
  refine lv_lload hx hb d_Real_highProduct_47 (lv_at hl 0 rfl) ?_
  refine lv_ldc2 hx hb hown (hT _ m_81) d_Real_highProduct_49 ?_
  refine lv_land hx hb d_Real_highProduct_52 ?_
  refine lv_ladd hx hb d_Real_highProduct_53 ?_
  refine lv_topl (fun x6 e_x6 => ?_)
  have h := lt_h e_x6 h
  refine lv_lstore hx hb d_Real_highProduct_54 hl (by decide) rfl (fun ls hl => ?_)
  have hl : lv_has ls 16 [(14, .long x6), (12, .long x5), (10, .long x4), (8, .long x3), (6, .long x2), (4, .long x1), (0, .long a0), (2, .long a1)] := hl
  refine lv_lload hx hb d_Real_highProduct_56 (lv_at hl 5 rfl) ?_
  refine lv_lload hx hb d_Real_highProduct_58 (lv_at hl 3 rfl) ?_
  refine lv_lmul hx hb d_Real_highProduct_60 ?_
  refine lv_lload hx hb d_Real_highProduct_61 (lv_at hl 1 rfl) ?_
  refine lv_bipush hx hb d_Real_highProduct_63 bp_32 ?_
  refine lv_lushr hx hb d_Real_highProduct_65 rfl ?_
  refine lv_ladd hx hb d_Real_highProduct_66 ?_
  refine lv_lload hx hb d_Real_highProduct_67 (lv_at hl 0 rfl) ?_
  refine lv_bipush hx hb d_Real_highProduct_69 bp_32 ?_
  refine lv_lushr hx hb d_Real_highProduct_71 rfl ?_
  refine lv_ladd hx hb d_Real_highProduct_72 ?_
  exact hret 73 ls _ h d_Real_highProduct_73
-- Real_alignedPower
theorem d_Real_alignedPower_0 : decode b_Real_alignedPower 0 = .ok (.aload_n 0, 1) := by decide +kernel
theorem d_Real_alignedPower_1 : decode b_Real_alignedPower 1 = .ok (.lload_n 1, 1) := by decide +kernel
theorem d_Real_alignedPower_2 : decode b_Real_alignedPower 2 = .ok (.invokevirtual 116, 3) := by decide +kernel
theorem d_Real_alignedPower_5 : decode b_Real_alignedPower 5 = .ok (.aload_n 0, 1) := by decide +kernel
theorem d_Real_alignedPower_6 : decode b_Real_alignedPower 6 = .ok (.lload_n 1, 1) := by decide +kernel
theorem d_Real_alignedPower_7 : decode b_Real_alignedPower 7 = .ok (.invokevirtual 132, 3) := by decide +kernel
theorem d_Real_alignedPower_10 : decode b_Real_alignedPower 10 = .ok (.isub, 1) := by decide +kernel
theorem d_Real_alignedPower_11 : decode b_Real_alignedPower 11 = .ok (.ireturn, 1) := by decide +kernel
def F_Real_alignedPower (n : Nat) (K0 : rK) (a1 : Int64) : Option (Int32) := (F_Real_alignment n K0 a1).bind fun x1 => some ((F_Real_power K0 a1) - x1)
set_option maxHeartbeats 4000000 in
set_option maxRecDepth 100000 in
theorem c_Real_alignedPower (l : Launch) (o0 : Nat) (n : Nat) (K0 : rK) (a1 : Int64) (r : Int32) (h : F_Real_alignedPower n K0 a1 = some r) : Met l y_Real_alignedPower (.code y_Real_alignedPower b_Real_alignedPower 3 (some .int) :: BIG) ({ frames := 3, cells := 0, slots := 0, locals := 66 } : Room) (va_Pc [.ref o0, .long a1] (pre1 o0 K0)) (pQ (.int r)) 0 0 (fun _ => False) := by
  refine pOpen_i rfl (Nat.le_of_ble_eq_true rfl) ?_
  intro p e s m args below meth c Q ls hx hb hml hown hts hT hp hl hret
  obtain ⟨hNB, hRe_o0⟩ := hp
  have hown : s.vm.findClass R_Real = some m.cls := hown
  have hl : lv_has ls 3 [(0, .ref o0), (1, .long a1)] := hl
  have h : ((F_Real_alignment n K0 a1).bind fun x1 => some ((F_Real_power K0 a1) - x1)) = some r := h
  refine lv_aload_n hx hb d_Real_alignedPower_0 rfl (lv_at hl 0 rfl) ?_
  refine lv_lload_n hx hb d_Real_alignedPower_1 rfl (lv_at hl 1 rfl) ?_
  refine q_V (As := [.long a1]) (rest := []) (n := 1) hx hb hml hown hts (c_Real_power l o0 K0 a1) rfl rfl m_58 m_59 m_60 m_61 m_11 (by decide +kernel) ⟨Nat.le_of_ble_eq_true rfl, Nat.le_of_ble_eq_true rfl⟩ (rAt_rc hRe_o0) (p1_bl) (fun U hU hW => p1_mv hU hW hNB hRe_o0) rfl hl.1 rfl (Nat.le_of_ble_eq_true rfl) d_Real_alignedPower_2 ⟨Nat.zero_le _, Nat.zero_le _⟩ ?_
  refine lv_aload_n hx hb d_Real_alignedPower_5 rfl (lv_at hl 0 rfl) ?_
  refine lv_lload_n hx hb d_Real_alignedPower_6 rfl (lv_at hl 1 rfl) ?_
  obtain ⟨x1, e_x1, h⟩ := bd_o h
  refine q_V (As := [.long a1]) (rest := [.int (F_Real_power K0 a1)]) (n := 1) hx hb hml hown hts (c_Real_alignment l o0 n K0 a1 _ e_x1) rfl rfl m_77 m_78 m_79 m_80 m_11 (by decide +kernel) ⟨Nat.le_of_ble_eq_true rfl, Nat.le_of_ble_eq_true rfl⟩ (rAt_rc hRe_o0) (p1_bl) (fun U hU hW => p1_mv hU hW hNB hRe_o0) rfl hl.1 rfl (Nat.le_of_ble_eq_true rfl) d_Real_alignedPower_7 ⟨Nat.zero_le _, Nat.zero_le _⟩ ?_
  refine lv_isub hx hb d_Real_alignedPower_10 ?_
  exact hret 11 ls _ (Option.some.inj h) d_Real_alignedPower_11
-- Real_product
theorem d_Real_product_0 : decode b_Real_product 0 = .ok (.aload_n 0, 1) := by decide +kernel
theorem d_Real_product_1 : decode b_Real_product 1 = .ok (.lload_n 1, 1) := by decide +kernel
theorem d_Real_product_2 : decode b_Real_product 2 = .ok (.invokevirtual 52, 3) := by decide +kernel
theorem d_Real_product_5 : decode b_Real_product 5 = .ok (.aload_n 0, 1) := by decide +kernel
theorem d_Real_product_6 : decode b_Real_product 6 = .ok (.lload_n 3, 1) := by decide +kernel
theorem d_Real_product_7 : decode b_Real_product 7 = .ok (.invokevirtual 52, 3) := by decide +kernel
theorem d_Real_product_10 : decode b_Real_product 10 = .ok (.if_icmp .eq 7, 3) := by decide +kernel
theorem d_Real_product_13 : decode b_Real_product 13 = .ok (.iconst 1, 1) := by decide +kernel
theorem d_Real_product_14 : decode b_Real_product 14 = .ok (.goto 4, 3) := by decide +kernel
theorem d_Real_product_17 : decode b_Real_product 17 = .ok (.iconst 0, 1) := by decide +kernel
theorem d_Real_product_18 : decode b_Real_product 18 = .ok (.istore 5, 2) := by decide +kernel
theorem d_Real_product_20 : decode b_Real_product 20 = .ok (.aload_n 0, 1) := by decide +kernel
theorem d_Real_product_21 : decode b_Real_product 21 = .ok (.lload_n 1, 1) := by decide +kernel
theorem d_Real_product_22 : decode b_Real_product 22 = .ok (.invokevirtual 80, 3) := by decide +kernel
theorem d_Real_product_25 : decode b_Real_product 25 = .ok (.ifCond .ne 11, 3) := by decide +kernel
theorem d_Real_product_28 : decode b_Real_product 28 = .ok (.aload_n 0, 1) := by decide +kernel
theorem d_Real_product_29 : decode b_Real_product 29 = .ok (.lload_n 3, 1) := by decide +kernel
theorem d_Real_product_30 : decode b_Real_product 30 = .ok (.invokevirtual 80, 3) := by decide +kernel
theorem d_Real_product_33 : decode b_Real_product 33 = .ok (.ifCond .eq 37, 3) := by decide +kernel
theorem d_Real_product_36 : decode b_Real_product 36 = .ok (.aload_n 0, 1) := by decide +kernel
theorem d_Real_product_37 : decode b_Real_product 37 = .ok (.lload_n 1, 1) := by decide +kernel
theorem d_Real_product_38 : decode b_Real_product 38 = .ok (.invokevirtual 90, 3) := by decide +kernel
theorem d_Real_product_41 : decode b_Real_product 41 = .ok (.ifCond .ne 11, 3) := by decide +kernel
theorem d_Real_product_44 : decode b_Real_product 44 = .ok (.aload_n 0, 1) := by decide +kernel
theorem d_Real_product_45 : decode b_Real_product 45 = .ok (.lload_n 3, 1) := by decide +kernel
theorem d_Real_product_46 : decode b_Real_product 46 = .ok (.invokevirtual 90, 3) := by decide +kernel
theorem d_Real_product_49 : decode b_Real_product 49 = .ok (.ifCond .eq 10, 3) := by decide +kernel
theorem d_Real_product_52 : decode b_Real_product 52 = .ok (.aload_n 0, 1) := by decide +kernel
theorem d_Real_product_53 : decode b_Real_product 53 = .ok (.invokevirtual 72, 3) := by decide +kernel
theorem d_Real_product_56 : decode b_Real_product 56 = .ok (.goto 13, 3) := by decide +kernel
theorem d_Real_product_59 : decode b_Real_product 59 = .ok (.aload_n 0, 1) := by decide +kernel
theorem d_Real_product_60 : decode b_Real_product 60 = .ok (.iload 5, 2) := by decide +kernel
theorem d_Real_product_62 : decode b_Real_product 62 = .ok (.aload_n 0, 1) := by decide +kernel
theorem d_Real_product_63 : decode b_Real_product 63 = .ok (.getfield 45, 3) := by decide +kernel
theorem d_Real_product_66 : decode b_Real_product 66 = .ok (.invokevirtual 76, 3) := by decide +kernel
theorem d_Real_product_69 : decode b_Real_product 69 = .ok (.lreturn, 1) := by decide +kernel
theorem d_Real_product_70 : decode b_Real_product 70 = .ok (.aload_n 0, 1) := by decide +kernel
theorem d_Real_product_71 : decode b_Real_product 71 = .ok (.lload_n 1, 1) := by decide +kernel
theorem d_Real_product_72 : decode b_Real_product 72 = .ok (.invokevirtual 90, 3) := by decide +kernel
theorem d_Real_product_75 : decode b_Real_product 75 = .ok (.ifCond .ne 11, 3) := by decide +kernel
theorem d_Real_product_78 : decode b_Real_product 78 = .ok (.aload_n 0, 1) := by decide +kernel
theorem d_Real_product_79 : decode b_Real_product 79 = .ok (.lload_n 3, 1) := by decide +kernel
theorem d_Real_product_80 : decode b_Real_product 80 = .ok (.invokevirtual 90, 3) := by decide +kernel
theorem d_Real_product_83 : decode b_Real_product 83 = .ok (.ifCond .eq 11, 3) := by decide +kernel
theorem d_Real_product_86 : decode b_Real_product 86 = .ok (.aload_n 0, 1) := by decide +kernel
theorem d_Real_product_87 : decode b_Real_product 87 = .ok (.iload 5, 2) := by decide +kernel
theorem d_Real_product_89 : decode b_Real_product 89 = .ok (.lconst 0, 1) := by decide +kernel
theorem d_Real_product_90 : decode b_Real_product 90 = .ok (.invokevirtual 76, 3) := by decide +kernel
theorem d_Real_product_93 : decode b_Real_product 93 = .ok (.lreturn, 1) := by decide +kernel
theorem d_Real_product_94 : decode b_Real_product 94 = .ok (.aload_n 0, 1) := by decide +kernel
theorem d_Real_product_95 : decode b_Real_product 95 = .ok (.lload_n 1, 1) := by decide +kernel
theorem d_Real_product_96 : decode b_Real_product 96 = .ok (.invokevirtual 93, 3) := by decide +kernel
theorem d_Real_product_99 : decode b_Real_product 99 = .ok (.lstore 6, 2) := by decide +kernel
theorem d_Real_product_101 : decode b_Real_product 101 = .ok (.aload_n 0, 1) := by decide +kernel
theorem d_Real_product_102 : decode b_Real_product 102 = .ok (.lload_n 3, 1) := by decide +kernel
theorem d_Real_product_103 : decode b_Real_product 103 = .ok (.invokevirtual 93, 3) := by decide +kernel
theorem d_Real_product_106 : decode b_Real_product 106 = .ok (.lstore 8, 2) := by decide +kernel
theorem d_Real_product_108 : decode b_Real_product 108 = .ok (.lload 6, 2) := by decide +kernel
theorem d_Real_product_110 : decode b_Real_product 110 = .ok (.lload 8, 2) := by decide +kernel
theorem d_Real_product_112 : decode b_Real_product 112 = .ok (.invokestatic 96, 3) := by decide +kernel
theorem d_Real_product_115 : decode b_Real_product 115 = .ok (.lload 6, 2) := by decide +kernel
theorem d_Real_product_117 : decode b_Real_product 117 = .ok (.lload 8, 2) := by decide +kernel
theorem d_Real_product_119 : decode b_Real_product 119 = .ok (.lmul, 1) := by decide +kernel
theorem d_Real_product_120 : decode b_Real_product 120 = .ok (.lconst 0, 1) := by decide +kernel
theorem d_Real_product_121 : decode b_Real_product 121 = .ok (.lcmp, 1) := by decide +kernel
theorem d_Real_product_122 : decode b_Real_product 122 = .ok (.ifCond .eq 7, 3) := by decide +kernel
theorem d_Real_product_125 : decode b_Real_product 125 = .ok (.iconst 1, 1) := by decide +kernel
theorem d_Real_product_126 : decode b_Real_product 126 = .ok (.goto 4, 3) := by decide +kernel
theorem d_Real_product_129 : decode b_Real_product 129 = .ok (.iconst 0, 1) := by decide +kernel
theorem d_Real_product_130 : decode b_Real_product 130 = .ok (.invokestatic 99, 3) := by decide +kernel
theorem d_Real_product_133 : decode b_Real_product 133 = .ok (.lstore 10, 2) := by decide +kernel
theorem d_Real_product_135 : decode b_Real_product 135 = .ok (.aload_n 0, 1) := by decide +kernel
theorem d_Real_product_136 : decode b_Real_product 136 = .ok (.iload 5, 2) := by decide +kernel
theorem d_Real_product_138 : decode b_Real_product 138 = .ok (.aload_n 0, 1) := by decide +kernel
theorem d_Real_product_139 : decode b_Real_product 139 = .ok (.lload_n 1, 1) := by decide +kernel
theorem d_Real_product_140 : decode b_Real_product 140 = .ok (.invokevirtual 103, 3) := by decide +kernel
theorem d_Real_product_143 : decode b_Real_product 143 = .ok (.aload_n 0, 1) := by decide +kernel
theorem d_Real_product_144 : decode b_Real_product 144 = .ok (.lload_n 3, 1) := by decide +kernel
theorem d_Real_product_145 : decode b_Real_product 145 = .ok (.invokevirtual 103, 3) := by decide +kernel
theorem d_Real_product_148 : decode b_Real_product 148 = .ok (.iadd, 1) := by decide +kernel
theorem d_Real_product_149 : decode b_Real_product 149 = .ok (.bipush 64, 2) := by decide +kernel
theorem d_Real_product_151 : decode b_Real_product 151 = .ok (.iadd, 1) := by decide +kernel
theorem d_Real_product_152 : decode b_Real_product 152 = .ok (.lload 10, 2) := by decide +kernel
theorem d_Real_product_154 : decode b_Real_product 154 = .ok (.invokevirtual 106, 3) := by decide +kernel
theorem d_Real_product_157 : decode b_Real_product 157 = .ok (.lreturn, 1) := by decide +kernel
def F_Real_product (n : Nat) (K0 : rK) (a1 : Int64) (a2 : Int64) : Option (Int64) := lt_ (if (F_Real_isNegative K0 a1) = (F_Real_isNegative K0 a2) then (0 : Int32) else (1 : Int32)) fun x1 => lt_ (fun (_ : Unit) => lt_ (if ¬ (F_Real_isZero K0 a1) = 0 then F_Real_nan K0 else if (F_Real_isZero K0 a2) = 0 then F_Real_signed K0 x1 K0.2.2.2.2 else F_Real_nan K0) fun x2 => some x2) fun j36 => if ¬ (F_Real_isInfinite K0 a1) = 0 then (j36 ()) else (if (F_Real_isInfinite K0 a2) = 0 then (lt_ (fun (_ : Unit) => some (F_Real_signed K0 x1 (0 : Int64))) fun j86 => if ¬ (F_Real_isZero K0 a1) = 0 then (j86 ()) else (if (F_Real_isZero K0 a2) = 0 then ((F_Real_aligned n K0 a1).bind fun x3 => (F_Real_aligned n K0 a2).bind fun x4 => lt_ (if (x3 * x4) = (0 : Int64) then (0 : Int32) else (1 : Int32)) fun x5 => lt_ (F_Real_jammed (F_Real_highProduct x3 x4) x5) fun x6 => (F_Real_alignedPower n K0 a1).bind fun x7 => (F_Real_alignedPower n K0 a2).bind fun x8 => (F_Real_rounded n K0 x1 ((x7 + x8) + (64 : Int32)) x6).bind fun x9 => some x9) else (j86 ()))) else (j36 ()))
set_option maxHeartbeats 4000000 in
set_option maxRecDepth 100000 in
theorem c_Real_product (l : Launch) (o0 : Nat) (n : Nat) (K0 : rK) (a1 : Int64) (a2 : Int64) (r : Int64) (h : F_Real_product n K0 a1 a2 = some r) : Met l y_Real_product (.code y_Real_product b_Real_product 12 (some .long) :: BIG) ({ frames := 4, cells := 0, slots := 0, locals := 88 } : Room) (va_Pc [.ref o0, .long a1, .long a2] (pre1 o0 K0)) (pQ (.long r)) 0 0 (fun _ => False) := by
  refine pOpen_l rfl (Nat.le_of_ble_eq_true rfl) ?_
  intro p e s m args below meth c Q ls hx hb hml hown hts hT hp hl hret
  obtain ⟨hNB, hRe_o0⟩ := hp
  have hown : s.vm.findClass R_Real = some m.cls := hown
  have hl : lv_has ls 12 [(0, .ref o0), (1, .long a1), (3, .long a2)] := hl
  have h : (lt_ (if (F_Real_isNegative K0 a1) = (F_Real_isNegative K0 a2) then (0 : Int32) else (1 : Int32)) fun x1 => lt_ (fun (_ : Unit) => lt_ (if ¬ (F_Real_isZero K0 a1) = 0 then F_Real_nan K0 else if (F_Real_isZero K0 a2) = 0 then F_Real_signed K0 x1 K0.2.2.2.2 else F_Real_nan K0) fun x2 => some x2) fun j36 => if ¬ (F_Real_isInfinite K0 a1) = 0 then (j36 ()) else (if (F_Real_isInfinite K0 a2) = 0 then (lt_ (fun (_ : Unit) => some (F_Real_signed K0 x1 (0 : Int64))) fun j86 => if ¬ (F_Real_isZero K0 a1) = 0 then (j86 ()) else (if (F_Real_isZero K0 a2) = 0 then ((F_Real_aligned n K0 a1).bind fun x3 => (F_Real_aligned n K0 a2).bind fun x4 => lt_ (if (x3 * x4) = (0 : Int64) then (0 : Int32) else (1 : Int32)) fun x5 => lt_ (F_Real_jammed (F_Real_highProduct x3 x4) x5) fun x6 => (F_Real_alignedPower n K0 a1).bind fun x7 => (F_Real_alignedPower n K0 a2).bind fun x8 => (F_Real_rounded n K0 x1 ((x7 + x8) + (64 : Int32)) x6).bind fun x9 => some x9) else (j86 ()))) else (j36 ()))) = some r := h
  refine lv_aload_n hx hb d_Real_product_0 rfl (lv_at hl 0 rfl) ?_
  refine lv_lload_n hx hb d_Real_product_1 rfl (lv_at hl 1 rfl) ?_
  refine q_V (As := [.long a1]) (rest := []) (n := 1) hx hb hml hown hts (c_Real_isNegative l o0 K0 a1) rfl rfl m_12 m_13 m_14 m_15 m_11 (by decide +kernel) ⟨Nat.le_of_ble_eq_true rfl, Nat.le_of_ble_eq_true rfl⟩ (rAt_rc hRe_o0) (p1_bl) (fun U hU hW => p1_mv hU hW hNB hRe_o0) rfl hl.1 rfl (Nat.le_of_ble_eq_true rfl) d_Real_product_2 ⟨Nat.zero_le _, Nat.zero_le _⟩ ?_
  refine lv_aload_n hx hb d_Real_product_5 rfl (lv_at hl 0 rfl) ?_
  refine lv_lload_n hx hb d_Real_product_6 rfl (lv_at hl 2 rfl) ?_
  refine q_V (As := [.long a2]) (rest := [.int (F_Real_isNegative K0 a1)]) (n := 1) hx hb hml hown hts (c_Real_isNegative l o0 K0 a2) rfl rfl m_12 m_13 m_14 m_15 m_11 (by decide +kernel) ⟨Nat.le_of_ble_eq_true rfl, Nat.le_of_ble_eq_true rfl⟩ (rAt_rc hRe_o0) (p1_bl) (fun U hU hW => p1_mv hU hW hNB hRe_o0) rfl hl.1 rfl (Nat.le_of_ble_eq_true rfl) d_Real_product_7 ⟨Nat.zero_le _, Nat.zero_le _⟩ ?_
  obtain ⟨x1, e_x1, h⟩ := lt_o h
  have hJ18 : ∀ (x1' : Int32) (ls : Array Slot), x1 = x1' → lv_has ls 12 [(0, .ref o0), (1, .long a1), (3, .long a2)] → W p l e ({ frames := 4, cells := 0, slots := 0, locals := 88 } : Room) s m args below meth c s.heap [] 0 0 Q (F0 m 18 ls [.int x1']) := by
    intro x1' ls q_x1 hl
    subst q_x1
    refine lv_istore hx hb d_Real_product_18 hl (by decide) rfl (fun ls hl => ?_)
    have hl : lv_has ls 12 [(5, .int x1), (0, .ref o0), (1, .long a1), (3, .long a2)] := hl
    refine lv_aload_n hx hb d_Real_product_20 rfl (lv_at hl 1 rfl) ?_
    refine lv_lload_n hx hb d_Real_product_21 rfl (lv_at hl 2 rfl) ?_
    refine q_V (As := [.long a1]) (rest := []) (n := 1) hx hb hml hown hts (c_Real_isInfinite l o0 K0 a1) rfl rfl m_42 m_43 m_44 m_45 m_11 (by decide +kernel) ⟨Nat.le_of_ble_eq_true rfl, Nat.le_of_ble_eq_true rfl⟩ (rAt_rc hRe_o0) (p1_bl) (fun U hU hW => p1_mv hU hW hNB hRe_o0) rfl hl.1 rfl (Nat.le_of_ble_eq_true rfl) d_Real_product_22 ⟨Nat.zero_le _, Nat.zero_le _⟩ ?_
    obtain ⟨j36, e_j36, h⟩ := lt_o h
    have hJ36 : ∀ (ls : Array Slot), lv_has ls 12 [(0, .ref o0), (1, .long a1), (3, .long a2), (5, .int x1)] → j36 () = some r → W p l e ({ frames := 4, cells := 0, slots := 0, locals := 88 } : Room) s m args below meth c s.heap [] 0 0 Q (F0 m 36 ls []) := by
      intro  ls hl h
      rw [e_j36] at h
      refine lv_aload_n hx hb d_Real_product_36 rfl (lv_at hl 0 rfl) ?_
      refine lv_lload_n hx hb d_Real_product_37 rfl (lv_at hl 1 rfl) ?_
      refine q_V (As := [.long a1]) (rest := []) (n := 1) hx hb hml hown hts (c_Real_isZero l o0 K0 a1) rfl rfl m_82 m_83 m_84 m_85 m_11 (by decide +kernel) ⟨Nat.le_of_ble_eq_true rfl, Nat.le_of_ble_eq_true rfl⟩ (rAt_rc hRe_o0) (p1_bl) (fun U hU hW => p1_mv hU hW hNB hRe_o0) rfl hl.1 rfl (Nat.le_of_ble_eq_true rfl) d_Real_product_38 ⟨Nat.zero_le _, Nat.zero_le _⟩ ?_
      obtain ⟨x2, e_x2, h⟩ := lt_o h
      have hJ69 : ∀ (x2' : Int64) (ls : Array Slot), x2 = x2' → lv_has ls 12 [] → W p l e ({ frames := 4, cells := 0, slots := 0, locals := 88 } : Room) s m args below meth c s.heap [] 0 0 Q (F0 m 69 ls [.long x2']) := by
        intro x2' ls q_x2 hl
        subst q_x2
        exact hret 69 ls _ (Option.some.inj h) d_Real_product_69
      refine lv_if_ne (tgt := 52) hx hb d_Real_product_41 rfl (fun hc => ?_) (fun hc => ?_)
      · have e_x2 := e_x2.trans (if_pos hc)
        refine lv_aload_n hx hb d_Real_product_52 rfl (lv_at hl 0 rfl) ?_
        refine q_V (As := []) (rest := []) (n := 0) hx hb hml hown hts (c_Real_nan l o0 K0) rfl rfl m_38 m_39 m_40 m_41 m_11 (by decide +kernel) ⟨Nat.le_of_ble_eq_true rfl, Nat.le_of_ble_eq_true rfl⟩ (rAt_rc hRe_o0) (p1_bl) (fun U hU hW => p1_mv hU hW hNB hRe_o0) rfl hl.1 rfl (Nat.le_of_ble_eq_true rfl) d_Real_product_53 ⟨Nat.zero_le _, Nat.zero_le _⟩ ?_
        refine lv_goto (tgt := 69) hx hb d_Real_product_56 rfl ?_
        exact hJ69 _ ls e_x2 (lv_sub hl [] rfl)
      · have hc := not_not_intro hc
        have e_x2 := e_x2.trans (if_neg hc)
        refine lv_aload_n hx hb d_Real_product_44 rfl (lv_at hl 0 rfl) ?_
        refine lv_lload_n hx hb d_Real_product_45 rfl (lv_at hl 2 rfl) ?_
        refine q_V (As := [.long a2]) (rest := []) (n := 1) hx hb hml hown hts (c_Real_isZero l o0 K0 a2) rfl rfl m_82 m_83 m_84 m_85 m_11 (by decide +kernel) ⟨Nat.le_of_ble_eq_true rfl, Nat.le_of_ble_eq_true rfl⟩ (rAt_rc hRe_o0) (p1_bl) (fun U hU hW => p1_mv hU hW hNB hRe_o0) rfl hl.1 rfl (Nat.le_of_ble_eq_true rfl) d_Real_product_46 ⟨Nat.zero_le _, Nat.zero_le _⟩ ?_
        refine lv_if_eq (tgt := 59) hx hb d_Real_product_49 rfl (fun hc => ?_) (fun hc => ?_)
        · have e_x2 := e_x2.trans (if_pos hc)
          refine lv_aload_n hx hb d_Real_product_59 rfl (lv_at hl 0 rfl) ?_
          refine lv_iload hx hb d_Real_product_60 (lv_at hl 3 rfl) ?_
          refine lv_aload_n hx hb d_Real_product_62 rfl (lv_at hl 0 rfl) ?_
          refine vk_getf hx hb (hRe_o0.2.2.2.2.2) va_S.rf hown (hT _ m_4) (fun _ h9 => h9) d_Real_product_63 ?_
          refine q_V (As := [.int x1, .long K0.2.2.2.2]) (rest := []) (n := 2) hx hb hml hown hts (c_Real_signed l o0 K0 x1 K0.2.2.2.2) rfl rfl m_34 m_35 m_36 m_37 m_11 (by decide +kernel) ⟨Nat.le_of_ble_eq_true rfl, Nat.le_of_ble_eq_true rfl⟩ (rAt_rc hRe_o0) (p1_bl) (fun U hU hW => p1_mv hU hW hNB hRe_o0) rfl hl.1 rfl (Nat.le_of_ble_eq_true rfl) d_Real_product_66 ⟨Nat.zero_le _, Nat.zero_le _⟩ ?_
          exact hJ69 _ ls e_x2 (lv_sub hl [] rfl)
        · have e_x2 := e_x2.trans (if_neg hc)
          refine lv_aload_n hx hb d_Real_product_52 rfl (lv_at hl 0 rfl) ?_
          refine q_V (As := []) (rest := []) (n := 0) hx hb hml hown hts (c_Real_nan l o0 K0) rfl rfl m_38 m_39 m_40 m_41 m_11 (by decide +kernel) ⟨Nat.le_of_ble_eq_true rfl, Nat.le_of_ble_eq_true rfl⟩ (rAt_rc hRe_o0) (p1_bl) (fun U hU hW => p1_mv hU hW hNB hRe_o0) rfl hl.1 rfl (Nat.le_of_ble_eq_true rfl) d_Real_product_53 ⟨Nat.zero_le _, Nat.zero_le _⟩ ?_
          refine lv_goto (tgt := 69) hx hb d_Real_product_56 rfl ?_
          exact hJ69 _ ls e_x2 (lv_sub hl [] rfl)
    refine lv_if_ne (tgt := 36) hx hb d_Real_product_25 rfl (fun hc => ?_) (fun hc => ?_)
    · have h := ite_t hc h
      exact hJ36 ls (lv_sub hl [1, 2, 3, 0] rfl) h
    · have hc := not_not_intro hc
      have h := ite_f hc h
      refine lv_aload_n hx hb d_Real_product_28 rfl (lv_at hl 1 rfl) ?_
      refine lv_lload_n hx hb d_Real_product_29 rfl (lv_at hl 3 rfl) ?_
      refine q_V (As := [.long a2]) (rest := []) (n := 1) hx hb hml hown hts (c_Real_isInfinite l o0 K0 a2) rfl rfl m_42 m_43 m_44 m_45 m_11 (by decide +kernel) ⟨Nat.le_of_ble_eq_true rfl, Nat.le_of_ble_eq_true rfl⟩ (rAt_rc hRe_o0) (p1_bl) (fun U hU hW => p1_mv hU hW hNB hRe_o0) rfl hl.1 rfl (Nat.le_of_ble_eq_true rfl) d_Real_product_30 ⟨Nat.zero_le _, Nat.zero_le _⟩ ?_
      refine lv_if_eq (tgt := 70) hx hb d_Real_product_33 rfl (fun hc => ?_) (fun hc => ?_)
      · have h := ite_t hc h
        refine lv_aload_n hx hb d_Real_product_70 rfl (lv_at hl 1 rfl) ?_
        refine lv_lload_n hx hb d_Real_product_71 rfl (lv_at hl 2 rfl) ?_
        refine q_V (As := [.long a1]) (rest := []) (n := 1) hx hb hml hown hts (c_Real_isZero l o0 K0 a1) rfl rfl m_82 m_83 m_84 m_85 m_11 (by decide +kernel) ⟨Nat.le_of_ble_eq_true rfl, Nat.le_of_ble_eq_true rfl⟩ (rAt_rc hRe_o0) (p1_bl) (fun U hU hW => p1_mv hU hW hNB hRe_o0) rfl hl.1 rfl (Nat.le_of_ble_eq_true rfl) d_Real_product_72 ⟨Nat.zero_le _, Nat.zero_le _⟩ ?_
        obtain ⟨j86, e_j86, h⟩ := lt_o h
        have hJ86 : ∀ (ls : Array Slot), lv_has ls 12 [(0, .ref o0), (5, .int x1)] → j86 () = some r → W p l e ({ frames := 4, cells := 0, slots := 0, locals := 88 } : Room) s m args below meth c s.heap [] 0 0 Q (F0 m 86 ls []) := by
          intro  ls hl h
          rw [e_j86] at h
          refine lv_aload_n hx hb d_Real_product_86 rfl (lv_at hl 0 rfl) ?_
          refine lv_iload hx hb d_Real_product_87 (lv_at hl 1 rfl) ?_
          refine lv_lconst hx hb d_Real_product_89 lc_0 ?_
          refine q_V (As := [.int x1, .long (0 : Int64)]) (rest := []) (n := 2) hx hb hml hown hts (c_Real_signed l o0 K0 x1 (0 : Int64)) rfl rfl m_34 m_35 m_36 m_37 m_11 (by decide +kernel) ⟨Nat.le_of_ble_eq_true rfl, Nat.le_of_ble_eq_true rfl⟩ (rAt_rc hRe_o0) (p1_bl) (fun U hU hW => p1_mv hU hW hNB hRe_o0) rfl hl.1 rfl (Nat.le_of_ble_eq_true rfl) d_Real_product_90 ⟨Nat.zero_le _, Nat.zero_le _⟩ ?_
          exact hret 93 ls _ (Option.some.inj h) d_Real_product_93
        refine lv_if_ne (tgt := 86) hx hb d_Real_product_75 rfl (fun hc => ?_) (fun hc => ?_)
        · have h := ite_t hc h
          exact hJ86 ls (lv_sub hl [1, 0] rfl) h
        · have hc := not_not_intro hc
          have h := ite_f hc h
          refine lv_aload_n hx hb d_Real_product_78 rfl (lv_at hl 1 rfl) ?_
          refine lv_lload_n hx hb d_Real_product_79 rfl (lv_at hl 3 rfl) ?_
          refine q_V (As := [.long a2]) (rest := []) (n := 1) hx hb hml hown hts (c_Real_isZero l o0 K0 a2) rfl rfl m_82 m_83 m_84 m_85 m_11 (by decide +kernel) ⟨Nat.le_of_ble_eq_true rfl, Nat.le_of_ble_eq_true rfl⟩ (rAt_rc hRe_o0) (p1_bl) (fun U hU hW => p1_mv hU hW hNB hRe_o0) rfl hl.1 rfl (Nat.le_of_ble_eq_true rfl) d_Real_product_80 ⟨Nat.zero_le _, Nat.zero_le _⟩ ?_
          refine lv_if_eq (tgt := 94) hx hb d_Real_product_83 rfl (fun hc => ?_) (fun hc => ?_)
          · have h := ite_t hc h
            refine lv_aload_n hx hb d_Real_product_94 rfl (lv_at hl 1 rfl) ?_
            refine lv_lload_n hx hb d_Real_product_95 rfl (lv_at hl 2 rfl) ?_
            obtain ⟨x3, e_x3, h⟩ := bd_o h
            refine q_V (As := [.long a1]) (rest := []) (n := 1) hx hb hml hown hts (c_Real_aligned l o0 n K0 a1 _ e_x3) rfl rfl m_86 m_87 m_88 m_89 m_11 (by decide +kernel) ⟨Nat.le_of_ble_eq_true rfl, Nat.le_of_ble_eq_true rfl⟩ (rAt_rc hRe_o0) (p1_bl) (fun U hU hW => p1_mv hU hW hNB hRe_o0) rfl hl.1 rfl (Nat.le_of_ble_eq_true rfl) d_Real_product_96 ⟨Nat.zero_le _, Nat.zero_le _⟩ ?_
            refine lv_lstore hx hb d_Real_product_99 hl (by decide) rfl (fun ls hl => ?_)
            have hl : lv_has ls 12 [(6, .long x3), (5, .int x1), (0, .ref o0), (1, .long a1), (3, .long a2)] := hl
            refine lv_aload_n hx hb d_Real_product_101 rfl (lv_at hl 2 rfl) ?_
            refine lv_lload_n hx hb d_Real_product_102 rfl (lv_at hl 4 rfl) ?_
            obtain ⟨x4, e_x4, h⟩ := bd_o h
            refine q_V (As := [.long a2]) (rest := []) (n := 1) hx hb hml hown hts (c_Real_aligned l o0 n K0 a2 _ e_x4) rfl rfl m_86 m_87 m_88 m_89 m_11 (by decide +kernel) ⟨Nat.le_of_ble_eq_true rfl, Nat.le_of_ble_eq_true rfl⟩ (rAt_rc hRe_o0) (p1_bl) (fun U hU hW => p1_mv hU hW hNB hRe_o0) rfl hl.1 rfl (Nat.le_of_ble_eq_true rfl) d_Real_product_103 ⟨Nat.zero_le _, Nat.zero_le _⟩ ?_
            refine lv_lstore hx hb d_Real_product_106 hl (by decide) rfl (fun ls hl => ?_)
            have hl : lv_has ls 12 [(8, .long x4), (6, .long x3), (5, .int x1), (0, .ref o0), (1, .long a1), (3, .long a2)] := hl
            refine lv_lload hx hb d_Real_product_108 (lv_at hl 1 rfl) ?_
            refine lv_lload hx hb d_Real_product_110 (lv_at hl 0 rfl) ?_
            refine q_S (As := [.long x3, .long x4]) (rest := []) (n := 2) hx hb hml hown hts (c_Real_highProduct l x3 x4) rfl rfl m_90 m_91 m_92 m_11 (by decide +kernel) ⟨Nat.le_of_ble_eq_true rfl, Nat.le_of_ble_eq_true rfl⟩ (p0_bl) (fun U hU hW => p0_mv hU hW hNB) rfl hl.1 rfl (Nat.le_of_ble_eq_true rfl) d_Real_product_112 ⟨Nat.zero_le _, Nat.zero_le _⟩ ?_
            refine lv_lload hx hb d_Real_product_115 (lv_at hl 1 rfl) ?_
            refine lv_lload hx hb d_Real_product_117 (lv_at hl 0 rfl) ?_
            refine lv_lmul hx hb d_Real_product_119 ?_
            refine lv_lconst hx hb d_Real_product_120 lc_0 ?_
            refine W.lcmp hx hb d_Real_product_121 ?_
            obtain ⟨x5, e_x5, h⟩ := lt_o h
            have hJ130 : ∀ (x5' : Int32) (ls : Array Slot), x5 = x5' → lv_has ls 12 [(0, .ref o0), (1, .long a1), (3, .long a2), (5, .int x1)] → W p l e ({ frames := 4, cells := 0, slots := 0, locals := 88 } : Room) s m args below meth c s.heap [] 0 0 Q (F0 m 130 ls [.int x5', .long (F_Real_highProduct x3 x4)]) := by
              intro x5' ls q_x5 hl
              subst q_x5
              refine q_S (As := [.long (F_Real_highProduct x3 x4), .int x5]) (rest := []) (n := 2) hx hb hml hown hts (c_Real_jammed l (F_Real_highProduct x3 x4) x5) rfl rfl m_46 m_47 m_48 m_11 (by decide +kernel) ⟨Nat.le_of_ble_eq_true rfl, Nat.le_of_ble_eq_true rfl⟩ (p0_bl) (fun U hU hW => p0_mv hU hW hNB) rfl hl.1 rfl (Nat.le_of_ble_eq_true rfl) d_Real_product_130 ⟨Nat.zero_le _, Nat.zero_le _⟩ ?_
              refine lv_topl (fun x6 e_x6 => ?_)
              have h := lt_h e_x6 h
              refine lv_lstore hx hb d_Real_product_133 hl (by decide) rfl (fun ls hl => ?_)
              have hl : lv_has ls 12 [(10, .long x6), (0, .ref o0), (1, .long a1), (3, .long a2), (5, .int x1)] := hl
              refine lv_aload_n hx hb d_Real_product_135 rfl (lv_at hl 1 rfl) ?_
              refine lv_iload hx hb d_Real_product_136 (lv_at hl 4 rfl) ?_
              refine lv_aload_n hx hb d_Real_product_138 rfl (lv_at hl 1 rfl) ?_
              refine lv_lload_n hx hb d_Real_product_139 rfl (lv_at hl 2 rfl) ?_
              obtain ⟨x7, e_x7, h⟩ := bd_o h
              refine q_V (As := [.long a1]) (rest := [.int x1, .ref o0]) (n := 1) hx hb hml hown hts (c_Real_alignedPower l o0 n K0 a1 _ e_x7) rfl rfl m_93 m_94 m_95 m_96 m_11 (by decide +kernel) ⟨Nat.le_of_ble_eq_true rfl, Nat.le_of_ble_eq_true rfl⟩ (rAt_rc hRe_o0) (p1_bl) (fun U hU hW => p1_mv hU hW hNB hRe_o0) rfl hl.1 rfl (Nat.le_of_ble_eq_true rfl) d_Real_product_140 ⟨Nat.zero_le _, Nat.zero_le _⟩ ?_
              refine lv_aload_n hx hb d_Real_product_143 rfl (lv_at hl 1 rfl) ?_
              refine lv_lload_n hx hb d_Real_product_144 rfl (lv_at hl 3 rfl) ?_
              obtain ⟨x8, e_x8, h⟩ := bd_o h
              refine q_V (As := [.long a2]) (rest := [.int x7, .int x1, .ref o0]) (n := 1) hx hb hml hown hts (c_Real_alignedPower l o0 n K0 a2 _ e_x8) rfl rfl m_93 m_94 m_95 m_96 m_11 (by decide +kernel) ⟨Nat.le_of_ble_eq_true rfl, Nat.le_of_ble_eq_true rfl⟩ (rAt_rc hRe_o0) (p1_bl) (fun U hU hW => p1_mv hU hW hNB hRe_o0) rfl hl.1 rfl (Nat.le_of_ble_eq_true rfl) d_Real_product_145 ⟨Nat.zero_le _, Nat.zero_le _⟩ ?_
              refine lv_iadd hx hb d_Real_product_148 ?_
              refine lv_bipush hx hb d_Real_product_149 bp_64 ?_
              refine lv_iadd hx hb d_Real_product_151 ?_
              refine lv_lload hx hb d_Real_product_152 (lv_at hl 0 rfl) ?_
              obtain ⟨x9, e_x9, h⟩ := bd_o h
              refine q_V (As := [.int x1, .int ((x7 + x8) + (64 : Int32)), .long x6]) (rest := []) (n := 3) hx hb hml hown hts (c_Real_rounded l o0 n K0 x1 ((x7 + x8) + (64 : Int32)) x6 _ e_x9) rfl rfl m_65 m_66 m_67 m_68 m_11 (by decide +kernel) ⟨Nat.le_of_ble_eq_true rfl, Nat.le_of_ble_eq_true rfl⟩ (rAt_rc hRe_o0) (p1_bl) (fun U hU hW => p1_mv hU hW hNB hRe_o0) rfl hl.1 rfl (Nat.le_of_ble_eq_true rfl) d_Real_product_154 ⟨Nat.zero_le _, Nat.zero_le _⟩ ?_
              exact hret 157 ls _ (Option.some.inj h) d_Real_product_157
            refine lv_if_eq (tgt := 129) hx hb d_Real_product_122 rfl (fun hc => ?_) (fun hc => ?_)
            · have hc := (lg_cmp_eq _ _).mp hc
              have e_x5 := e_x5.trans (if_pos hc)
              refine lv_iconst hx hb d_Real_product_129 ic_0 ?_
              exact hJ130 _ ls e_x5 (lv_sub hl [3, 4, 5, 2] rfl)
            · have hc := mt (lg_cmp_eq _ _).mpr hc
              have e_x5 := e_x5.trans (if_neg hc)
              refine lv_iconst hx hb d_Real_product_125 ic_1 ?_
              refine lv_goto (tgt := 130) hx hb d_Real_product_126 rfl ?_
              exact hJ130 _ ls e_x5 (lv_sub hl [3, 4, 5, 2] rfl)
          · have h := ite_f hc h
            exact hJ86 ls (lv_sub hl [1, 0] rfl) h
      · have h := ite_f hc h
        exact hJ36 ls (lv_sub hl [1, 2, 3, 0] rfl) h
  refine lv_icmp_eq (tgt := 17) hx hb d_Real_product_10 rfl (fun hc => ?_) (fun hc => ?_)
  · have e_x1 := e_x1.trans (if_pos hc)
    refine lv_iconst hx hb d_Real_product_17 ic_0 ?_
    exact hJ18 _ ls e_x1 (lv_sub hl [0, 1, 2] rfl)
  · have e_x1 := e_x1.trans (if_neg hc)
    refine lv_iconst hx hb d_Real_product_13 ic_1 ?_
    refine lv_goto (tgt := 18) hx hb d_Real_product_14 rfl ?_
    exact hJ18 _ ls e_x1 (lv_sub hl [0, 1, 2] rfl)
