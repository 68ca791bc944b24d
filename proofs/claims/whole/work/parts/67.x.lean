-- PB_wholeResult
theorem d_PB_wholeResult_0 : decode b_PB_wholeResult 0 = .ok (.iload_n 0, 1) := by decide +kernel
theorem d_PB_wholeResult_1 : decode b_PB_wholeResult 1 = .ok (.iconst 3, 1) := by decide +kernel
theorem d_PB_wholeResult_2 : decode b_PB_wholeResult 2 = .ok (.if_icmp .eq 8, 3) := by decide +kernel
theorem d_PB_wholeResult_5 : decode b_PB_wholeResult 5 = .ok (.iload_n 0, 1) := by decide +kernel
theorem d_PB_wholeResult_6 : decode b_PB_wholeResult 6 = .ok (.iconst 4, 1) := by decide +kernel
theorem d_PB_wholeResult_7 : decode b_PB_wholeResult 7 = .ok (.if_icmp .ne 19, 3) := by decide +kernel
theorem d_PB_wholeResult_10 : decode b_PB_wholeResult 10 = .ok (.lload_n 3, 1) := by decide +kernel
theorem d_PB_wholeResult_11 : decode b_PB_wholeResult 11 = .ok (.lconst 0, 1) := by decide +kernel
theorem d_PB_wholeResult_12 : decode b_PB_wholeResult 12 = .ok (.lcmp, 1) := by decide +kernel
theorem d_PB_wholeResult_13 : decode b_PB_wholeResult 13 = .ok (.ifCond .ne 13, 3) := by decide +kernel
theorem d_PB_wholeResult_16 : decode b_PB_wholeResult 16 = .ok (.new 119, 3) := by decide +kernel
theorem d_PB_wholeResult_19 : decode b_PB_wholeResult 19 = .ok (.dup, 1) := by decide +kernel
theorem d_PB_wholeResult_20 : decode b_PB_wholeResult 20 = .ok (.ldc 121, 2) := by decide +kernel
theorem d_PB_wholeResult_22 : decode b_PB_wholeResult 22 = .ok (.invokespecial 123, 3) := by decide +kernel
theorem d_PB_wholeResult_25 : decode b_PB_wholeResult 25 = .ok (.athrow, 1) := by decide +kernel
theorem d_PB_wholeResult_26 : decode b_PB_wholeResult 26 = .ok (.iload_n 0, 1) := by decide +kernel
theorem d_PB_wholeResult_27 : decode b_PB_wholeResult 27 = .ok (.tableswitch 77 0 7 #[45, 49, 53, 57, 61, 65, 69, 73], 45) := by decide +kernel
theorem d_PB_wholeResult_72 : decode b_PB_wholeResult 72 = .ok (.lload_n 1, 1) := by decide +kernel
theorem d_PB_wholeResult_73 : decode b_PB_wholeResult 73 = .ok (.lload_n 3, 1) := by decide +kernel
theorem d_PB_wholeResult_74 : decode b_PB_wholeResult 74 = .ok (.ladd, 1) := by decide +kernel
theorem d_PB_wholeResult_75 : decode b_PB_wholeResult 75 = .ok (.lreturn, 1) := by decide +kernel
theorem d_PB_wholeResult_76 : decode b_PB_wholeResult 76 = .ok (.lload_n 1, 1) := by decide +kernel
theorem d_PB_wholeResult_77 : decode b_PB_wholeResult 77 = .ok (.lload_n 3, 1) := by decide +kernel
theorem d_PB_wholeResult_78 : decode b_PB_wholeResult 78 = .ok (.lsub, 1) := by decide +kernel
theorem d_PB_wholeResult_79 : decode b_PB_wholeResult 79 = .ok (.lreturn, 1) := by decide +kernel
theorem d_PB_wholeResult_80 : decode b_PB_wholeResult 80 = .ok (.lload_n 1, 1) := by decide +kernel
theorem d_PB_wholeResult_81 : decode b_PB_wholeResult 81 = .ok (.lload_n 3, 1) := by decide +kernel
theorem d_PB_wholeResult_82 : decode b_PB_wholeResult 82 = .ok (.lmul, 1) := by decide +kernel
theorem d_PB_wholeResult_83 : decode b_PB_wholeResult 83 = .ok (.lreturn, 1) := by decide +kernel
theorem d_PB_wholeResult_84 : decode b_PB_wholeResult 84 = .ok (.lload_n 1, 1) := by decide +kernel
theorem d_PB_wholeResult_85 : decode b_PB_wholeResult 85 = .ok (.lload_n 3, 1) := by decide +kernel
theorem d_PB_wholeResult_86 : decode b_PB_wholeResult 86 = .ok (.ldiv, 1) := by decide +kernel
theorem d_PB_wholeResult_87 : decode b_PB_wholeResult 87 = .ok (.lreturn, 1) := by decide +kernel
theorem d_PB_wholeResult_88 : decode b_PB_wholeResult 88 = .ok (.lload_n 1, 1) := by decide +kernel
theorem d_PB_wholeResult_89 : decode b_PB_wholeResult 89 = .ok (.lload_n 3, 1) := by decide +kernel
theorem d_PB_wholeResult_90 : decode b_PB_wholeResult 90 = .ok (.lrem, 1) := by decide +kernel
theorem d_PB_wholeResult_91 : decode b_PB_wholeResult 91 = .ok (.lreturn, 1) := by decide +kernel
theorem d_PB_wholeResult_92 : decode b_PB_wholeResult 92 = .ok (.lload_n 1, 1) := by decide +kernel
theorem d_PB_wholeResult_93 : decode b_PB_wholeResult 93 = .ok (.lload_n 3, 1) := by decide +kernel
theorem d_PB_wholeResult_94 : decode b_PB_wholeResult 94 = .ok (.land, 1) := by decide +kernel
theorem d_PB_wholeResult_95 : decode b_PB_wholeResult 95 = .ok (.lreturn, 1) := by decide +kernel
theorem d_PB_wholeResult_96 : decode b_PB_wholeResult 96 = .ok (.lload_n 1, 1) := by decide +kernel
theorem d_PB_wholeResult_97 : decode b_PB_wholeResult 97 = .ok (.lload_n 3, 1) := by decide +kernel
theorem d_PB_wholeResult_98 : decode b_PB_wholeResult 98 = .ok (.lor, 1) := by decide +kernel
theorem d_PB_wholeResult_99 : decode b_PB_wholeResult 99 = .ok (.lreturn, 1) := by decide +kernel
theorem d_PB_wholeResult_100 : decode b_PB_wholeResult 100 = .ok (.lload_n 1, 1) := by decide +kernel
theorem d_PB_wholeResult_101 : decode b_PB_wholeResult 101 = .ok (.lload_n 3, 1) := by decide +kernel
theorem d_PB_wholeResult_102 : decode b_PB_wholeResult 102 = .ok (.lxor, 1) := by decide +kernel
theorem d_PB_wholeResult_103 : decode b_PB_wholeResult 103 = .ok (.lreturn, 1) := by decide +kernel
theorem d_PB_wholeResult_104 : decode b_PB_wholeResult 104 = .ok (.iload 5, 2) := by decide +kernel
theorem d_PB_wholeResult_106 : decode b_PB_wholeResult 106 = .ok (.iconst 3, 1) := by decide +kernel
theorem d_PB_wholeResult_107 : decode b_PB_wholeResult 107 = .ok (.if_icmp .ne 14, 3) := by decide +kernel
theorem d_PB_wholeResult_110 : decode b_PB_wholeResult 110 = .ok (.iload_n 0, 1) := by decide +kernel
theorem d_PB_wholeResult_111 : decode b_PB_wholeResult 111 = .ok (.lload_n 1, 1) := by decide +kernel
theorem d_PB_wholeResult_112 : decode b_PB_wholeResult 112 = .ok (.l2i, 1) := by decide +kernel
theorem d_PB_wholeResult_113 : decode b_PB_wholeResult 113 = .ok (.lload_n 3, 1) := by decide +kernel
theorem d_PB_wholeResult_114 : decode b_PB_wholeResult 114 = .ok (.l2i, 1) := by decide +kernel
theorem d_PB_wholeResult_115 : decode b_PB_wholeResult 115 = .ok (.invokestatic 124, 3) := by decide +kernel
theorem d_PB_wholeResult_118 : decode b_PB_wholeResult 118 = .ok (.goto 10, 3) := by decide +kernel
theorem d_PB_wholeResult_121 : decode b_PB_wholeResult 121 = .ok (.iload_n 0, 1) := by decide +kernel
theorem d_PB_wholeResult_122 : decode b_PB_wholeResult 122 = .ok (.lload_n 1, 1) := by decide +kernel
theorem d_PB_wholeResult_123 : decode b_PB_wholeResult 123 = .ok (.lload_n 3, 1) := by decide +kernel
theorem d_PB_wholeResult_124 : decode b_PB_wholeResult 124 = .ok (.l2i, 1) := by decide +kernel
theorem d_PB_wholeResult_125 : decode b_PB_wholeResult 125 = .ok (.invokestatic 128, 3) := by decide +kernel
theorem d_PB_wholeResult_128 : decode b_PB_wholeResult 128 = .ok (.lreturn, 1) := by decide +kernel
def F_PB_wholeResult (n : Nat) (a0 : Int32) (a1 : Int64) (a2 : Int64) (a3 : Int32) : Option (Nat ⊕ Int64) := lt_ (fun (_ : Unit) => if a0 = (0 : Int32) then (some (.inr (a1 + a2))) else if a0 = (1 : Int32) then (some (.inr (a1 - a2))) else if a0 = (2 : Int32) then (some (.inr (a1 * a2))) else if a0 = (3 : Int32) then (gz_ (a2 = 0) <| some (.inr (a1 / a2))) else if a0 = (4 : Int32) then (gz_ (a2 = 0) <| some (.inr (a1 - a1 / a2 * a2))) else if a0 = (5 : Int32) then (some (.inr (a1 &&& a2))) else if a0 = (6 : Int32) then (some (.inr (a1 ||| a2))) else if a0 = (7 : Int32) then (some (.inr (a1 ^^^ a2))) else (lt_ (if ¬ a3 = (3 : Int32) then F_PB_shiftedLong a0 a1 ((a2).toInt32) else F_PB_shiftedInt a0 ((a1).toInt32) ((a2).toInt32)) fun x1 => some (.inr x1))) fun j26 => lt_ (fun (_ : Unit) => if ¬ a2 = (0 : Int64) then (j26 ()) else (some (.inl 2))) fun j10 => if a0 = (3 : Int32) then (j10 ()) else (if ¬ a0 = (4 : Int32) then (j26 ()) else (j10 ()))
set_option maxHeartbeats 4000000 in
set_option maxRecDepth 100000 in
theorem c_PB_wholeResult (l : Launch) (hst : l.stackTraces = false) (oF oD : Nat) (kA vA : Nat → Nat) (n : Nat) (a0 : Int32) (a1 : Int64) (a2 : Int64) (a3 : Int32) (r : Nat ⊕ Int64) (h : F_PB_wholeResult n a0 a1 a2 a3 = some r) : vx_Met l y_PB_wholeResult (.code y_PB_wholeResult b_PB_wholeResult 6 (some .long) :: BIG) ({ frames := 6, cells := 1, slots := 6, locals := 90 } : Room) (va_Pc [.int a0, .long a1, .long a2, .int a3] (xPre oF oD kA vA)) (xQl r) (xX r) 1 6 (fun _ => False) := by
  refine xOpen_l hst rfl rfl (Nat.le_of_ble_eq_true rfl) (Nat.le_of_ble_eq_true rfl) (Nat.le_of_ble_eq_true rfl) rfl rfl ?_
  intro p e s m args below meth c Q ls hx hb hml hown hts hT hp hl hret hthr
  have hNB : nB s := hp.1.1
  have hl : lv_has ls 6 [(0, .int a0), (1, .long a1), (3, .long a2), (5, .int a3)] := hl
  have h : (lt_ (fun (_ : Unit) => if a0 = (0 : Int32) then (some (.inr (a1 + a2))) else if a0 = (1 : Int32) then (some (.inr (a1 - a2))) else if a0 = (2 : Int32) then (some (.inr (a1 * a2))) else if a0 = (3 : Int32) then (gz_ (a2 = 0) <| some (.inr (a1 / a2))) else if a0 = (4 : Int32) then (gz_ (a2 = 0) <| some (.inr (a1 - a1 / a2 * a2))) else if a0 = (5 : Int32) then (some (.inr (a1 &&& a2))) else if a0 = (6 : Int32) then (some (.inr (a1 ||| a2))) else if a0 = (7 : Int32) then (some (.inr (a1 ^^^ a2))) else (lt_ (if ¬ a3 = (3 : Int32) then F_PB_shiftedLong a0 a1 ((a2).toInt32) else F_PB_shiftedInt a0 ((a1).toInt32) ((a2).toInt32)) fun x1 => some (.inr x1))) fun j26 => lt_ (fun (_ : Unit) => if ¬ a2 = (0 : Int64) then (j26 ()) else (some (.inl 2))) fun j10 => if a0 = (3 : Int32) then (j10 ()) else (if ¬ a0 = (4 : Int32) then (j26 ()) else (j10 ()))) = some r := h
  refine lv_iload_n hx hb d_PB_wholeResult_0 rfl (lv_at hl 0 rfl) ?_
  refine lv_iconst hx hb d_PB_wholeResult_1 ic_3 ?_
  obtain ⟨j26, e_j26, h⟩ := lt_o h
  have hJ26 : ∀ (ls : Array Slot), lv_has ls 6 [(0, .int a0), (1, .long a1), (3, .long a2), (5, .int a3)] → j26 () = some r → W p l e ({ frames := 6, cells := 1, slots := 6, locals := 90 } : Room) s m args below meth c s.heap [] 0 0 Q (F0 m 26 ls []) := by
    intro  ls hl h
    rw [e_j26] at h
    refine lv_iload_n hx hb d_PB_wholeResult_26 rfl (lv_at hl 0 rfl) ?_
    by_cases hc0 : a0 = (0 : Int32)
    · have h := ite_t hc0 h
      refine lv_tableIn (off := 45) (tgt := 72) hx hb d_PB_wholeResult_27 (by rw [hc0]; decide) (by rw [hc0]; decide) (by rw [hc0]; rfl) rfl ?_
      refine lv_lload_n hx hb d_PB_wholeResult_72 rfl (lv_at hl 1 rfl) ?_
      refine lv_lload_n hx hb d_PB_wholeResult_73 rfl (lv_at hl 2 rfl) ?_
      refine lv_ladd hx hb d_PB_wholeResult_74 ?_
      exact hret 75 ls _ _ _ (Nat.le_of_ble_eq_true rfl) (Nat.le_of_ble_eq_true rfl) (Option.some.inj h).symm d_PB_wholeResult_75
    have h := ite_f hc0 h
    by_cases hc1 : a0 = (1 : Int32)
    · have h := ite_t hc1 h
      refine lv_tableIn (off := 49) (tgt := 76) hx hb d_PB_wholeResult_27 (by rw [hc1]; decide) (by rw [hc1]; decide) (by rw [hc1]; rfl) rfl ?_
      refine lv_lload_n hx hb d_PB_wholeResult_76 rfl (lv_at hl 1 rfl) ?_
      refine lv_lload_n hx hb d_PB_wholeResult_77 rfl (lv_at hl 2 rfl) ?_
      refine lv_lsub hx hb d_PB_wholeResult_78 ?_
      exact hret 79 ls _ _ _ (Nat.le_of_ble_eq_true rfl) (Nat.le_of_ble_eq_true rfl) (Option.some.inj h).symm d_PB_wholeResult_79
    have h := ite_f hc1 h
    by_cases hc2 : a0 = (2 : Int32)
    · have h := ite_t hc2 h
      refine lv_tableIn (off := 53) (tgt := 80) hx hb d_PB_wholeResult_27 (by rw [hc2]; decide) (by rw [hc2]; decide) (by rw [hc2]; rfl) rfl ?_
      refine lv_lload_n hx hb d_PB_wholeResult_80 rfl (lv_at hl 1 rfl) ?_
      refine lv_lload_n hx hb d_PB_wholeResult_81 rfl (lv_at hl 2 rfl) ?_
      refine lv_lmul hx hb d_PB_wholeResult_82 ?_
      exact hret 83 ls _ _ _ (Nat.le_of_ble_eq_true rfl) (Nat.le_of_ble_eq_true rfl) (Option.some.inj h).symm d_PB_wholeResult_83
    have h := ite_f hc2 h
    by_cases hc3 : a0 = (3 : Int32)
    · have h := ite_t hc3 h
      refine lv_tableIn (off := 57) (tgt := 84) hx hb d_PB_wholeResult_27 (by rw [hc3]; decide) (by rw [hc3]; decide) (by rw [hc3]; rfl) rfl ?_
      refine lv_lload_n hx hb d_PB_wholeResult_84 rfl (lv_at hl 1 rfl) ?_
      refine lv_lload_n hx hb d_PB_wholeResult_85 rfl (lv_at hl 2 rfl) ?_
      have hz := gz_n h
      have h := gz_h h
      refine lv_ldiv hx hb d_PB_wholeResult_86 hz ?_
      exact hret 87 ls _ _ _ (Nat.le_of_ble_eq_true rfl) (Nat.le_of_ble_eq_true rfl) (Option.some.inj h).symm d_PB_wholeResult_87
    have h := ite_f hc3 h
    by_cases hc4 : a0 = (4 : Int32)
    · have h := ite_t hc4 h
      refine lv_tableIn (off := 61) (tgt := 88) hx hb d_PB_wholeResult_27 (by rw [hc4]; decide) (by rw [hc4]; decide) (by rw [hc4]; rfl) rfl ?_
      refine lv_lload_n hx hb d_PB_wholeResult_88 rfl (lv_at hl 1 rfl) ?_
      refine lv_lload_n hx hb d_PB_wholeResult_89 rfl (lv_at hl 2 rfl) ?_
      have hz := gz_n h
      have h := gz_h h
      refine lv_lrem hx hb d_PB_wholeResult_90 hz ?_
      exact hret 91 ls _ _ _ (Nat.le_of_ble_eq_true rfl) (Nat.le_of_ble_eq_true rfl) (Option.some.inj h).symm d_PB_wholeResult_91
    have h := ite_f hc4 h
    by_cases hc5 : a0 = (5 : Int32)
    · have h := ite_t hc5 h
      refine lv_tableIn (off := 65) (tgt := 92) hx hb d_PB_wholeResult_27 (by rw [hc5]; decide) (by rw [hc5]; decide) (by rw [hc5]; rfl) rfl ?_
      refine lv_lload_n hx hb d_PB_wholeResult_92 rfl (lv_at hl 1 rfl) ?_
      refine lv_lload_n hx hb d_PB_wholeResult_93 rfl (lv_at hl 2 rfl) ?_
      refine lv_land hx hb d_PB_wholeResult_94 ?_
      exact hret 95 ls _ _ _ (Nat.le_of_ble_eq_true rfl) (Nat.le_of_ble_eq_true rfl) (Option.some.inj h).symm d_PB_wholeResult_95
    have h := ite_f hc5 h
    by_cases hc6 : a0 = (6 : Int32)
    · have h := ite_t hc6 h
      refine lv_tableIn (off := 69) (tgt := 96) hx hb d_PB_wholeResult_27 (by rw [hc6]; decide) (by rw [hc6]; decide) (by rw [hc6]; rfl) rfl ?_
      refine lv_lload_n hx hb d_PB_wholeResult_96 rfl (lv_at hl 1 rfl) ?_
      refine lv_lload_n hx hb d_PB_wholeResult_97 rfl (lv_at hl 2 rfl) ?_
      refine lv_lor hx hb d_PB_wholeResult_98 ?_
      exact hret 99 ls _ _ _ (Nat.le_of_ble_eq_true rfl) (Nat.le_of_ble_eq_true rfl) (Option.some.inj h).symm d_PB_wholeResult_99
    have h := ite_f hc6 h
    by_cases hc7 : a0 = (7 : Int32)
    · have h := ite_t hc7 h
      refine lv_tableIn (off := 73) (tgt := 100) hx hb d_PB_wholeResult_27 (by rw [hc7]; decide) (by rw [hc7]; decide) (by rw [hc7]; rfl) rfl ?_
      refine lv_lload_n hx hb d_PB_wholeResult_100 rfl (lv_at hl 1 rfl) ?_
      refine lv_lload_n hx hb d_PB_wholeResult_101 rfl (lv_at hl 2 rfl) ?_
      refine lv_lxor hx hb d_PB_wholeResult_102 ?_
      exact hret 103 ls _ _ _ (Nat.le_of_ble_eq_true rfl) (Nat.le_of_ble_eq_true rfl) (Option.some.inj h).symm d_PB_wholeResult_103
    have h := ite_f hc7 h
    refine lv_tableOut (tgt := 104) hx hb d_PB_wholeResult_27 (by have n0 := lv_neT hc0 (show ((0 : Int32)).toInt = 0 from rfl); have n1 := lv_neT hc1 (show ((1 : Int32)).toInt = 1 from rfl); have n2 := lv_neT hc2 (show ((2 : Int32)).toInt = 2 from rfl); have n3 := lv_neT hc3 (show ((3 : Int32)).toInt = 3 from rfl); have n4 := lv_neT hc4 (show ((4 : Int32)).toInt = 4 from rfl); have n5 := lv_neT hc5 (show ((5 : Int32)).toInt = 5 from rfl); have n6 := lv_neT hc6 (show ((6 : Int32)).toInt = 6 from rfl); have n7 := lv_neT hc7 (show ((7 : Int32)).toInt = 7 from rfl); omega) rfl ?_
    refine lv_iload hx hb d_PB_wholeResult_104 (lv_at hl 3 rfl) ?_
    refine lv_iconst hx hb d_PB_wholeResult_106 ic_3 ?_
    obtain ⟨x1, e_x1, h⟩ := lt_o h
    have hJ128 : ∀ (x1' : Int64) (ls : Array Slot), x1 = x1' → lv_has ls 6 [] → W p l e ({ frames := 6, cells := 1, slots := 6, locals := 90 } : Room) s m args below meth c s.heap [] 0 0 Q (F0 m 128 ls [.long x1']) := by
      intro x1' ls q_x1 hl
      subst q_x1
      exact hret 128 ls _ _ _ (Nat.le_of_ble_eq_true rfl) (Nat.le_of_ble_eq_true rfl) (Option.some.inj h).symm d_PB_wholeResult_128
    refine lv_icmp_ne (tgt := 121) hx hb d_PB_wholeResult_107 rfl (fun hc => ?_) (fun hc => ?_)
    · have e_x1 := e_x1.trans (if_pos hc)
      refine lv_iload_n hx hb d_PB_wholeResult_121 rfl (lv_at hl 0 rfl) ?_
      refine lv_lload_n hx hb d_PB_wholeResult_122 rfl (lv_at hl 1 rfl) ?_
      refine lv_lload_n hx hb d_PB_wholeResult_123 rfl (lv_at hl 2 rfl) ?_
      refine lv_l2i hx hb d_PB_wholeResult_124 rfl ?_
      refine q_S (As := [.int a0, .long a1, .int ((a2).toInt32)]) (rest := []) (n := 3) hx hb hml hown hts (c_PB_shiftedLong l a0 a1 ((a2).toInt32)) rfl rfl m_440 m_441 m_442 m_3 (by decide +kernel) ⟨Nat.le_of_ble_eq_true rfl, Nat.le_of_ble_eq_true rfl⟩ (p0_bl) (fun U hU hW => p0_mv hU hW hNB) rfl hl.1 rfl (Nat.le_of_ble_eq_true rfl) d_PB_wholeResult_125 ⟨Nat.le_of_ble_eq_true rfl, Nat.le_of_ble_eq_true rfl⟩ ?_
      exact hJ128 _ ls e_x1 (lv_sub hl [] rfl)
    · have hc := not_not_intro hc
      have e_x1 := e_x1.trans (if_neg hc)
      refine lv_iload_n hx hb d_PB_wholeResult_110 rfl (lv_at hl 0 rfl) ?_
      refine lv_lload_n hx hb d_PB_wholeResult_111 rfl (lv_at hl 1 rfl) ?_
      refine lv_l2i hx hb d_PB_wholeResult_112 rfl ?_
      refine lv_lload_n hx hb d_PB_wholeResult_113 rfl (lv_at hl 2 rfl) ?_
      refine lv_l2i hx hb d_PB_wholeResult_114 rfl ?_
      refine q_S (As := [.int a0, .int ((a1).toInt32), .int ((a2).toInt32)]) (rest := []) (n := 3) hx hb hml hown hts (c_PB_shiftedInt l a0 ((a1).toInt32) ((a2).toInt32)) rfl rfl m_443 m_444 m_445 m_3 (by decide +kernel) ⟨Nat.le_of_ble_eq_true rfl, Nat.le_of_ble_eq_true rfl⟩ (p0_bl) (fun U hU hW => p0_mv hU hW hNB) rfl hl.1 rfl (Nat.le_of_ble_eq_true rfl) d_PB_wholeResult_115 ⟨Nat.le_of_ble_eq_true rfl, Nat.le_of_ble_eq_true rfl⟩ ?_
      refine lv_goto (tgt := 128) hx hb d_PB_wholeResult_118 rfl ?_
      exact hJ128 _ ls e_x1 (lv_sub hl [] rfl)
  obtain ⟨j10, e_j10, h⟩ := lt_o h
  have hJ10 : ∀ (ls : Array Slot), lv_has ls 6 [(0, .int a0), (1, .long a1), (3, .long a2), (5, .int a3)] → j10 () = some r → W p l e ({ frames := 6, cells := 1, slots := 6, locals := 90 } : Room) s m args below meth c s.heap [] 0 0 Q (F0 m 10 ls []) := by
    intro  ls hl h
    rw [e_j10] at h
    refine lv_lload_n hx hb d_PB_wholeResult_10 rfl (lv_at hl 2 rfl) ?_
    refine lv_lconst hx hb d_PB_wholeResult_11 lc_0 ?_
    refine W.lcmp hx hb d_PB_wholeResult_12 ?_
    refine lv_if_ne (tgt := 26) hx hb d_PB_wholeResult_13 rfl (fun hc => ?_) (fun hc => ?_)
    · have hc := mt (lg_cmp_eq _ _).mpr hc
      have h := ite_t hc h
      exact hJ26 ls (lv_sub hl [0, 1, 2, 3] rfl) h
    · have hc := not_not_intro ((lg_cmp_eq _ _).mp hc)
      have h := ite_f hc h
      exact hthr.2.1 16 0 121 ls _ (Option.some.inj h).symm (by decide) rfl hl.1 (Nat.le_of_ble_eq_true rfl) d_PB_wholeResult_16 d_PB_wholeResult_19 d_PB_wholeResult_20 d_PB_wholeResult_22 d_PB_wholeResult_25
  refine lv_icmp_eq (tgt := 10) hx hb d_PB_wholeResult_2 rfl (fun hc => ?_) (fun hc => ?_)
  · have h := ite_t hc h
    exact hJ10 ls (lv_sub hl [0, 1, 2, 3] rfl) h
  · have h := ite_f hc h
    refine lv_iload_n hx hb d_PB_wholeResult_5 rfl (lv_at hl 0 rfl) ?_
    refine lv_iconst hx hb d_PB_wholeResult_6 ic_4 ?_
    refine lv_icmp_ne (tgt := 26) hx hb d_PB_wholeResult_7 rfl (fun hc => ?_) (fun hc => ?_)
    · have h := ite_t hc h
      exact hJ26 ls (lv_sub hl [0, 1, 2, 3] rfl) h
    · have hc := not_not_intro hc
      have h := ite_f hc h
      exact hJ10 ls (lv_sub hl [0, 1, 2, 3] rfl) h
-- PB_binary
theorem d_PB_binary_0 : decode b_PB_binary 0 = .ok (.iload 6, 2) := by decide +kernel
theorem d_PB_binary_2 : decode b_PB_binary 2 = .ok (.invokestatic 23, 3) := by decide +kernel
theorem d_PB_binary_5 : decode b_PB_binary 5 = .ok (.ifCond .eq 16, 3) := by decide +kernel
theorem d_PB_binary_8 : decode b_PB_binary 8 = .ok (.iload_n 1, 1) := by decide +kernel
theorem d_PB_binary_9 : decode b_PB_binary 9 = .ok (.ifCond .lt 12, 3) := by decide +kernel
theorem d_PB_binary_12 : decode b_PB_binary 12 = .ok (.iload_n 1, 1) := by decide +kernel
theorem d_PB_binary_13 : decode b_PB_binary 13 = .ok (.iload 6, 2) := by decide +kernel
theorem d_PB_binary_15 : decode b_PB_binary 15 = .ok (.invokestatic 27, 3) := by decide +kernel
theorem d_PB_binary_18 : decode b_PB_binary 18 = .ok (.if_icmp .le 13, 3) := by decide +kernel
theorem d_PB_binary_21 : decode b_PB_binary 21 = .ok (.new 31, 3) := by decide +kernel
theorem d_PB_binary_24 : decode b_PB_binary 24 = .ok (.dup, 1) := by decide +kernel
theorem d_PB_binary_25 : decode b_PB_binary 25 = .ok (.ldc 33, 2) := by decide +kernel
theorem d_PB_binary_27 : decode b_PB_binary 27 = .ok (.invokespecial 35, 3) := by decide +kernel
theorem d_PB_binary_30 : decode b_PB_binary 30 = .ok (.athrow, 1) := by decide +kernel
theorem d_PB_binary_31 : decode b_PB_binary 31 = .ok (.iload 6, 2) := by decide +kernel
theorem d_PB_binary_33 : decode b_PB_binary 33 = .ok (.invokestatic 38, 3) := by decide +kernel
theorem d_PB_binary_36 : decode b_PB_binary 36 = .ok (.ifCond .eq 28, 3) := by decide +kernel
theorem d_PB_binary_39 : decode b_PB_binary 39 = .ok (.iload_n 1, 1) := by decide +kernel
theorem d_PB_binary_40 : decode b_PB_binary 40 = .ok (.lload_n 2, 1) := by decide +kernel
theorem d_PB_binary_41 : decode b_PB_binary 41 = .ok (.iload 6, 2) := by decide +kernel
theorem d_PB_binary_43 : decode b_PB_binary 43 = .ok (.invokestatic 41, 3) := by decide +kernel
theorem d_PB_binary_46 : decode b_PB_binary 46 = .ok (.lload 4, 2) := by decide +kernel
theorem d_PB_binary_48 : decode b_PB_binary 48 = .ok (.iload 6, 2) := by decide +kernel
theorem d_PB_binary_50 : decode b_PB_binary 50 = .ok (.invokestatic 41, 3) := by decide +kernel
theorem d_PB_binary_53 : decode b_PB_binary 53 = .ok (.iload 6, 2) := by decide +kernel
theorem d_PB_binary_55 : decode b_PB_binary 55 = .ok (.invokestatic 45, 3) := by decide +kernel
theorem d_PB_binary_58 : decode b_PB_binary 58 = .ok (.iload 6, 2) := by decide +kernel
theorem d_PB_binary_60 : decode b_PB_binary 60 = .ok (.invokestatic 41, 3) := by decide +kernel
theorem d_PB_binary_63 : decode b_PB_binary 63 = .ok (.lreturn, 1) := by decide +kernel
theorem d_PB_binary_64 : decode b_PB_binary 64 = .ok (.iload_n 1, 1) := by decide +kernel
theorem d_PB_binary_65 : decode b_PB_binary 65 = .ok (.lload_n 2, 1) := by decide +kernel
theorem d_PB_binary_66 : decode b_PB_binary 66 = .ok (.lload 4, 2) := by decide +kernel
theorem d_PB_binary_68 : decode b_PB_binary 68 = .ok (.iload 6, 2) := by decide +kernel
theorem d_PB_binary_70 : decode b_PB_binary 70 = .ok (.invokestatic 49, 3) := by decide +kernel
theorem d_PB_binary_73 : decode b_PB_binary 73 = .ok (.invokestatic 53, 3) := by decide +kernel
theorem d_PB_binary_76 : decode b_PB_binary 76 = .ok (.lreturn, 1) := by decide +kernel
def F_PB_binary (n : Nat) (a1 : Int32) (a2 : Int64) (a3 : Int64) (a4 : Int32) : Option (Nat ⊕ Int64) := lt_ (fun (_ : Unit) => some (.inl 1)) fun j21 => if (F_PB_isArithmetic a4) = 0 then (j21 ()) else (if a1 < 0 then (j21 ()) else (if a1 ≤ (F_PB_lastOperator a4) then (if (F_PB_isWhole a4) = 0 then ((F_PB_realResult n (KR a4) a1 a2 a3).bind fun x1 => some (.inr x1)) else (xb_ (F_PB_wholeResult n a1 (F_PB_wholeOf a2 a4) (F_PB_wholeOf a3 a4) a4) fun x3 => some (.inr (F_PB_wholeOf x3 a4)))) else (j21 ())))
set_option maxHeartbeats 4000000 in
set_option maxRecDepth 100000 in
theorem c_PB_binary (l : Launch) (hst : l.stackTraces = false) (oF oD : Nat) (kA vA : Nat → Nat) (n : Nat) (o0 : Nat) (a1 : Int32) (a2 : Int64) (a3 : Int64) (a4 : Int32) (r : Nat ⊕ Int64) (h : F_PB_binary n a1 a2 a3 a4 = some r) : vx_Met l y_PB_binary (.code y_PB_binary b_PB_binary 7 (some .long) :: BIG) ({ frames := 7, cells := 1, slots := 6, locals := 144 } : Room) (va_Pc [.ref o0, .int a1, .long a2, .long a3, .int a4] (xPre oF oD kA vA)) (xQl r) (xX r) 1 6 (fun _ => False) := by
  refine xOpen_l hst rfl rfl (Nat.le_of_ble_eq_true rfl) (Nat.le_of_ble_eq_true rfl) (Nat.le_of_ble_eq_true rfl) rfl rfl ?_
  intro p e s m args below meth c Q ls hx hb hml hown hts hT hp hl hret hthr
  have hNB : nB s := hp.1.1
  have hl : lv_has ls 7 [(0, .ref o0), (1, .int a1), (2, .long a2), (4, .long a3), (6, .int a4)] := hl
  have h : (lt_ (fun (_ : Unit) => some (.inl 1)) fun j21 => if (F_PB_isArithmetic a4) = 0 then (j21 ()) else (if a1 < 0 then (j21 ()) else (if a1 ≤ (F_PB_lastOperator a4) then (if (F_PB_isWhole a4) = 0 then ((F_PB_realResult n (KR a4) a1 a2 a3).bind fun x1 => some (.inr x1)) else (xb_ (F_PB_wholeResult n a1 (F_PB_wholeOf a2 a4) (F_PB_wholeOf a3 a4) a4) fun x3 => some (.inr (F_PB_wholeOf x3 a4)))) else (j21 ())))) = some r := h
  refine lv_iload hx hb d_PB_binary_0 (lv_at hl 4 rfl) ?_
  refine q_S (As := [.int a4]) (rest := []) (n := 1) hx hb hml hown hts (c_PB_isArithmetic l a4) rfl rfl m_446 m_447 m_448 m_3 (by decide +kernel) ⟨Nat.le_of_ble_eq_true rfl, Nat.le_of_ble_eq_true rfl⟩ (p0_bl) (fun U hU hW => p0_mv hU hW hNB) rfl hl.1 rfl (Nat.le_of_ble_eq_true rfl) d_PB_binary_2 ⟨Nat.le_of_ble_eq_true rfl, Nat.le_of_ble_eq_true rfl⟩ ?_
  obtain ⟨j21, e_j21, h⟩ := lt_o h
  have hJ21 : ∀ (ls : Array Slot), lv_has ls 7 [] → j21 () = some r → W p l e ({ frames := 7, cells := 1, slots := 6, locals := 144 } : Room) s m args below meth c s.heap [] 0 0 Q (F0 m 21 ls []) := by
    intro  ls hl h
    rw [e_j21] at h
    exact hthr.1 21 4 33 ls _ (Option.some.inj h).symm (by decide) rfl hl.1 (Nat.le_of_ble_eq_true rfl) d_PB_binary_21 d_PB_binary_24 d_PB_binary_25 d_PB_binary_27 d_PB_binary_30
  refine lv_if_eq (tgt := 21) hx hb d_PB_binary_5 rfl (fun hc => ?_) (fun hc => ?_)
  · have h := ite_t hc h
    exact hJ21 ls (lv_sub hl [] rfl) h
  · have h := ite_f hc h
    refine lv_iload_n hx hb d_PB_binary_8 rfl (lv_at hl 1 rfl) ?_
    refine lv_if_lt (tgt := 21) hx hb d_PB_binary_9 rfl (fun hc => ?_) (fun hc => ?_)
    · have h := ite_t hc h
      exact hJ21 ls (lv_sub hl [] rfl) h
    · have h := ite_f hc h
      refine lv_iload_n hx hb d_PB_binary_12 rfl (lv_at hl 1 rfl) ?_
      refine lv_iload hx hb d_PB_binary_13 (lv_at hl 4 rfl) ?_
      refine q_S (As := [.int a4]) (rest := [.int a1]) (n := 1) hx hb hml hown hts (c_PB_lastOperator l a4) rfl rfl m_449 m_450 m_451 m_3 (by decide +kernel) ⟨Nat.le_of_ble_eq_true rfl, Nat.le_of_ble_eq_true rfl⟩ (p0_bl) (fun U hU hW => p0_mv hU hW hNB) rfl hl.1 rfl (Nat.le_of_ble_eq_true rfl) d_PB_binary_15 ⟨Nat.le_of_ble_eq_true rfl, Nat.le_of_ble_eq_true rfl⟩ ?_
      refine lv_icmp_le (tgt := 31) hx hb d_PB_binary_18 rfl (fun hc => ?_) (fun hc => ?_)
      · have h := ite_t hc h
        refine lv_iload hx hb d_PB_binary_31 (lv_at hl 4 rfl) ?_
        refine q_S (As := [.int a4]) (rest := []) (n := 1) hx hb hml hown hts (c_PB_isWhole l a4) rfl rfl m_0 m_1 m_2 m_3 (by decide +kernel) ⟨Nat.le_of_ble_eq_true rfl, Nat.le_of_ble_eq_true rfl⟩ (p0_bl) (fun U hU hW => p0_mv hU hW hNB) rfl hl.1 rfl (Nat.le_of_ble_eq_true rfl) d_PB_binary_33 ⟨Nat.le_of_ble_eq_true rfl, Nat.le_of_ble_eq_true rfl⟩ ?_
        refine lv_if_eq (tgt := 64) hx hb d_PB_binary_36 rfl (fun hc => ?_) (fun hc => ?_)
        · have h := ite_t hc h
          refine lv_iload_n hx hb d_PB_binary_64 rfl (lv_at hl 1 rfl) ?_
          refine lv_lload_n hx hb d_PB_binary_65 rfl (lv_at hl 2 rfl) ?_
          refine lv_lload hx hb d_PB_binary_66 (lv_at hl 3 rfl) ?_
          refine lv_iload hx hb d_PB_binary_68 (lv_at hl 4 rfl) ?_
          refine q_S (As := [.int a4]) (rest := [.long a3, .long a2, .int a1]) (n := 1) hx hb hml hown hts (c_PB_realOf l oF oD kA vA a4) rfl rfl mr_3 mr_5 mr_4 mr_6 (by decide +kernel) ⟨Nat.le_of_ble_eq_true rfl, Nat.le_of_ble_eq_true rfl⟩ xPre_bl (fun U hU hW => xPre_of (A := fun _ => False) hU hW va_S.rf hp) rfl hl.1 rfl (Nat.le_of_ble_eq_true rfl) d_PB_binary_70 ⟨Nat.le_of_ble_eq_true rfl, Nat.le_of_ble_eq_true rfl⟩ ?_
          obtain ⟨x1, e_x1, h⟩ := bd_o h
          refine q_S (As := [.int a1, .long a2, .long a3, .ref (oR oF oD a4)]) (rest := []) (n := 4) hx hb hml hown hts (c_PB_realResult l (oR oF oD a4) n (KR a4) a1 a2 a3 _ e_x1) rfl rfl m_452 m_453 m_454 m_3 (by decide +kernel) ⟨Nat.le_of_ble_eq_true rfl, Nat.le_of_ble_eq_true rfl⟩ (p1_bl) (fun U hU hW => p1_mv hU hW hNB (xRe hp a4)) rfl hl.1 rfl (Nat.le_of_ble_eq_true rfl) d_PB_binary_73 ⟨Nat.le_of_ble_eq_true rfl, Nat.le_of_ble_eq_true rfl⟩ ?_
          exact hret 76 ls _ _ _ (Nat.le_of_ble_eq_true rfl) (Nat.le_of_ble_eq_true rfl) (Option.some.inj h).symm d_PB_binary_76
        · have h := ite_f hc h
          refine lv_iload_n hx hb d_PB_binary_39 rfl (lv_at hl 1 rfl) ?_
          refine lv_lload_n hx hb d_PB_binary_40 rfl (lv_at hl 2 rfl) ?_
          refine lv_iload hx hb d_PB_binary_41 (lv_at hl 4 rfl) ?_
          refine q_S (As := [.long a2, .int a4]) (rest := [.int a1]) (n := 2) hx hb hml hown hts (c_PB_wholeOf l a2 a4) rfl rfl m_173 m_174 m_175 m_3 (by decide +kernel) ⟨Nat.le_of_ble_eq_true rfl, Nat.le_of_ble_eq_true rfl⟩ (p0_bl) (fun U hU hW => p0_mv hU hW hNB) rfl hl.1 rfl (Nat.le_of_ble_eq_true rfl) d_PB_binary_43 ⟨Nat.le_of_ble_eq_true rfl, Nat.le_of_ble_eq_true rfl⟩ ?_
          refine lv_lload hx hb d_PB_binary_46 (lv_at hl 3 rfl) ?_
          refine lv_iload hx hb d_PB_binary_48 (lv_at hl 4 rfl) ?_
          refine q_S (As := [.long a3, .int a4]) (rest := [.long (F_PB_wholeOf a2 a4), .int a1]) (n := 2) hx hb hml hown hts (c_PB_wholeOf l a3 a4) rfl rfl m_173 m_174 m_175 m_3 (by decide +kernel) ⟨Nat.le_of_ble_eq_true rfl, Nat.le_of_ble_eq_true rfl⟩ (p0_bl) (fun U hU hW => p0_mv hU hW hNB) rfl hl.1 rfl (Nat.le_of_ble_eq_true rfl) d_PB_binary_50 ⟨Nat.le_of_ble_eq_true rfl, Nat.le_of_ble_eq_true rfl⟩ ?_
          refine lv_iload hx hb d_PB_binary_53 (lv_at hl 4 rfl) ?_
          obtain ⟨x2, e_x2, h⟩ := xb_o h
          refine q_XS (As := [.int a1, .long (F_PB_wholeOf a2 a4), .long (F_PB_wholeOf a3 a4), .int a4]) (rest := []) (n := 4) hx hb hml hown hts (c_PB_wholeResult l hst oF oD kA vA n a1 (F_PB_wholeOf a2 a4) (F_PB_wholeOf a3 a4) a4 x2 e_x2) rfl rfl m_455 m_456 m_457 m_3 (by decide +kernel) ⟨Nat.le_of_ble_eq_true rfl, Nat.le_of_ble_eq_true rfl⟩ hp rfl hl.1 rfl (Nat.le_of_ble_eq_true rfl) d_PB_binary_55 ⟨Nat.le_of_ble_eq_true rfl, Nat.le_of_ble_eq_true rfl⟩ hthr (fun k hk => xb_k h hk) (fun x3 hv => ?_)
          have h := xb_v h hv
          refine lv_iload hx hb d_PB_binary_58 (lv_at hl 4 rfl) ?_
          refine q_S (As := [.long x3, .int a4]) (rest := []) (n := 2) hx hb hml hown hts (c_PB_wholeOf l x3 a4) rfl rfl m_173 m_174 m_175 m_3 (by decide +kernel) ⟨Nat.le_of_ble_eq_true rfl, Nat.le_of_ble_eq_true rfl⟩ (p0_bl) (fun U hU hW => p0_mv hU hW hNB) rfl hl.1 rfl (Nat.le_of_ble_eq_true rfl) d_PB_binary_60 ⟨Nat.le_of_ble_eq_true rfl, Nat.le_of_ble_eq_true rfl⟩ ?_
          exact hret 63 ls _ _ _ (Nat.le_of_ble_eq_true rfl) (Nat.le_of_ble_eq_true rfl) (Option.some.inj h).symm d_PB_binary_63
      · have h := ite_f hc h
        exact hJ21 ls (lv_sub hl [] rfl) h
-- PB_minus
theorem d_PB_minus_0 : decode b_PB_minus 0 = .ok (.iload_n 3, 1) := by decide +kernel
theorem d_PB_minus_1 : decode b_PB_minus 1 = .ok (.invokestatic 23, 3) := by decide +kernel
theorem d_PB_minus_4 : decode b_PB_minus 4 = .ok (.ifCond .ne 13, 3) := by decide +kernel
theorem d_PB_minus_7 : decode b_PB_minus 7 = .ok (.new 31, 3) := by decide +kernel
theorem d_PB_minus_10 : decode b_PB_minus 10 = .ok (.dup, 1) := by decide +kernel
theorem d_PB_minus_11 : decode b_PB_minus 11 = .ok (.ldc 57, 2) := by decide +kernel
theorem d_PB_minus_13 : decode b_PB_minus 13 = .ok (.invokespecial 35, 3) := by decide +kernel
theorem d_PB_minus_16 : decode b_PB_minus 16 = .ok (.athrow, 1) := by decide +kernel
theorem d_PB_minus_17 : decode b_PB_minus 17 = .ok (.iload_n 3, 1) := by decide +kernel
theorem d_PB_minus_18 : decode b_PB_minus 18 = .ok (.invokestatic 38, 3) := by decide +kernel
theorem d_PB_minus_21 : decode b_PB_minus 21 = .ok (.ifCond .eq 12, 3) := by decide +kernel
theorem d_PB_minus_24 : decode b_PB_minus 24 = .ok (.lload_n 1, 1) := by decide +kernel
theorem d_PB_minus_25 : decode b_PB_minus 25 = .ok (.lneg, 1) := by decide +kernel
theorem d_PB_minus_26 : decode b_PB_minus 26 = .ok (.iload_n 3, 1) := by decide +kernel
theorem d_PB_minus_27 : decode b_PB_minus 27 = .ok (.invokestatic 41, 3) := by decide +kernel
theorem d_PB_minus_30 : decode b_PB_minus 30 = .ok (.goto 11, 3) := by decide +kernel
theorem d_PB_minus_33 : decode b_PB_minus 33 = .ok (.iload_n 3, 1) := by decide +kernel
theorem d_PB_minus_34 : decode b_PB_minus 34 = .ok (.invokestatic 49, 3) := by decide +kernel
theorem d_PB_minus_37 : decode b_PB_minus 37 = .ok (.lload_n 1, 1) := by decide +kernel
theorem d_PB_minus_38 : decode b_PB_minus 38 = .ok (.invokevirtual 59, 3) := by decide +kernel
theorem d_PB_minus_41 : decode b_PB_minus 41 = .ok (.lreturn, 1) := by decide +kernel
def F_PB_minus (n : Nat) (a1 : Int64) (a2 : Int32) : Option (Nat ⊕ Int64) := if ¬ (F_PB_isArithmetic a2) = 0 then (lt_ (fun (y1 : Int64) => some (.inr y1)) fun j41 => if (F_PB_isWhole a2) = 0 then (j41 (F_Real_negate (KR a2) a1)) else (j41 (F_PB_wholeOf (-a1) a2))) else (some (.inl 1))
set_option maxHeartbeats 4000000 in
set_option maxRecDepth 100000 in
theorem c_PB_minus (l : Launch) (hst : l.stackTraces = false) (oF oD : Nat) (kA vA : Nat → Nat) (n : Nat) (o0 : Nat) (a1 : Int64) (a2 : Int32) (r : Nat ⊕ Int64) (h : F_PB_minus n a1 a2 = some r) : vx_Met l y_PB_minus (.code y_PB_minus b_PB_minus 4 (some .long) :: BIG) ({ frames := 6, cells := 1, slots := 6, locals := 90 } : Room) (va_Pc [.ref o0, .long a1, .int a2] (xPre oF oD kA vA)) (xQl r) (xX r) 1 6 (fun _ => False) := by
  refine xOpen_l hst rfl rfl (Nat.le_of_ble_eq_true rfl) (Nat.le_of_ble_eq_true rfl) (Nat.le_of_ble_eq_true rfl) rfl rfl ?_
  intro p e s m args below meth c Q ls hx hb hml hown hts hT hp hl hret hthr
  have hNB : nB s := hp.1.1
  have hl : lv_has ls 4 [(0, .ref o0), (1, .long a1), (3, .int a2)] := hl
  have h : (if ¬ (F_PB_isArithmetic a2) = 0 then (lt_ (fun (y1 : Int64) => some (.inr y1)) fun j41 => if (F_PB_isWhole a2) = 0 then (j41 (F_Real_negate (KR a2) a1)) else (j41 (F_PB_wholeOf (-a1) a2))) else (some (.inl 1))) = some r := h
  refine lv_iload_n hx hb d_PB_minus_0 rfl (lv_at hl 2 rfl) ?_
  refine q_S (As := [.int a2]) (rest := []) (n := 1) hx hb hml hown hts (c_PB_isArithmetic l a2) rfl rfl m_446 m_447 m_448 m_3 (by decide +kernel) ⟨Nat.le_of_ble_eq_true rfl, Nat.le_of_ble_eq_true rfl⟩ (p0_bl) (fun U hU hW => p0_mv hU hW hNB) rfl hl.1 rfl (Nat.le_of_ble_eq_true rfl) d_PB_minus_1 ⟨Nat.le_of_ble_eq_true rfl, Nat.le_of_ble_eq_true rfl⟩ ?_
  refine lv_if_ne (tgt := 17) hx hb d_PB_minus_4 rfl (fun hc => ?_) (fun hc => ?_)
  · have h := ite_t hc h
    refine lv_iload_n hx hb d_PB_minus_17 rfl (lv_at hl 2 rfl) ?_
    refine q_S (As := [.int a2]) (rest := []) (n := 1) hx hb hml hown hts (c_PB_isWhole l a2) rfl rfl m_0 m_1 m_2 m_3 (by decide +kernel) ⟨Nat.le_of_ble_eq_true rfl, Nat.le_of_ble_eq_true rfl⟩ (p0_bl) (fun U hU hW => p0_mv hU hW hNB) rfl hl.1 rfl (Nat.le_of_ble_eq_true rfl) d_PB_minus_18 ⟨Nat.le_of_ble_eq_true rfl, Nat.le_of_ble_eq_true rfl⟩ ?_
    obtain ⟨j41, e_j41, h⟩ := lt_o h
    have hJ41 : ∀ (y1 : Int64) (ls : Array Slot), lv_has ls 4 [] → j41 y1 = some r → W p l e ({ frames := 6, cells := 1, slots := 6, locals := 90 } : Room) s m args below meth c s.heap [] 0 0 Q (F0 m 41 ls [.long y1]) := by
      intro y1 ls hl h
      rw [e_j41] at h
      exact hret 41 ls _ _ _ (Nat.le_of_ble_eq_true rfl) (Nat.le_of_ble_eq_true rfl) (Option.some.inj h).symm d_PB_minus_41
    refine lv_if_eq (tgt := 33) hx hb d_PB_minus_21 rfl (fun hc => ?_) (fun hc => ?_)
    · have h := ite_t hc h
      refine lv_iload_n hx hb d_PB_minus_33 rfl (lv_at hl 2 rfl) ?_
      refine q_S (As := [.int a2]) (rest := []) (n := 1) hx hb hml hown hts (c_PB_realOf l oF oD kA vA a2) rfl rfl mr_3 mr_5 mr_4 mr_6 (by decide +kernel) ⟨Nat.le_of_ble_eq_true rfl, Nat.le_of_ble_eq_true rfl⟩ xPre_bl (fun U hU hW => xPre_of (A := fun _ => False) hU hW va_S.rf hp) rfl hl.1 rfl (Nat.le_of_ble_eq_true rfl) d_PB_minus_34 ⟨Nat.le_of_ble_eq_true rfl, Nat.le_of_ble_eq_true rfl⟩ ?_
      refine lv_lload_n hx hb d_PB_minus_37 rfl (lv_at hl 1 rfl) ?_
      refine q_V (As := [.long a1]) (rest := []) (n := 1) hx hb hml hown hts (c_Real_negate l (oR oF oD a2) (KR a2) a1) rfl rfl m_147 m_148 m_149 m_150 m_11 (by decide +kernel) ⟨Nat.le_of_ble_eq_true rfl, Nat.le_of_ble_eq_true rfl⟩ (rAt_rc (xRe hp a2)) (p1_bl) (fun U hU hW => p1_mv hU hW hNB (xRe hp a2)) rfl hl.1 rfl (Nat.le_of_ble_eq_true rfl) d_PB_minus_38 ⟨Nat.le_of_ble_eq_true rfl, Nat.le_of_ble_eq_true rfl⟩ ?_
      exact hJ41 _ ls (lv_sub hl [] rfl) h
    · have h := ite_f hc h
      refine lv_lload_n hx hb d_PB_minus_24 rfl (lv_at hl 1 rfl) ?_
      refine lv_lneg hx hb d_PB_minus_25 ?_
      refine lv_iload_n hx hb d_PB_minus_26 rfl (lv_at hl 2 rfl) ?_
      refine q_S (As := [.long (-a1), .int a2]) (rest := []) (n := 2) hx hb hml hown hts (c_PB_wholeOf l (-a1) a2) rfl rfl m_173 m_174 m_175 m_3 (by decide +kernel) ⟨Nat.le_of_ble_eq_true rfl, Nat.le_of_ble_eq_true rfl⟩ (p0_bl) (fun U hU hW => p0_mv hU hW hNB) rfl hl.1 rfl (Nat.le_of_ble_eq_true rfl) d_PB_minus_27 ⟨Nat.le_of_ble_eq_true rfl, Nat.le_of_ble_eq_true rfl⟩ ?_
      refine lv_goto (tgt := 41) hx hb d_PB_minus_30 rfl ?_
      exact hJ41 _ ls (lv_sub hl [] rfl) h
  · have hc := not_not_intro hc
    have h := ite_f hc h
    exact hthr.1 7 5 57 ls _ (Option.some.inj h).symm (by decide) rfl hl.1 (Nat.le_of_ble_eq_true rfl) d_PB_minus_7 d_PB_minus_10 d_PB_minus_11 d_PB_minus_13 d_PB_minus_16
-- PB_cast
theorem d_PB_cast_0 : decode b_PB_cast 0 = .ok (.iload_n 3, 1) := by decide +kernel
theorem d_PB_cast_1 : decode b_PB_cast 1 = .ok (.ifCond .lt 21, 3) := by decide +kernel
theorem d_PB_cast_4 : decode b_PB_cast 4 = .ok (.iload_n 3, 1) := by decide +kernel
theorem d_PB_cast_5 : decode b_PB_cast 5 = .ok (.bipush 6, 2) := by decide +kernel
theorem d_PB_cast_7 : decode b_PB_cast 7 = .ok (.if_icmp .gt 15, 3) := by decide +kernel
theorem d_PB_cast_10 : decode b_PB_cast 10 = .ok (.iload 4, 2) := by decide +kernel
theorem d_PB_cast_12 : decode b_PB_cast 12 = .ok (.ifCond .lt 10, 3) := by decide +kernel
theorem d_PB_cast_15 : decode b_PB_cast 15 = .ok (.iload 4, 2) := by decide +kernel
theorem d_PB_cast_17 : decode b_PB_cast 17 = .ok (.bipush 6, 2) := by decide +kernel
theorem d_PB_cast_19 : decode b_PB_cast 19 = .ok (.if_icmp .le 13, 3) := by decide +kernel
theorem d_PB_cast_22 : decode b_PB_cast 22 = .ok (.new 31, 3) := by decide +kernel
theorem d_PB_cast_25 : decode b_PB_cast 25 = .ok (.dup, 1) := by decide +kernel
theorem d_PB_cast_26 : decode b_PB_cast 26 = .ok (.ldc 65, 2) := by decide +kernel
theorem d_PB_cast_28 : decode b_PB_cast 28 = .ok (.invokespecial 35, 3) := by decide +kernel
theorem d_PB_cast_31 : decode b_PB_cast 31 = .ok (.athrow, 1) := by decide +kernel
theorem d_PB_cast_32 : decode b_PB_cast 32 = .ok (.iload_n 3, 1) := by decide +kernel
theorem d_PB_cast_33 : decode b_PB_cast 33 = .ok (.invokestatic 38, 3) := by decide +kernel
theorem d_PB_cast_36 : decode b_PB_cast 36 = .ok (.ifCond .eq 39, 3) := by decide +kernel
theorem d_PB_cast_39 : decode b_PB_cast 39 = .ok (.lload_n 1, 1) := by decide +kernel
theorem d_PB_cast_40 : decode b_PB_cast 40 = .ok (.iload_n 3, 1) := by decide +kernel
theorem d_PB_cast_41 : decode b_PB_cast 41 = .ok (.invokestatic 41, 3) := by decide +kernel
theorem d_PB_cast_44 : decode b_PB_cast 44 = .ok (.lstore 5, 2) := by decide +kernel
theorem d_PB_cast_46 : decode b_PB_cast 46 = .ok (.iload 4, 2) := by decide +kernel
theorem d_PB_cast_48 : decode b_PB_cast 48 = .ok (.invokestatic 38, 3) := by decide +kernel
theorem d_PB_cast_51 : decode b_PB_cast 51 = .ok (.ifCond .eq 13, 3) := by decide +kernel
theorem d_PB_cast_54 : decode b_PB_cast 54 = .ok (.lload 5, 2) := by decide +kernel
theorem d_PB_cast_56 : decode b_PB_cast 56 = .ok (.iload 4, 2) := by decide +kernel
theorem d_PB_cast_58 : decode b_PB_cast 58 = .ok (.invokestatic 41, 3) := by decide +kernel
theorem d_PB_cast_61 : decode b_PB_cast 61 = .ok (.goto 13, 3) := by decide +kernel
theorem d_PB_cast_64 : decode b_PB_cast 64 = .ok (.iload 4, 2) := by decide +kernel
theorem d_PB_cast_66 : decode b_PB_cast 66 = .ok (.invokestatic 49, 3) := by decide +kernel
theorem d_PB_cast_69 : decode b_PB_cast 69 = .ok (.lload 5, 2) := by decide +kernel
theorem d_PB_cast_71 : decode b_PB_cast 71 = .ok (.invokevirtual 67, 3) := by decide +kernel
theorem d_PB_cast_74 : decode b_PB_cast 74 = .ok (.lreturn, 1) := by decide +kernel
theorem d_PB_cast_75 : decode b_PB_cast 75 = .ok (.iload 4, 2) := by decide +kernel
theorem d_PB_cast_77 : decode b_PB_cast 77 = .ok (.invokestatic 38, 3) := by decide +kernel
theorem d_PB_cast_80 : decode b_PB_cast 80 = .ok (.ifCond .eq 16, 3) := by decide +kernel
theorem d_PB_cast_83 : decode b_PB_cast 83 = .ok (.lload_n 1, 1) := by decide +kernel
theorem d_PB_cast_84 : decode b_PB_cast 84 = .ok (.iload_n 3, 1) := by decide +kernel
theorem d_PB_cast_85 : decode b_PB_cast 85 = .ok (.invokestatic 49, 3) := by decide +kernel
theorem d_PB_cast_88 : decode b_PB_cast 88 = .ok (.iload 4, 2) := by decide +kernel
theorem d_PB_cast_90 : decode b_PB_cast 90 = .ok (.invokestatic 70, 3) := by decide +kernel
theorem d_PB_cast_93 : decode b_PB_cast 93 = .ok (.goto 16, 3) := by decide +kernel
theorem d_PB_cast_96 : decode b_PB_cast 96 = .ok (.iload 4, 2) := by decide +kernel
theorem d_PB_cast_98 : decode b_PB_cast 98 = .ok (.invokestatic 49, 3) := by decide +kernel
theorem d_PB_cast_101 : decode b_PB_cast 101 = .ok (.lload_n 1, 1) := by decide +kernel
theorem d_PB_cast_102 : decode b_PB_cast 102 = .ok (.iload_n 3, 1) := by decide +kernel
theorem d_PB_cast_103 : decode b_PB_cast 103 = .ok (.invokestatic 49, 3) := by decide +kernel
theorem d_PB_cast_106 : decode b_PB_cast 106 = .ok (.invokevirtual 74, 3) := by decide +kernel
theorem d_PB_cast_109 : decode b_PB_cast 109 = .ok (.lreturn, 1) := by decide +kernel
def F_PB_cast (n : Nat) (a1 : Int64) (a2 : Int32) (a3 : Int32) : Option (Nat ⊕ Int64) := lt_ (fun (_ : Unit) => some (.inl 1)) fun j22 => if a2 < 0 then (j22 ()) else (if (6 : Int32) < a2 then (j22 ()) else (if a3 < 0 then (j22 ()) else (if a3 ≤ (6 : Int32) then (if (F_PB_isWhole a2) = 0 then (lt_ (fun (y1 : Int64) => some (.inr y1)) fun j109 => if (F_PB_isWhole a3) = 0 then ((F_Real_fromReal n (KR a3) (KR a2) a1).bind fun x2 => j109 x2) else (j109 (F_PB_wholeFromReal (KR a2) a1 a3))) else (lt_ (F_PB_wholeOf a1 a2) fun x3 => lt_ (fun (y4 : Int64) => some (.inr y4)) fun j74 => if (F_PB_isWhole a3) = 0 then ((F_Real_fromWhole n (KR a3) x3).bind fun x5 => j74 x5) else (j74 (F_PB_wholeOf x3 a3)))) else (j22 ()))))
set_option maxHeartbeats 4000000 in
set_option maxRecDepth 100000 in
theorem c_PB_cast (l : Launch) (hst : l.stackTraces = false) (oF oD : Nat) (kA vA : Nat → Nat) (n : Nat) (o0 : Nat) (a1 : Int64) (a2 : Int32) (a3 : Int32) (r : Nat ⊕ Int64) (h : F_PB_cast n a1 a2 a3 = some r) : vx_Met l y_PB_cast (.code y_PB_cast b_PB_cast 7 (some .long) :: BIG) ({ frames := 6, cells := 1, slots := 6, locals := 95 } : Room) (va_Pc [.ref o0, .long a1, .int a2, .int a3] (xPre oF oD kA vA)) (xQl r) (xX r) 1 6 (fun _ => False) := by
  refine xOpen_l hst rfl rfl (Nat.le_of_ble_eq_true rfl) (Nat.le_of_ble_eq_true rfl) (Nat.le_of_ble_eq_true rfl) rfl rfl ?_
  intro p e s m args below meth c Q ls hx hb hml hown hts hT hp hl hret hthr
  have hNB : nB s := hp.1.1
  have hl : lv_has ls 7 [(0, .ref o0), (1, .long a1), (3, .int a2), (4, .int a3)] := hl
  have h : (lt_ (fun (_ : Unit) => some (.inl 1)) fun j22 => if a2 < 0 then (j22 ()) else (if (6 : Int32) < a2 then (j22 ()) else (if a3 < 0 then (j22 ()) else (if a3 ≤ (6 : Int32) then (if (F_PB_isWhole a2) = 0 then (lt_ (fun (y1 : Int64) => some (.inr y1)) fun j109 => if (F_PB_isWhole a3) = 0 then ((F_Real_fromReal n (KR a3) (KR a2) a1).bind fun x2 => j109 x2) else (j109 (F_PB_wholeFromReal (KR a2) a1 a3))) else (lt_ (F_PB_wholeOf a1 a2) fun x3 => lt_ (fun (y4 : Int64) => some (.inr y4)) fun j74 => if (F_PB_isWhole a3) = 0 then ((F_Real_fromWhole n (KR a3) x3).bind fun x5 => j74 x5) else (j74 (F_PB_wholeOf x3 a3)))) else (j22 ()))))) = some r := h
  refine lv_iload_n hx hb d_PB_cast_0 rfl (lv_at hl 2 rfl) ?_
  obtain ⟨j22, e_j22, h⟩ := lt_o h
  have hJ22 : ∀ (ls : Array Slot), lv_has ls 7 [] → j22 () = some r → W p l e ({ frames := 6, cells := 1, slots := 6, locals := 95 } : Room) s m args below meth c s.heap [] 0 0 Q (F0 m 22 ls []) := by
    intro  ls hl h
    rw [e_j22] at h
    exact hthr.1 22 6 65 ls _ (Option.some.inj h).symm (by decide) rfl hl.1 (Nat.le_of_ble_eq_true rfl) d_PB_cast_22 d_PB_cast_25 d_PB_cast_26 d_PB_cast_28 d_PB_cast_31
  refine lv_if_lt (tgt := 22) hx hb d_PB_cast_1 rfl (fun hc => ?_) (fun hc => ?_)
  · have h := ite_t hc h
    exact hJ22 ls (lv_sub hl [] rfl) h
  · have h := ite_f hc h
    refine lv_iload_n hx hb d_PB_cast_4 rfl (lv_at hl 2 rfl) ?_
    refine lv_bipush hx hb d_PB_cast_5 bp_6 ?_
    refine lv_icmp_gt (tgt := 22) hx hb d_PB_cast_7 rfl (fun hc => ?_) (fun hc => ?_)
    · have h := ite_t hc h
      exact hJ22 ls (lv_sub hl [] rfl) h
    · have h := ite_f hc h
      refine lv_iload hx hb d_PB_cast_10 (lv_at hl 3 rfl) ?_
      refine lv_if_lt (tgt := 22) hx hb d_PB_cast_12 rfl (fun hc => ?_) (fun hc => ?_)
      · have h := ite_t hc h
        exact hJ22 ls (lv_sub hl [] rfl) h
      · have h := ite_f hc h
        refine lv_iload hx hb d_PB_cast_15 (lv_at hl 3 rfl) ?_
        refine lv_bipush hx hb d_PB_cast_17 bp_6 ?_
        refine lv_icmp_le (tgt := 32) hx hb d_PB_cast_19 rfl (fun hc => ?_) (fun hc => ?_)
        · have h := ite_t hc h
          refine lv_iload_n hx hb d_PB_cast_32 rfl (lv_at hl 2 rfl) ?_
          refine q_S (As := [.int a2]) (rest := []) (n := 1) hx hb hml hown hts (c_PB_isWhole l a2) rfl rfl m_0 m_1 m_2 m_3 (by decide +kernel) ⟨Nat.le_of_ble_eq_true rfl, Nat.le_of_ble_eq_true rfl⟩ (p0_bl) (fun U hU hW => p0_mv hU hW hNB) rfl hl.1 rfl (Nat.le_of_ble_eq_true rfl) d_PB_cast_33 ⟨Nat.le_of_ble_eq_true rfl, Nat.le_of_ble_eq_true rfl⟩ ?_
          refine lv_if_eq (tgt := 75) hx hb d_PB_cast_36 rfl (fun hc => ?_) (fun hc => ?_)
          · have h := ite_t hc h
            refine lv_iload hx hb d_PB_cast_75 (lv_at hl 3 rfl) ?_
            refine q_S (As := [.int a3]) (rest := []) (n := 1) hx hb hml hown hts (c_PB_isWhole l a3) rfl rfl m_0 m_1 m_2 m_3 (by decide +kernel) ⟨Nat.le_of_ble_eq_true rfl, Nat.le_of_ble_eq_true rfl⟩ (p0_bl) (fun U hU hW => p0_mv hU hW hNB) rfl hl.1 rfl (Nat.le_of_ble_eq_true rfl) d_PB_cast_77 ⟨Nat.le_of_ble_eq_true rfl, Nat.le_of_ble_eq_true rfl⟩ ?_
            obtain ⟨j109, e_j109, h⟩ := lt_o h
            have hJ109 : ∀ (y1 : Int64) (ls : Array Slot), lv_has ls 7 [] → j109 y1 = some r → W p l e ({ frames := 6, cells := 1, slots := 6, locals := 95 } : Room) s m args below meth c s.heap [] 0 0 Q (F0 m 109 ls [.long y1]) := by
              intro y1 ls hl h
              rw [e_j109] at h
              exact hret 109 ls _ _ _ (Nat.le_of_ble_eq_true rfl) (Nat.le_of_ble_eq_true rfl) (Option.some.inj h).symm d_PB_cast_109
            refine lv_if_eq (tgt := 96) hx hb d_PB_cast_80 rfl (fun hc => ?_) (fun hc => ?_)
            · have h := ite_t hc h
              refine lv_iload hx hb d_PB_cast_96 (lv_at hl 3 rfl) ?_
              refine q_S (As := [.int a3]) (rest := []) (n := 1) hx hb hml hown hts (c_PB_realOf l oF oD kA vA a3) rfl rfl mr_3 mr_5 mr_4 mr_6 (by decide +kernel) ⟨Nat.le_of_ble_eq_true rfl, Nat.le_of_ble_eq_true rfl⟩ xPre_bl (fun U hU hW => xPre_of (A := fun _ => False) hU hW va_S.rf hp) rfl hl.1 rfl (Nat.le_of_ble_eq_true rfl) d_PB_cast_98 ⟨Nat.le_of_ble_eq_true rfl, Nat.le_of_ble_eq_true rfl⟩ ?_
              refine lv_lload_n hx hb d_PB_cast_101 rfl (lv_at hl 1 rfl) ?_
              refine lv_iload_n hx hb d_PB_cast_102 rfl (lv_at hl 2 rfl) ?_
              refine q_S (As := [.int a2]) (rest := [.long a1, .ref (oR oF oD a3)]) (n := 1) hx hb hml hown hts (c_PB_realOf l oF oD kA vA a2) rfl rfl mr_3 mr_5 mr_4 mr_6 (by decide +kernel) ⟨Nat.le_of_ble_eq_true rfl, Nat.le_of_ble_eq_true rfl⟩ xPre_bl (fun U hU hW => xPre_of (A := fun _ => False) hU hW va_S.rf hp) rfl hl.1 rfl (Nat.le_of_ble_eq_true rfl) d_PB_cast_103 ⟨Nat.le_of_ble_eq_true rfl, Nat.le_of_ble_eq_true rfl⟩ ?_
              obtain ⟨x2, e_x2, h⟩ := bd_o h
              refine q_V (As := [.long a1, .ref (oR oF oD a2)]) (rest := []) (n := 2) hx hb hml hown hts (c_Real_fromReal l (oR oF oD a3) (oR oF oD a2) n (KR a3) (KR a2) a1 _ e_x2) rfl rfl m_458 m_459 m_460 m_461 m_11 (by decide +kernel) ⟨Nat.le_of_ble_eq_true rfl, Nat.le_of_ble_eq_true rfl⟩ (rAt_rc (xRe hp a3)) (p2_bl) (fun U hU hW => p2_mv hU hW hNB (xRe hp a3) (xRe hp a2)) rfl hl.1 rfl (Nat.le_of_ble_eq_true rfl) d_PB_cast_106 ⟨Nat.le_of_ble_eq_true rfl, Nat.le_of_ble_eq_true rfl⟩ ?_
              exact hJ109 _ ls (lv_sub hl [] rfl) h
            · have h := ite_f hc h
              refine lv_lload_n hx hb d_PB_cast_83 rfl (lv_at hl 1 rfl) ?_
              refine lv_iload_n hx hb d_PB_cast_84 rfl (lv_at hl 2 rfl) ?_
              refine q_S (As := [.int a2]) (rest := [.long a1]) (n := 1) hx hb hml hown hts (c_PB_realOf l oF oD kA vA a2) rfl rfl mr_3 mr_5 mr_4 mr_6 (by decide +kernel) ⟨Nat.le_of_ble_eq_true rfl, Nat.le_of_ble_eq_true rfl⟩ xPre_bl (fun U hU hW => xPre_of (A := fun _ => False) hU hW va_S.rf hp) rfl hl.1 rfl (Nat.le_of_ble_eq_true rfl) d_PB_cast_85 ⟨Nat.le_of_ble_eq_true rfl, Nat.le_of_ble_eq_true rfl⟩ ?_
              refine lv_iload hx hb d_PB_cast_88 (lv_at hl 3 rfl) ?_
              refine q_S (As := [.long a1, .ref (oR oF oD a2), .int a3]) (rest := []) (n := 3) hx hb hml hown hts (c_PB_wholeFromReal l (oR oF oD a2) (KR a2) a1 a3) rfl rfl m_462 m_463 m_464 m_3 (by decide +kernel) ⟨Nat.le_of_ble_eq_true rfl, Nat.le_of_ble_eq_true rfl⟩ (p1_bl) (fun U hU hW => p1_mv hU hW hNB (xRe hp a2)) rfl hl.1 rfl (Nat.le_of_ble_eq_true rfl) d_PB_cast_90 ⟨Nat.le_of_ble_eq_true rfl, Nat.le_of_ble_eq_true rfl⟩ ?_
              refine lv_goto (tgt := 109) hx hb d_PB_cast_93 rfl ?_
              exact hJ109 _ ls (lv_sub hl [] rfl) h
          · have h := ite_f hc h
            refine lv_lload_n hx hb d_PB_cast_39 rfl (lv_at hl 1 rfl) ?_
            refine lv_iload_n hx hb d_PB_cast_40 rfl (lv_at hl 2 rfl) ?_
            refine q_S (As := [.long a1, .int a2]) (rest := []) (n := 2) hx hb hml hown hts (c_PB_wholeOf l a1 a2) rfl rfl m_173 m_174 m_175 m_3 (by decide +kernel) ⟨Nat.le_of_ble_eq_true rfl, Nat.le_of_ble_eq_true rfl⟩ (p0_bl) (fun U hU hW => p0_mv hU hW hNB) rfl hl.1 rfl (Nat.le_of_ble_eq_true rfl) d_PB_cast_41 ⟨Nat.le_of_ble_eq_true rfl, Nat.le_of_ble_eq_true rfl⟩ ?_
            refine lv_topl (fun x3 e_x3 => ?_)
            have h := lt_h e_x3 h
            refine lv_lstore hx hb d_PB_cast_44 hl (by decide) rfl (fun ls hl => ?_)
            have hl : lv_has ls 7 [(5, .long x3), (0, .ref o0), (1, .long a1), (3, .int a2), (4, .int a3)] := hl
            refine lv_iload hx hb d_PB_cast_46 (lv_at hl 4 rfl) ?_
            refine q_S (As := [.int a3]) (rest := []) (n := 1) hx hb hml hown hts (c_PB_isWhole l a3) rfl rfl m_0 m_1 m_2 m_3 (by decide +kernel) ⟨Nat.le_of_ble_eq_true rfl, Nat.le_of_ble_eq_true rfl⟩ (p0_bl) (fun U hU hW => p0_mv hU hW hNB) rfl hl.1 rfl (Nat.le_of_ble_eq_true rfl) d_PB_cast_48 ⟨Nat.le_of_ble_eq_true rfl, Nat.le_of_ble_eq_true rfl⟩ ?_
            obtain ⟨j74, e_j74, h⟩ := lt_o h
            have hJ74 : ∀ (y4 : Int64) (ls : Array Slot), lv_has ls 7 [] → j74 y4 = some r → W p l e ({ frames := 6, cells := 1, slots := 6, locals := 95 } : Room) s m args below meth c s.heap [] 0 0 Q (F0 m 74 ls [.long y4]) := by
              intro y4 ls hl h
              rw [e_j74] at h
              exact hret 74 ls _ _ _ (Nat.le_of_ble_eq_true rfl) (Nat.le_of_ble_eq_true rfl) (Option.some.inj h).symm d_PB_cast_74
            refine lv_if_eq (tgt := 64) hx hb d_PB_cast_51 rfl (fun hc => ?_) (fun hc => ?_)
            · have h := ite_t hc h
              refine lv_iload hx hb d_PB_cast_64 (lv_at hl 4 rfl) ?_
              refine q_S (As := [.int a3]) (rest := []) (n := 1) hx hb hml hown hts (c_PB_realOf l oF oD kA vA a3) rfl rfl mr_3 mr_5 mr_4 mr_6 (by decide +kernel) ⟨Nat.le_of_ble_eq_true rfl, Nat.le_of_ble_eq_true rfl⟩ xPre_bl (fun U hU hW => xPre_of (A := fun _ => False) hU hW va_S.rf hp) rfl hl.1 rfl (Nat.le_of_ble_eq_true rfl) d_PB_cast_66 ⟨Nat.le_of_ble_eq_true rfl, Nat.le_of_ble_eq_true rfl⟩ ?_
              refine lv_lload hx hb d_PB_cast_69 (lv_at hl 0 rfl) ?_
              obtain ⟨x5, e_x5, h⟩ := bd_o h
              refine q_V (As := [.long x3]) (rest := []) (n := 1) hx hb hml hown hts (c_Real_fromWhole l (oR oF oD a3) n (KR a3) x3 _ e_x5) rfl rfl m_465 m_466 m_467 m_468 m_11 (by decide +kernel) ⟨Nat.le_of_ble_eq_true rfl, Nat.le_of_ble_eq_true rfl⟩ (rAt_rc (xRe hp a3)) (p1_bl) (fun U hU hW => p1_mv hU hW hNB (xRe hp a3)) rfl hl.1 rfl (Nat.le_of_ble_eq_true rfl) d_PB_cast_71 ⟨Nat.le_of_ble_eq_true rfl, Nat.le_of_ble_eq_true rfl⟩ ?_
              exact hJ74 _ ls (lv_sub hl [] rfl) h
            · have h := ite_f hc h
              refine lv_lload hx hb d_PB_cast_54 (lv_at hl 0 rfl) ?_
              refine lv_iload hx hb d_PB_cast_56 (lv_at hl 4 rfl) ?_
              refine q_S (As := [.long x3, .int a3]) (rest := []) (n := 2) hx hb hml hown hts (c_PB_wholeOf l x3 a3) rfl rfl m_173 m_174 m_175 m_3 (by decide +kernel) ⟨Nat.le_of_ble_eq_true rfl, Nat.le_of_ble_eq_true rfl⟩ (p0_bl) (fun U hU hW => p0_mv hU hW hNB) rfl hl.1 rfl (Nat.le_of_ble_eq_true rfl) d_PB_cast_58 ⟨Nat.le_of_ble_eq_true rfl, Nat.le_of_ble_eq_true rfl⟩ ?_
              refine lv_goto (tgt := 74) hx hb d_PB_cast_61 rfl ?_
              exact hJ74 _ ls (lv_sub hl [] rfl) h
        · have h := ite_f hc h
          exact hJ22 ls (lv_sub hl [] rfl) h
-- PB_compare
theorem d_PB_compare_0 : decode b_PB_compare 0 = .ok (.iload 5, 2) := by decide +kernel
theorem d_PB_compare_2 : decode b_PB_compare 2 = .ok (.invokestatic 23, 3) := by decide +kernel
theorem d_PB_compare_5 : decode b_PB_compare 5 = .ok (.ifCond .ne 13, 3) := by decide +kernel
theorem d_PB_compare_8 : decode b_PB_compare 8 = .ok (.new 31, 3) := by decide +kernel
theorem d_PB_compare_11 : decode b_PB_compare 11 = .ok (.dup, 1) := by decide +kernel
theorem d_PB_compare_12 : decode b_PB_compare 12 = .ok (.ldc 78, 2) := by decide +kernel
theorem d_PB_compare_14 : decode b_PB_compare 14 = .ok (.invokespecial 35, 3) := by decide +kernel
theorem d_PB_compare_17 : decode b_PB_compare 17 = .ok (.athrow, 1) := by decide +kernel
theorem d_PB_compare_18 : decode b_PB_compare 18 = .ok (.iload 5, 2) := by decide +kernel
theorem d_PB_compare_20 : decode b_PB_compare 20 = .ok (.invokestatic 38, 3) := by decide +kernel
theorem d_PB_compare_23 : decode b_PB_compare 23 = .ok (.ifCond .eq 19, 3) := by decide +kernel
theorem d_PB_compare_26 : decode b_PB_compare 26 = .ok (.lload_n 1, 1) := by decide +kernel
theorem d_PB_compare_27 : decode b_PB_compare 27 = .ok (.iload 5, 2) := by decide +kernel
theorem d_PB_compare_29 : decode b_PB_compare 29 = .ok (.invokestatic 41, 3) := by decide +kernel
theorem d_PB_compare_32 : decode b_PB_compare 32 = .ok (.lload_n 3, 1) := by decide +kernel
theorem d_PB_compare_33 : decode b_PB_compare 33 = .ok (.iload 5, 2) := by decide +kernel
theorem d_PB_compare_35 : decode b_PB_compare 35 = .ok (.invokestatic 41, 3) := by decide +kernel
theorem d_PB_compare_38 : decode b_PB_compare 38 = .ok (.invokestatic 80, 3) := by decide +kernel
theorem d_PB_compare_41 : decode b_PB_compare 41 = .ok (.ireturn, 1) := by decide +kernel
theorem d_PB_compare_42 : decode b_PB_compare 42 = .ok (.iload 5, 2) := by decide +kernel
theorem d_PB_compare_44 : decode b_PB_compare 44 = .ok (.invokestatic 49, 3) := by decide +kernel
theorem d_PB_compare_47 : decode b_PB_compare 47 = .ok (.astore 6, 2) := by decide +kernel
theorem d_PB_compare_49 : decode b_PB_compare 49 = .ok (.aload 6, 2) := by decide +kernel
theorem d_PB_compare_51 : decode b_PB_compare 51 = .ok (.lload_n 1, 1) := by decide +kernel
theorem d_PB_compare_52 : decode b_PB_compare 52 = .ok (.invokevirtual 84, 3) := by decide +kernel
theorem d_PB_compare_55 : decode b_PB_compare 55 = .ok (.ifCond .ne 12, 3) := by decide +kernel
theorem d_PB_compare_58 : decode b_PB_compare 58 = .ok (.aload 6, 2) := by decide +kernel
theorem d_PB_compare_60 : decode b_PB_compare 60 = .ok (.lload_n 3, 1) := by decide +kernel
theorem d_PB_compare_61 : decode b_PB_compare 61 = .ok (.invokevirtual 84, 3) := by decide +kernel
theorem d_PB_compare_64 : decode b_PB_compare 64 = .ok (.ifCond .eq 5, 3) := by decide +kernel
theorem d_PB_compare_67 : decode b_PB_compare 67 = .ok (.iconst 2, 1) := by decide +kernel
theorem d_PB_compare_68 : decode b_PB_compare 68 = .ok (.ireturn, 1) := by decide +kernel
theorem d_PB_compare_69 : decode b_PB_compare 69 = .ok (.aload 6, 2) := by decide +kernel
theorem d_PB_compare_71 : decode b_PB_compare 71 = .ok (.lload_n 1, 1) := by decide +kernel
theorem d_PB_compare_72 : decode b_PB_compare 72 = .ok (.invokevirtual 88, 3) := by decide +kernel
theorem d_PB_compare_75 : decode b_PB_compare 75 = .ok (.aload 6, 2) := by decide +kernel
theorem d_PB_compare_77 : decode b_PB_compare 77 = .ok (.lload_n 3, 1) := by decide +kernel
theorem d_PB_compare_78 : decode b_PB_compare 78 = .ok (.invokevirtual 88, 3) := by decide +kernel
theorem d_PB_compare_81 : decode b_PB_compare 81 = .ok (.invokestatic 80, 3) := by decide +kernel
theorem d_PB_compare_84 : decode b_PB_compare 84 = .ok (.ireturn, 1) := by decide +kernel
def F_PB_compare (n : Nat) (a1 : Int64) (a2 : Int64) (a3 : Int32) : Option (Nat ⊕ Int32) := if ¬ (F_PB_isArithmetic a3) = 0 then (if (F_PB_isWhole a3) = 0 then (lt_ (fun (_ : Unit) => some (.inr (2 : Int32))) fun j67 => if ¬ (F_Real_isNan (KR a3) a1) = 0 then (j67 ()) else (if (F_Real_isNan (KR a3) a2) = 0 then (some (.inr (F_PB_order (F_Real_rank (KR a3) a1) (F_Real_rank (KR a3) a2)))) else (j67 ()))) else (some (.inr (F_PB_order (F_PB_wholeOf a1 a3) (F_PB_wholeOf a2 a3))))) else (some (.inl 1))
set_option maxHeartbeats 4000000 in
set_option maxRecDepth 100000 in
theorem c_PB_compare (l : Launch) (hst : l.stackTraces = false) (oF oD : Nat) (kA vA : Nat → Nat) (n : Nat) (o0 : Nat) (a1 : Int64) (a2 : Int64) (a3 : Int32) (r : Nat ⊕ Int32) (h : F_PB_compare n a1 a2 a3 = some r) : vx_Met l y_PB_compare (.code y_PB_compare b_PB_compare 7 (some .int) :: BIG) ({ frames := 6, cells := 1, slots := 6, locals := 90 } : Room) (va_Pc [.ref o0, .long a1, .long a2, .int a3] (xPre oF oD kA vA)) (xQi r) (xX r) 1 6 (fun _ => False) := by
  refine xOpen_i hst rfl rfl (Nat.le_of_ble_eq_true rfl) (Nat.le_of_ble_eq_true rfl) (Nat.le_of_ble_eq_true rfl) rfl rfl ?_
  intro p e s m args below meth c Q ls hx hb hml hown hts hT hp hl hret hthr
  have hNB : nB s := hp.1.1
  have hl : lv_has ls 7 [(0, .ref o0), (1, .long a1), (3, .long a2), (5, .int a3)] := hl
  have h : (if ¬ (F_PB_isArithmetic a3) = 0 then (if (F_PB_isWhole a3) = 0 then (lt_ (fun (_ : Unit) => some (.inr (2 : Int32))) fun j67 => if ¬ (F_Real_isNan (KR a3) a1) = 0 then (j67 ()) else (if (F_Real_isNan (KR a3) a2) = 0 then (some (.inr (F_PB_order (F_Real_rank (KR a3) a1) (F_Real_rank (KR a3) a2)))) else (j67 ()))) else (some (.inr (F_PB_order (F_PB_wholeOf a1 a3) (F_PB_wholeOf a2 a3))))) else (some (.inl 1))) = some r := h
  refine lv_iload hx hb d_PB_compare_0 (lv_at hl 3 rfl) ?_
  refine q_S (As := [.int a3]) (rest := []) (n := 1) hx hb hml hown hts (c_PB_isArithmetic l a3) rfl rfl m_446 m_447 m_448 m_3 (by decide +kernel) ⟨Nat.le_of_ble_eq_true rfl, Nat.le_of_ble_eq_true rfl⟩ (p0_bl) (fun U hU hW => p0_mv hU hW hNB) rfl hl.1 rfl (Nat.le_of_ble_eq_true rfl) d_PB_compare_2 ⟨Nat.le_of_ble_eq_true rfl, Nat.le_of_ble_eq_true rfl⟩ ?_
  refine lv_if_ne (tgt := 18) hx hb d_PB_compare_5 rfl (fun hc => ?_) (fun hc => ?_)
  · have h := ite_t hc h
    refine lv_iload hx hb d_PB_compare_18 (lv_at hl 3 rfl) ?_
    refine q_S (As := [.int a3]) (rest := []) (n := 1) hx hb hml hown hts (c_PB_isWhole l a3) rfl rfl m_0 m_1 m_2 m_3 (by decide +kernel) ⟨Nat.le_of_ble_eq_true rfl, Nat.le_of_ble_eq_true rfl⟩ (p0_bl) (fun U hU hW => p0_mv hU hW hNB) rfl hl.1 rfl (Nat.le_of_ble_eq_true rfl) d_PB_compare_20 ⟨Nat.le_of_ble_eq_true rfl, Nat.le_of_ble_eq_true rfl⟩ ?_
    refine lv_if_eq (tgt := 42) hx hb d_PB_compare_23 rfl (fun hc => ?_) (fun hc => ?_)
    · have h := ite_t hc h
      refine lv_iload hx hb d_PB_compare_42 (lv_at hl 3 rfl) ?_
      refine q_S (As := [.int a3]) (rest := []) (n := 1) hx hb hml hown hts (c_PB_realOf l oF oD kA vA a3) rfl rfl mr_3 mr_5 mr_4 mr_6 (by decide +kernel) ⟨Nat.le_of_ble_eq_true rfl, Nat.le_of_ble_eq_true rfl⟩ xPre_bl (fun U hU hW => xPre_of (A := fun _ => False) hU hW va_S.rf hp) rfl hl.1 rfl (Nat.le_of_ble_eq_true rfl) d_PB_compare_44 ⟨Nat.le_of_ble_eq_true rfl, Nat.le_of_ble_eq_true rfl⟩ ?_
      refine lv_astore hx hb d_PB_compare_47 hl (by decide) rfl (fun ls hl => ?_)
      have hl : lv_has ls 7 [(6, .ref (oR oF oD a3)), (0, .ref o0), (1, .long a1), (3, .long a2), (5, .int a3)] := hl
      refine lv_aload hx hb d_PB_compare_49 (lv_at hl 0 rfl) ?_
      refine lv_lload_n hx hb d_PB_compare_51 rfl (lv_at hl 2 rfl) ?_
      refine q_V (As := [.long a1]) (rest := []) (n := 1) hx hb hml hown hts (c_Real_isNan l (oR oF oD a3) (KR a3) a1) rfl rfl m_30 m_141 m_32 m_33 m_11 (by decide +kernel) ⟨Nat.le_of_ble_eq_true rfl, Nat.le_of_ble_eq_true rfl⟩ (rAt_rc (xRe hp a3)) (p1_bl) (fun U hU hW => p1_mv hU hW hNB (xRe hp a3)) rfl hl.1 rfl (Nat.le_of_ble_eq_true rfl) d_PB_compare_52 ⟨Nat.le_of_ble_eq_true rfl, Nat.le_of_ble_eq_true rfl⟩ ?_
      obtain ⟨j67, e_j67, h⟩ := lt_o h
      have hJ67 : ∀ (ls : Array Slot), lv_has ls 7 [] → j67 () = some r → W p l e ({ frames := 6, cells := 1, slots := 6, locals := 90 } : Room) s m args below meth c s.heap [] 0 0 Q (F0 m 67 ls []) := by
        intro  ls hl h
        rw [e_j67] at h
        refine lv_iconst hx hb d_PB_compare_67 ic_2 ?_
        exact hret 68 ls _ _ _ (Nat.le_of_ble_eq_true rfl) (Nat.le_of_ble_eq_true rfl) (Option.some.inj h).symm d_PB_compare_68
      refine lv_if_ne (tgt := 67) hx hb d_PB_compare_55 rfl (fun hc => ?_) (fun hc => ?_)
      · have h := ite_t hc h
        exact hJ67 ls (lv_sub hl [] rfl) h
      · have hc := not_not_intro hc
        have h := ite_f hc h
        refine lv_aload hx hb d_PB_compare_58 (lv_at hl 0 rfl) ?_
        refine lv_lload_n hx hb d_PB_compare_60 rfl (lv_at hl 3 rfl) ?_
        refine q_V (As := [.long a2]) (rest := []) (n := 1) hx hb hml hown hts (c_Real_isNan l (oR oF oD a3) (KR a3) a2) rfl rfl m_30 m_141 m_32 m_33 m_11 (by decide +kernel) ⟨Nat.le_of_ble_eq_true rfl, Nat.le_of_ble_eq_true rfl⟩ (rAt_rc (xRe hp a3)) (p1_bl) (fun U hU hW => p1_mv hU hW hNB (xRe hp a3)) rfl hl.1 rfl (Nat.le_of_ble_eq_true rfl) d_PB_compare_61 ⟨Nat.le_of_ble_eq_true rfl, Nat.le_of_ble_eq_true rfl⟩ ?_
        refine lv_if_eq (tgt := 69) hx hb d_PB_compare_64 rfl (fun hc => ?_) (fun hc => ?_)
        · have h := ite_t hc h
          refine lv_aload hx hb d_PB_compare_69 (lv_at hl 0 rfl) ?_
          refine lv_lload_n hx hb d_PB_compare_71 rfl (lv_at hl 2 rfl) ?_
          refine q_V (As := [.long a1]) (rest := []) (n := 1) hx hb hml hown hts (c_Real_rank l (oR oF oD a3) (KR a3) a1) rfl rfl m_469 m_470 m_471 m_472 m_11 (by decide +kernel) ⟨Nat.le_of_ble_eq_true rfl, Nat.le_of_ble_eq_true rfl⟩ (rAt_rc (xRe hp a3)) (p1_bl) (fun U hU hW => p1_mv hU hW hNB (xRe hp a3)) rfl hl.1 rfl (Nat.le_of_ble_eq_true rfl) d_PB_compare_72 ⟨Nat.le_of_ble_eq_true rfl, Nat.le_of_ble_eq_true rfl⟩ ?_
          refine lv_aload hx hb d_PB_compare_75 (lv_at hl 0 rfl) ?_
          refine lv_lload_n hx hb d_PB_compare_77 rfl (lv_at hl 3 rfl) ?_
          refine q_V (As := [.long a2]) (rest := [.long (F_Real_rank (KR a3) a1)]) (n := 1) hx hb hml hown hts (c_Real_rank l (oR oF oD a3) (KR a3) a2) rfl rfl m_469 m_470 m_471 m_472 m_11 (by decide +kernel) ⟨Nat.le_of_ble_eq_true rfl, Nat.le_of_ble_eq_true rfl⟩ (rAt_rc (xRe hp a3)) (p1_bl) (fun U hU hW => p1_mv hU hW hNB (xRe hp a3)) rfl hl.1 rfl (Nat.le_of_ble_eq_true rfl) d_PB_compare_78 ⟨Nat.le_of_ble_eq_true rfl, Nat.le_of_ble_eq_true rfl⟩ ?_
          refine q_S (As := [.long (F_Real_rank (KR a3) a1), .long (F_Real_rank (KR a3) a2)]) (rest := []) (n := 2) hx hb hml hown hts (c_PB_order l (F_Real_rank (KR a3) a1) (F_Real_rank (KR a3) a2)) rfl rfl m_473 m_474 m_475 m_3 (by decide +kernel) ⟨Nat.le_of_ble_eq_true rfl, Nat.le_of_ble_eq_true rfl⟩ (p0_bl) (fun U hU hW => p0_mv hU hW hNB) rfl hl.1 rfl (Nat.le_of_ble_eq_true rfl) d_PB_compare_81 ⟨Nat.le_of_ble_eq_true rfl, Nat.le_of_ble_eq_true rfl⟩ ?_
          exact hret 84 ls _ _ _ (Nat.le_of_ble_eq_true rfl) (Nat.le_of_ble_eq_true rfl) (Option.some.inj h).symm d_PB_compare_84
        · have h := ite_f hc h
          exact hJ67 ls (lv_sub hl [] rfl) h
    · have h := ite_f hc h
      refine lv_lload_n hx hb d_PB_compare_26 rfl (lv_at hl 1 rfl) ?_
      refine lv_iload hx hb d_PB_compare_27 (lv_at hl 3 rfl) ?_
      refine q_S (As := [.long a1, .int a3]) (rest := []) (n := 2) hx hb hml hown hts (c_PB_wholeOf l a1 a3) rfl rfl m_173 m_174 m_175 m_3 (by decide +kernel) ⟨Nat.le_of_ble_eq_true rfl, Nat.le_of_ble_eq_true rfl⟩ (p0_bl) (fun U hU hW => p0_mv hU hW hNB) rfl hl.1 rfl (Nat.le_of_ble_eq_true rfl) d_PB_compare_29 ⟨Nat.le_of_ble_eq_true rfl, Nat.le_of_ble_eq_true rfl⟩ ?_
      refine lv_lload_n hx hb d_PB_compare_32 rfl (lv_at hl 2 rfl) ?_
      refine lv_iload hx hb d_PB_compare_33 (lv_at hl 3 rfl) ?_
      refine q_S (As := [.long a2, .int a3]) (rest := [.long (F_PB_wholeOf a1 a3)]) (n := 2) hx hb hml hown hts (c_PB_wholeOf l a2 a3) rfl rfl m_173 m_174 m_175 m_3 (by decide +kernel) ⟨Nat.le_of_ble_eq_true rfl, Nat.le_of_ble_eq_true rfl⟩ (p0_bl) (fun U hU hW => p0_mv hU hW hNB) rfl hl.1 rfl (Nat.le_of_ble_eq_true rfl) d_PB_compare_35 ⟨Nat.le_of_ble_eq_true rfl, Nat.le_of_ble_eq_true rfl⟩ ?_
      refine q_S (As := [.long (F_PB_wholeOf a1 a3), .long (F_PB_wholeOf a2 a3)]) (rest := []) (n := 2) hx hb hml hown hts (c_PB_order l (F_PB_wholeOf a1 a3) (F_PB_wholeOf a2 a3)) rfl rfl m_473 m_474 m_475 m_3 (by decide +kernel) ⟨Nat.le_of_ble_eq_true rfl, Nat.le_of_ble_eq_true rfl⟩ (p0_bl) (fun U hU hW => p0_mv hU hW hNB) rfl hl.1 rfl (Nat.le_of_ble_eq_true rfl) d_PB_compare_38 ⟨Nat.le_of_ble_eq_true rfl, Nat.le_of_ble_eq_true rfl⟩ ?_
      exact hret 41 ls _ _ _ (Nat.le_of_ble_eq_true rfl) (Nat.le_of_ble_eq_true rfl) (Option.some.inj h).symm d_PB_compare_41
  · have hc := not_not_intro hc
    have h := ite_f hc h
    exact hthr.1 8 7 78 ls _ (Option.some.inj h).symm (by decide) rfl hl.1 (Nat.le_of_ble_eq_true rfl) d_PB_compare_8 d_PB_compare_11 d_PB_compare_12 d_PB_compare_14 d_PB_compare_17
