-- SD_fewestDigits
theorem d_SD_fewestDigits_0 : decode b_SD_fewestDigits 0 = .ok (.lload_n 0, 1) := by decide +kernel
theorem d_SD_fewestDigits_1 : decode b_SD_fewestDigits 1 = .ok (.ldc2_w 51, 3) := by decide +kernel
theorem d_SD_fewestDigits_4 : decode b_SD_fewestDigits 4 = .ok (.lcmp, 1) := by decide +kernel
theorem d_SD_fewestDigits_5 : decode b_SD_fewestDigits 5 = .ok (.ifCond .ge 9, 3) := by decide +kernel
theorem d_SD_fewestDigits_8 : decode b_SD_fewestDigits 8 = .ok (.ldc2_w 53, 3) := by decide +kernel
theorem d_SD_fewestDigits_11 : decode b_SD_fewestDigits 11 = .ok (.goto 6, 3) := by decide +kernel
theorem d_SD_fewestDigits_14 : decode b_SD_fewestDigits 14 = .ok (.ldc2_w 55, 3) := by decide +kernel
theorem d_SD_fewestDigits_17 : decode b_SD_fewestDigits 17 = .ok (.lstore 7, 2) := by decide +kernel
theorem d_SD_fewestDigits_19 : decode b_SD_fewestDigits 19 = .ok (.iconst 2, 1) := by decide +kernel
theorem d_SD_fewestDigits_20 : decode b_SD_fewestDigits 20 = .ok (.istore 9, 2) := by decide +kernel
theorem d_SD_fewestDigits_22 : decode b_SD_fewestDigits 22 = .ok (.iload 9, 2) := by decide +kernel
theorem d_SD_fewestDigits_24 : decode b_SD_fewestDigits 24 = .ok (.bipush 17, 2) := by decide +kernel
theorem d_SD_fewestDigits_26 : decode b_SD_fewestDigits 26 = .ok (.if_icmp .gt 83, 3) := by decide +kernel
theorem d_SD_fewestDigits_29 : decode b_SD_fewestDigits 29 = .ok (.lload_n 0, 1) := by decide +kernel
theorem d_SD_fewestDigits_30 : decode b_SD_fewestDigits 30 = .ok (.lload 7, 2) := by decide +kernel
theorem d_SD_fewestDigits_32 : decode b_SD_fewestDigits 32 = .ok (.ldiv, 1) := by decide +kernel
theorem d_SD_fewestDigits_33 : decode b_SD_fewestDigits 33 = .ok (.lload 7, 2) := by decide +kernel
theorem d_SD_fewestDigits_35 : decode b_SD_fewestDigits 35 = .ok (.lmul, 1) := by decide +kernel
theorem d_SD_fewestDigits_36 : decode b_SD_fewestDigits 36 = .ok (.lstore 10, 2) := by decide +kernel
theorem d_SD_fewestDigits_38 : decode b_SD_fewestDigits 38 = .ok (.lload 10, 2) := by decide +kernel
theorem d_SD_fewestDigits_40 : decode b_SD_fewestDigits 40 = .ok (.lload 7, 2) := by decide +kernel
theorem d_SD_fewestDigits_42 : decode b_SD_fewestDigits 42 = .ok (.ladd, 1) := by decide +kernel
theorem d_SD_fewestDigits_43 : decode b_SD_fewestDigits 43 = .ok (.lstore 12, 2) := by decide +kernel
theorem d_SD_fewestDigits_45 : decode b_SD_fewestDigits 45 = .ok (.lload 10, 2) := by decide +kernel
theorem d_SD_fewestDigits_47 : decode b_SD_fewestDigits 47 = .ok (.lload_n 3, 1) := by decide +kernel
theorem d_SD_fewestDigits_48 : decode b_SD_fewestDigits 48 = .ok (.lcmp, 1) := by decide +kernel
theorem d_SD_fewestDigits_49 : decode b_SD_fewestDigits 49 = .ok (.ifCond .lt 21, 3) := by decide +kernel
theorem d_SD_fewestDigits_52 : decode b_SD_fewestDigits 52 = .ok (.lload 12, 2) := by decide +kernel
theorem d_SD_fewestDigits_54 : decode b_SD_fewestDigits 54 = .ok (.lload 5, 2) := by decide +kernel
theorem d_SD_fewestDigits_56 : decode b_SD_fewestDigits 56 = .ok (.lcmp, 1) := by decide +kernel
theorem d_SD_fewestDigits_57 : decode b_SD_fewestDigits 57 = .ok (.ifCond .gt 13, 3) := by decide +kernel
theorem d_SD_fewestDigits_60 : decode b_SD_fewestDigits 60 = .ok (.lload_n 0, 1) := by decide +kernel
theorem d_SD_fewestDigits_61 : decode b_SD_fewestDigits 61 = .ok (.iload_n 2, 1) := by decide +kernel
theorem d_SD_fewestDigits_62 : decode b_SD_fewestDigits 62 = .ok (.lload 10, 2) := by decide +kernel
theorem d_SD_fewestDigits_64 : decode b_SD_fewestDigits 64 = .ok (.lload 7, 2) := by decide +kernel
theorem d_SD_fewestDigits_66 : decode b_SD_fewestDigits 66 = .ok (.invokestatic 57, 3) := by decide +kernel
theorem d_SD_fewestDigits_69 : decode b_SD_fewestDigits 69 = .ok (.lreturn, 1) := by decide +kernel
theorem d_SD_fewestDigits_70 : decode b_SD_fewestDigits 70 = .ok (.lload 10, 2) := by decide +kernel
theorem d_SD_fewestDigits_72 : decode b_SD_fewestDigits 72 = .ok (.lload_n 3, 1) := by decide +kernel
theorem d_SD_fewestDigits_73 : decode b_SD_fewestDigits 73 = .ok (.lcmp, 1) := by decide +kernel
theorem d_SD_fewestDigits_74 : decode b_SD_fewestDigits 74 = .ok (.ifCond .lt 6, 3) := by decide +kernel
theorem d_SD_fewestDigits_77 : decode b_SD_fewestDigits 77 = .ok (.lload 10, 2) := by decide +kernel
theorem d_SD_fewestDigits_79 : decode b_SD_fewestDigits 79 = .ok (.lreturn, 1) := by decide +kernel
theorem d_SD_fewestDigits_80 : decode b_SD_fewestDigits 80 = .ok (.lload 12, 2) := by decide +kernel
theorem d_SD_fewestDigits_82 : decode b_SD_fewestDigits 82 = .ok (.lload 5, 2) := by decide +kernel
theorem d_SD_fewestDigits_84 : decode b_SD_fewestDigits 84 = .ok (.lcmp, 1) := by decide +kernel
theorem d_SD_fewestDigits_85 : decode b_SD_fewestDigits 85 = .ok (.ifCond .gt 6, 3) := by decide +kernel
theorem d_SD_fewestDigits_88 : decode b_SD_fewestDigits 88 = .ok (.lload 12, 2) := by decide +kernel
theorem d_SD_fewestDigits_90 : decode b_SD_fewestDigits 90 = .ok (.lreturn, 1) := by decide +kernel
theorem d_SD_fewestDigits_91 : decode b_SD_fewestDigits 91 = .ok (.lload 7, 2) := by decide +kernel
theorem d_SD_fewestDigits_93 : decode b_SD_fewestDigits 93 = .ok (.ldc2_w 60, 3) := by decide +kernel
theorem d_SD_fewestDigits_96 : decode b_SD_fewestDigits 96 = .ok (.ldiv, 1) := by decide +kernel
theorem d_SD_fewestDigits_97 : decode b_SD_fewestDigits 97 = .ok (.lconst 1, 1) := by decide +kernel
theorem d_SD_fewestDigits_98 : decode b_SD_fewestDigits 98 = .ok (.invokestatic 62, 3) := by decide +kernel
theorem d_SD_fewestDigits_101 : decode b_SD_fewestDigits 101 = .ok (.lstore 7, 2) := by decide +kernel
theorem d_SD_fewestDigits_103 : decode b_SD_fewestDigits 103 = .ok (.iinc 9 1, 3) := by decide +kernel
theorem d_SD_fewestDigits_106 : decode b_SD_fewestDigits 106 = .ok (.goto (-84), 3) := by decide +kernel
theorem d_SD_fewestDigits_109 : decode b_SD_fewestDigits 109 = .ok (.lload_n 0, 1) := by decide +kernel
theorem d_SD_fewestDigits_110 : decode b_SD_fewestDigits 110 = .ok (.lreturn, 1) := by decide +kernel
def F_SD_fewestDigits_L22 (a0 : Int64) (a1 : Int32) (a2 : Int64) (a3 : Int64) (j109 : (Unit → Option (Int64))) (j88 : (Int64 → Option (Int64))) (j77 : (Int64 → Option (Int64))) (j60 : (Int64 → Int64 → Option (Int64))) : Nat → Int64 → Int32 → Option (Int64)
  | 0, _, _ => none
  | n+1, y7, y8 => if (17 : Int32) < y8 then (j109 ()) else (gz_ (y7 = 0) <| lt_ ((a0 / y7) * y7) fun x9 => lt_ (x9 + y7) fun x10 => lt_ (fun (_ : Unit) => if x9 < a2 then (if a3 < x10 then (lt_ (if (1 : Int64) < (y7 / (10 : Int64)) then y7 / (10 : Int64) else (1 : Int64)) fun x11 => lt_ (y8 + Int32.ofInt 1) fun x12 => F_SD_fewestDigits_L22 a0 a1 a2 a3 j109 j88 j77 j60 n x11 x12) else (j88 x10)) else (j77 x9)) fun j70 => if x9 < a2 then (j70 ()) else (if a3 < x10 then (j70 ()) else (j60 y7 x9)))
def F_SD_fewestDigits (n : Nat) (a0 : Int64) (a1 : Int32) (a2 : Int64) (a3 : Int64) : Option (Int64) := lt_ (if (1000000000000000000 : Int64) ≤ a0 then (100000000000000000 : Int64) else (10000000000000000 : Int64)) fun x1 => lt_ (fun (_ : Unit) => some a0) fun j109 => lt_ (fun (y2 : Int64) => some y2) fun j88 => lt_ (fun (y3 : Int64) => some y3) fun j77 => lt_ (fun (y4 : Int64) (y5 : Int64) => (F_SD_nearer n a0 a1 y5 y4).bind fun x6 => some x6) fun j60 => F_SD_fewestDigits_L22 a0 a1 a2 a3 j109 j88 j77 j60 n x1 (2 : Int32)
set_option maxHeartbeats 4000000 in
set_option maxRecDepth 100000 in
theorem c_SD_fewestDigits (l : Launch) (n : Nat) (a0 : Int64) (a1 : Int32) (a2 : Int64) (a3 : Int64) (r : Int64) (h : F_SD_fewestDigits n a0 a1 a2 a3 = some r) : Met l y_SD_fewestDigits (.code y_SD_fewestDigits b_SD_fewestDigits 14 (some .long) :: BIG) ({ frames := 1, cells := 0, slots := 0, locals := 29 } : Room) (va_Pc [.long a0, .int a1, .long a2, .long a3] (pre0)) (pQ (.long r)) 0 0 (fun _ => False) := by
  refine pOpen_l rfl (Nat.le_of_ble_eq_true rfl) ?_
  intro p e s m args below meth c Q ls hx hb hml hown hts hT hp hl hret
  have hNB := hp
  have hown : s.vm.findClass R_SD = some m.cls := hown
  have hl : lv_has ls 14 [(0, .long a0), (2, .int a1), (3, .long a2), (5, .long a3)] := hl
  have h : (lt_ (if (1000000000000000000 : Int64) ≤ a0 then (100000000000000000 : Int64) else (10000000000000000 : Int64)) fun x1 => lt_ (fun (_ : Unit) => some a0) fun j109 => lt_ (fun (y2 : Int64) => some y2) fun j88 => lt_ (fun (y3 : Int64) => some y3) fun j77 => lt_ (fun (y4 : Int64) (y5 : Int64) => (F_SD_nearer n a0 a1 y5 y4).bind fun x6 => some x6) fun j60 => F_SD_fewestDigits_L22 a0 a1 a2 a3 j109 j88 j77 j60 n x1 (2 : Int32)) = some r := h
  refine lv_lload_n hx hb d_SD_fewestDigits_0 rfl (lv_at hl 0 rfl) ?_
  refine lv_ldc2 hx hb hown (hT _ m_107) d_SD_fewestDigits_1 ?_
  refine W.lcmp hx hb d_SD_fewestDigits_4 ?_
  obtain ⟨x1, e_x1, h⟩ := lt_o h
  have hJ17 : ∀ (x1' : Int64) (ls : Array Slot), x1 = x1' → lv_has ls 14 [(0, .long a0), (2, .int a1), (3, .long a2), (5, .long a3)] → W p l e ({ frames := 1, cells := 0, slots := 0, locals := 29 } : Room) s m args below meth c s.heap [] 0 0 Q (F0 m 17 ls [.long x1']) := by
    intro x1' ls q_x1 hl
    subst q_x1
    refine lv_lstore hx hb d_SD_fewestDigits_17 hl (by decide) rfl (fun ls hl => ?_)
    have hl : lv_has ls 14 [(7, .long x1), (0, .long a0), (2, .int a1), (3, .long a2), (5, .long a3)] := hl
    refine lv_iconst hx hb d_SD_fewestDigits_19 ic_2 ?_
    refine lv_istore hx hb d_SD_fewestDigits_20 hl (by decide) rfl (fun ls hl => ?_)
    have hl : lv_has ls 14 [(9, .int (2 : Int32)), (7, .long x1), (0, .long a0), (2, .int a1), (3, .long a2), (5, .long a3)] := hl
    obtain ⟨j109, e_j109, h⟩ := lt_o h
    have hJ109 : ∀ (ls : Array Slot), lv_has ls 14 [(0, .long a0)] → j109 () = some r → W p l e ({ frames := 1, cells := 0, slots := 0, locals := 29 } : Room) s m args below meth c s.heap [] 0 0 Q (F0 m 109 ls []) := by
      intro  ls hl h
      rw [e_j109] at h
      refine lv_lload_n hx hb d_SD_fewestDigits_109 rfl (lv_at hl 0 rfl) ?_
      exact hret 110 ls _ (Option.some.inj h) d_SD_fewestDigits_110
    obtain ⟨j88, e_j88, h⟩ := lt_o h
    have hJ88 : ∀ (y2 : Int64) (ls : Array Slot), lv_has ls 14 [(12, .long y2)] → j88 y2 = some r → W p l e ({ frames := 1, cells := 0, slots := 0, locals := 29 } : Room) s m args below meth c s.heap [] 0 0 Q (F0 m 88 ls []) := by
      intro y2 ls hl h
      rw [e_j88] at h
      refine lv_lload hx hb d_SD_fewestDigits_88 (lv_at hl 0 rfl) ?_
      exact hret 90 ls _ (Option.some.inj h) d_SD_fewestDigits_90
    obtain ⟨j77, e_j77, h⟩ := lt_o h
    have hJ77 : ∀ (y3 : Int64) (ls : Array Slot), lv_has ls 14 [(10, .long y3)] → j77 y3 = some r → W p l e ({ frames := 1, cells := 0, slots := 0, locals := 29 } : Room) s m args below meth c s.heap [] 0 0 Q (F0 m 77 ls []) := by
      intro y3 ls hl h
      rw [e_j77] at h
      refine lv_lload hx hb d_SD_fewestDigits_77 (lv_at hl 0 rfl) ?_
      exact hret 79 ls _ (Option.some.inj h) d_SD_fewestDigits_79
    obtain ⟨j60, e_j60, h⟩ := lt_o h
    have hJ60 : ∀ (y4 : Int64) (y5 : Int64) (ls : Array Slot), lv_has ls 14 [(0, .long a0), (2, .int a1), (7, .long y4), (10, .long y5)] → j60 y4 y5 = some r → W p l e ({ frames := 1, cells := 0, slots := 0, locals := 29 } : Room) s m args below meth c s.heap [] 0 0 Q (F0 m 60 ls []) := by
      intro y4 y5 ls hl h
      rw [e_j60] at h
      refine lv_lload_n hx hb d_SD_fewestDigits_60 rfl (lv_at hl 0 rfl) ?_
      refine lv_iload_n hx hb d_SD_fewestDigits_61 rfl (lv_at hl 1 rfl) ?_
      refine lv_lload hx hb d_SD_fewestDigits_62 (lv_at hl 3 rfl) ?_
      refine lv_lload hx hb d_SD_fewestDigits_64 (lv_at hl 2 rfl) ?_
      obtain ⟨x6, e_x6, h⟩ := bd_o h
      refine q_S (As := [.long a0, .int a1, .long y5, .long y4]) (rest := []) (n := 4) hx hb hml hown hts (c_SD_nearer l n a0 a1 y5 y4 _ e_x6) rfl rfl m_110 m_111 m_112 m_113 (by decide +kernel) ⟨Nat.le_of_ble_eq_true rfl, Nat.le_of_ble_eq_true rfl⟩ (p0_bl) (fun U hU hW => p0_mv hU hW hNB) rfl hl.1 rfl (Nat.le_of_ble_eq_true rfl) d_SD_fewestDigits_66 ⟨Nat.zero_le _, Nat.zero_le _⟩ ?_
      exact hret 69 ls _ (Option.some.inj h) d_SD_fewestDigits_69
    have hL22 : ∀ (n : Nat) (y7 : Int64) (y8 : Int32) (ls : Array Slot), lv_has ls 14 [(0, .long a0), (2, .int a1), (3, .long a2), (5, .long a3), (7, .long y7), (9, .int y8)] → F_SD_fewestDigits_L22 a0 a1 a2 a3 j109 j88 j77 j60 n y7 y8 = some r → W p l e ({ frames := 1, cells := 0, slots := 0, locals := 29 } : Room) s m args below meth c s.heap [] 0 0 Q (F0 m 22 ls []) := by
      intro n
      induction n with
      | zero => intro y7 y8 ls hl h; exact no_s h
      | succ n ih =>
        intro y7 y8 ls hl h
        have h : (if (17 : Int32) < y8 then (j109 ()) else (gz_ (y7 = 0) <| lt_ ((a0 / y7) * y7) fun x9 => lt_ (x9 + y7) fun x10 => lt_ (fun (_ : Unit) => if x9 < a2 then (if a3 < x10 then (lt_ (if (1 : Int64) < (y7 / (10 : Int64)) then y7 / (10 : Int64) else (1 : Int64)) fun x11 => lt_ (y8 + Int32.ofInt 1) fun x12 => F_SD_fewestDigits_L22 a0 a1 a2 a3 j109 j88 j77 j60 n x11 x12) else (j88 x10)) else (j77 x9)) fun j70 => if x9 < a2 then (j70 ()) else (if a3 < x10 then (j70 ()) else (j60 y7 x9)))) = some r := h
        refine lv_iload hx hb d_SD_fewestDigits_22 (lv_at hl 5 rfl) ?_
        refine lv_bipush hx hb d_SD_fewestDigits_24 bp_17 ?_
        refine lv_icmp_gt (tgt := 109) hx hb d_SD_fewestDigits_26 rfl (fun hc => ?_) (fun hc => ?_)
        · have h := ite_t hc h
          exact hJ109 ls (lv_sub hl [0] rfl) h
        · have h := ite_f hc h
          refine lv_lload_n hx hb d_SD_fewestDigits_29 rfl (lv_at hl 0 rfl) ?_
          refine lv_lload hx hb d_SD_fewestDigits_30 (lv_at hl 4 rfl) ?_
          have hz := gz_n h
          have h := gz_h h
          refine lv_ldiv hx hb d_SD_fewestDigits_32 hz ?_
          refine lv_lload hx hb d_SD_fewestDigits_33 (lv_at hl 4 rfl) ?_
          refine lv_lmul hx hb d_SD_fewestDigits_35 ?_
          refine lv_topl (fun x9 e_x9 => ?_)
          have h := lt_h e_x9 h
          refine lv_lstore hx hb d_SD_fewestDigits_36 hl (by decide) rfl (fun ls hl => ?_)
          have hl : lv_has ls 14 [(10, .long x9), (0, .long a0), (2, .int a1), (3, .long a2), (5, .long a3), (7, .long y7), (9, .int y8)] := hl
          refine lv_lload hx hb d_SD_fewestDigits_38 (lv_at hl 0 rfl) ?_
          refine lv_lload hx hb d_SD_fewestDigits_40 (lv_at hl 5 rfl) ?_
          refine lv_ladd hx hb d_SD_fewestDigits_42 ?_
          refine lv_topl (fun x10 e_x10 => ?_)
          have h := lt_h e_x10 h
          refine lv_lstore hx hb d_SD_fewestDigits_43 hl (by decide) rfl (fun ls hl => ?_)
          have hl : lv_has ls 14 [(12, .long x10), (10, .long x9), (0, .long a0), (2, .int a1), (3, .long a2), (5, .long a3), (7, .long y7), (9, .int y8)] := hl
          refine lv_lload hx hb d_SD_fewestDigits_45 (lv_at hl 1 rfl) ?_
          refine lv_lload_n hx hb d_SD_fewestDigits_47 rfl (lv_at hl 4 rfl) ?_
          refine W.lcmp hx hb d_SD_fewestDigits_48 ?_
          obtain ⟨j70, e_j70, h⟩ := lt_o h
          have hJ70 : ∀ (ls : Array Slot), lv_has ls 14 [(0, .long a0), (2, .int a1), (3, .long a2), (5, .long a3), (7, .long y7), (9, .int y8), (10, .long x9), (12, .long x10)] → j70 () = some r → W p l e ({ frames := 1, cells := 0, slots := 0, locals := 29 } : Room) s m args below meth c s.heap [] 0 0 Q (F0 m 70 ls []) := by
            intro  ls hl h
            rw [e_j70] at h
            refine lv_lload hx hb d_SD_fewestDigits_70 (lv_at hl 6 rfl) ?_
            refine lv_lload_n hx hb d_SD_fewestDigits_72 rfl (lv_at hl 2 rfl) ?_
            refine W.lcmp hx hb d_SD_fewestDigits_73 ?_
            refine lv_if_lt (tgt := 80) hx hb d_SD_fewestDigits_74 rfl (fun hc => ?_) (fun hc => ?_)
            · have hc := (lg_cmp_lt _ _).mp hc
              have h := ite_t hc h
              refine lv_lload hx hb d_SD_fewestDigits_80 (lv_at hl 7 rfl) ?_
              refine lv_lload hx hb d_SD_fewestDigits_82 (lv_at hl 3 rfl) ?_
              refine W.lcmp hx hb d_SD_fewestDigits_84 ?_
              refine lv_if_gt (tgt := 91) hx hb d_SD_fewestDigits_85 rfl (fun hc => ?_) (fun hc => ?_)
              · have hc := (lg_cmp_gt _ _).mp hc
                have h := ite_t hc h
                refine lv_lload hx hb d_SD_fewestDigits_91 (lv_at hl 4 rfl) ?_
                refine lv_ldc2 hx hb hown (hT _ m_114) d_SD_fewestDigits_93 ?_
                refine lv_ldiv hx hb d_SD_fewestDigits_96 (by decide) ?_
                refine lv_lconst hx hb d_SD_fewestDigits_97 lc_1 ?_
                refine q_lmax hx hb (hml.trans hl.1.symm) hown (hT _ m_115) (hT _ m_116) (hT _ m_28) (hT _ m_117) (Nat.le_of_ble_eq_true rfl) (Nat.le_of_ble_eq_true rfl) (Nat.zero_le _) (Nat.zero_le _) d_SD_fewestDigits_98 ?_
                refine lv_topl (fun x11 e_x11 => ?_)
                have h := lt_h e_x11 h
                refine lv_lstore hx hb d_SD_fewestDigits_101 hl (by decide) rfl (fun ls hl => ?_)
                have hl : lv_has ls 14 [(7, .long x11), (0, .long a0), (2, .int a1), (3, .long a2), (5, .long a3), (9, .int y8), (10, .long x9), (12, .long x10)] := hl
                obtain ⟨x12, e_x12⟩ : ∃ z, z = y8 + Int32.ofInt 1 := ⟨_, rfl⟩
                have h := lt_h e_x12 h
                refine lv_iinc (k := 5) hx hb d_SD_fewestDigits_103 hl rfl e_x12.symm (by decide) rfl (fun ls hl => ?_)
                have hl : lv_has ls 14 [(9, .int x12), (7, .long x11), (0, .long a0), (2, .int a1), (3, .long a2), (5, .long a3), (10, .long x9), (12, .long x10)] := hl
                refine lv_goto (tgt := 22) hx hb d_SD_fewestDigits_106 rfl ?_
                exact ih _ _ ls (lv_sub hl [2, 3, 4, 5, 1, 0] rfl) h
              · have hc := mt (lg_cmp_gt _ _).mpr hc
                have h := ite_f hc h
                exact hJ88 _ ls (lv_sub hl [7] rfl) h
            · have hc := mt (lg_cmp_lt _ _).mpr hc
              have h := ite_f hc h
              exact hJ77 _ ls (lv_sub hl [6] rfl) h
          refine lv_if_lt (tgt := 70) hx hb d_SD_fewestDigits_49 rfl (fun hc => ?_) (fun hc => ?_)
          · have hc := (lg_cmp_lt _ _).mp hc
            have h := ite_t hc h
            exact hJ70 ls (lv_sub hl [2, 3, 4, 5, 6, 7, 1, 0] rfl) h
          · have hc := mt (lg_cmp_lt _ _).mpr hc
            have h := ite_f hc h
            refine lv_lload hx hb d_SD_fewestDigits_52 (lv_at hl 0 rfl) ?_
            refine lv_lload hx hb d_SD_fewestDigits_54 (lv_at hl 5 rfl) ?_
            refine W.lcmp hx hb d_SD_fewestDigits_56 ?_
            refine lv_if_gt (tgt := 70) hx hb d_SD_fewestDigits_57 rfl (fun hc => ?_) (fun hc => ?_)
            · have hc := (lg_cmp_gt _ _).mp hc
              have h := ite_t hc h
              exact hJ70 ls (lv_sub hl [2, 3, 4, 5, 6, 7, 1, 0] rfl) h
            · have hc := mt (lg_cmp_gt _ _).mpr hc
              have h := ite_f hc h
              exact hJ60 _ _ ls (lv_sub hl [2, 3, 6, 1] rfl) h
    exact hL22 n _ _ ls (lv_sub hl [2, 3, 4, 5, 1, 0] rfl) h
  refine lv_if_ge (tgt := 14) hx hb d_SD_fewestDigits_5 rfl (fun hc => ?_) (fun hc => ?_)
  · have hc := (lg_cmp_ge _ _).mp hc
    have e_x1 := e_x1.trans (if_pos hc)
    refine lv_ldc2 hx hb hown (hT _ m_108) d_SD_fewestDigits_14 ?_
    exact hJ17 _ ls e_x1 (lv_sub hl [0, 1, 2, 3] rfl)
  · have hc := mt (lg_cmp_ge _ _).mpr hc
    have e_x1 := e_x1.trans (if_neg hc)
    refine lv_ldc2 hx hb hown (hT _ m_109) d_SD_fewestDigits_8 ?_
    refine lv_goto (tgt := 17) hx hb d_SD_fewestDigits_11 rfl ?_
    exact hJ17 _ ls e_x1 (lv_sub hl [0, 1, 2, 3] rfl)
-- BW_powerOfFive
theorem d_BW_powerOfFive_0 : decode b_BW_powerOfFive 0 = .ok (.lconst 1, 1) := by decide +kernel
theorem d_BW_powerOfFive_1 : decode b_BW_powerOfFive 1 = .ok (.lstore_n 1, 1) := by decide +kernel
theorem d_BW_powerOfFive_2 : decode b_BW_powerOfFive 2 = .ok (.iconst 0, 1) := by decide +kernel
theorem d_BW_powerOfFive_3 : decode b_BW_powerOfFive 3 = .ok (.istore_n 3, 1) := by decide +kernel
theorem d_BW_powerOfFive_4 : decode b_BW_powerOfFive 4 = .ok (.iload_n 3, 1) := by decide +kernel
theorem d_BW_powerOfFive_5 : decode b_BW_powerOfFive 5 = .ok (.iload_n 0, 1) := by decide +kernel
theorem d_BW_powerOfFive_6 : decode b_BW_powerOfFive 6 = .ok (.if_icmp .ge 15, 3) := by decide +kernel
theorem d_BW_powerOfFive_9 : decode b_BW_powerOfFive 9 = .ok (.lload_n 1, 1) := by decide +kernel
theorem d_BW_powerOfFive_10 : decode b_BW_powerOfFive 10 = .ok (.ldc2_w 46, 3) := by decide +kernel
theorem d_BW_powerOfFive_13 : decode b_BW_powerOfFive 13 = .ok (.lmul, 1) := by decide +kernel
theorem d_BW_powerOfFive_14 : decode b_BW_powerOfFive 14 = .ok (.lstore_n 1, 1) := by decide +kernel
theorem d_BW_powerOfFive_15 : decode b_BW_powerOfFive 15 = .ok (.iinc 3 1, 3) := by decide +kernel
theorem d_BW_powerOfFive_18 : decode b_BW_powerOfFive 18 = .ok (.goto (-14), 3) := by decide +kernel
theorem d_BW_powerOfFive_21 : decode b_BW_powerOfFive 21 = .ok (.lload_n 1, 1) := by decide +kernel
theorem d_BW_powerOfFive_22 : decode b_BW_powerOfFive 22 = .ok (.lreturn, 1) := by decide +kernel
def F_BW_powerOfFive_L4 (a0 : Int32) (j21 : (Int64 → Option (Int64))) : Nat → Int64 → Int32 → Option (Int64)
  | 0, _, _ => none
  | n+1, y2, y3 => if a0 ≤ y3 then (j21 y2) else (lt_ (y2 * (5 : Int64)) fun x4 => lt_ (y3 + Int32.ofInt 1) fun x5 => F_BW_powerOfFive_L4 a0 j21 n x4 x5)
def F_BW_powerOfFive (n : Nat) (a0 : Int32) : Option (Int64) := lt_ (fun (y1 : Int64) => some y1) fun j21 => F_BW_powerOfFive_L4 a0 j21 n (1 : Int64) (0 : Int32)
set_option maxHeartbeats 4000000 in
set_option maxRecDepth 100000 in
theorem c_BW_powerOfFive (l : Launch) (n : Nat) (a0 : Int32) (r : Int64) (h : F_BW_powerOfFive n a0 = some r) : Met l y_BW_powerOfFive (.code y_BW_powerOfFive b_BW_powerOfFive 4 (some .long) :: BIG) ({ frames := 0, cells := 0, slots := 0, locals := 0 } : Room) (va_Pc [.int a0] (pre0)) (pQ (.long r)) 0 0 (fun _ => False) := by
  refine pOpen_l rfl (Nat.le_of_ble_eq_true rfl) ?_
  intro p e s m args below meth c Q ls hx hb hml hown hts hT hp hl hret
  have hNB := hp
  have hown : s.vm.findClass R_BW = some m.cls := hown
  have hl : lv_has ls 4 [(0, .int a0)] := hl
  have h : (lt_ (fun (y1 : Int64) => some y1) fun j21 => F_BW_powerOfFive_L4 a0 j21 n (1 : Int64) (0 : Int32)) = some r := h
  refine lv_lconst hx hb d_BW_powerOfFive_0 lc_1 ?_
  refine lv_lstore_n hx hb d_BW_powerOfFive_1 rfl hl (by decide) rfl (fun ls hl => ?_)
  have hl : lv_has ls 4 [(1, .long (1 : Int64)), (0, .int a0)] := hl
  refine lv_iconst hx hb d_BW_powerOfFive_2 ic_0 ?_
  refine lv_istore_n hx hb d_BW_powerOfFive_3 rfl hl (by decide) rfl (fun ls hl => ?_)
  have hl : lv_has ls 4 [(3, .int (0 : Int32)), (1, .long (1 : Int64)), (0, .int a0)] := hl
  obtain ⟨j21, e_j21, h⟩ := lt_o h
  have hJ21 : ∀ (y1 : Int64) (ls : Array Slot), lv_has ls 4 [(1, .long y1)] → j21 y1 = some r → W p l e ({ frames := 0, cells := 0, slots := 0, locals := 0 } : Room) s m args below meth c s.heap [] 0 0 Q (F0 m 21 ls []) := by
    intro y1 ls hl h
    rw [e_j21] at h
    refine lv_lload_n hx hb d_BW_powerOfFive_21 rfl (lv_at hl 0 rfl) ?_
    exact hret 22 ls _ (Option.some.inj h) d_BW_powerOfFive_22
  have hL4 : ∀ (n : Nat) (y2 : Int64) (y3 : Int32) (ls : Array Slot), lv_has ls 4 [(0, .int a0), (1, .long y2), (3, .int y3)] → F_BW_powerOfFive_L4 a0 j21 n y2 y3 = some r → W p l e ({ frames := 0, cells := 0, slots := 0, locals := 0 } : Room) s m args below meth c s.heap [] 0 0 Q (F0 m 4 ls []) := by
    intro n
    induction n with
    | zero => intro y2 y3 ls hl h; exact no_s h
    | succ n ih =>
      intro y2 y3 ls hl h
      have h : (if a0 ≤ y3 then (j21 y2) else (lt_ (y2 * (5 : Int64)) fun x4 => lt_ (y3 + Int32.ofInt 1) fun x5 => F_BW_powerOfFive_L4 a0 j21 n x4 x5)) = some r := h
      refine lv_iload_n hx hb d_BW_powerOfFive_4 rfl (lv_at hl 2 rfl) ?_
      refine lv_iload_n hx hb d_BW_powerOfFive_5 rfl (lv_at hl 0 rfl) ?_
      refine lv_icmp_ge (tgt := 21) hx hb d_BW_powerOfFive_6 rfl (fun hc => ?_) (fun hc => ?_)
      · have h := ite_t hc h
        exact hJ21 _ ls (lv_sub hl [1] rfl) h
      · have h := ite_f hc h
        refine lv_lload_n hx hb d_BW_powerOfFive_9 rfl (lv_at hl 1 rfl) ?_
        refine lv_ldc2 hx hb hown (hT _ m_118) d_BW_powerOfFive_10 ?_
        refine lv_lmul hx hb d_BW_powerOfFive_13 ?_
        refine lv_topl (fun x4 e_x4 => ?_)
        have h := lt_h e_x4 h
        refine lv_lstore_n hx hb d_BW_powerOfFive_14 rfl hl (by decide) rfl (fun ls hl => ?_)
        have hl : lv_has ls 4 [(1, .long x4), (0, .int a0), (3, .int y3)] := hl
        obtain ⟨x5, e_x5⟩ : ∃ z, z = y3 + Int32.ofInt 1 := ⟨_, rfl⟩
        have h := lt_h e_x5 h
        refine lv_iinc (k := 2) hx hb d_BW_powerOfFive_15 hl rfl e_x5.symm (by decide) rfl (fun ls hl => ?_)
        have hl : lv_has ls 4 [(3, .int x5), (1, .long x4), (0, .int a0)] := hl
        refine lv_goto (tgt := 4) hx hb d_BW_powerOfFive_18 rfl ?_
        exact ih _ _ ls (lv_sub hl [2, 1, 0] rfl) h
  exact hL4 n _ _ ls (lv_sub hl [2, 1, 0] rfl) h
-- BW_slice
theorem d_BW_slice_0 : decode b_BW_slice 0 = .ok (.iload_n 2, 1) := by decide +kernel
theorem d_BW_slice_1 : decode b_BW_slice 1 = .ok (.bipush (-32), 2) := by decide +kernel
theorem d_BW_slice_3 : decode b_BW_slice 3 = .ok (.if_icmp .le 9, 3) := by decide +kernel
theorem d_BW_slice_6 : decode b_BW_slice 6 = .ok (.iload_n 2, 1) := by decide +kernel
theorem d_BW_slice_7 : decode b_BW_slice 7 = .ok (.bipush 63, 2) := by decide +kernel
theorem d_BW_slice_9 : decode b_BW_slice 9 = .ok (.if_icmp .le 5, 3) := by decide +kernel
theorem d_BW_slice_12 : decode b_BW_slice 12 = .ok (.lconst 0, 1) := by decide +kernel
theorem d_BW_slice_13 : decode b_BW_slice 13 = .ok (.lreturn, 1) := by decide +kernel
theorem d_BW_slice_14 : decode b_BW_slice 14 = .ok (.iload_n 2, 1) := by decide +kernel
theorem d_BW_slice_15 : decode b_BW_slice 15 = .ok (.ifCond .ge 10, 3) := by decide +kernel
theorem d_BW_slice_18 : decode b_BW_slice 18 = .ok (.lload_n 0, 1) := by decide +kernel
theorem d_BW_slice_19 : decode b_BW_slice 19 = .ok (.iload_n 2, 1) := by decide +kernel
theorem d_BW_slice_20 : decode b_BW_slice 20 = .ok (.ineg, 1) := by decide +kernel
theorem d_BW_slice_21 : decode b_BW_slice 21 = .ok (.lshl, 1) := by decide +kernel
theorem d_BW_slice_22 : decode b_BW_slice 22 = .ok (.goto 6, 3) := by decide +kernel
theorem d_BW_slice_25 : decode b_BW_slice 25 = .ok (.lload_n 0, 1) := by decide +kernel
theorem d_BW_slice_26 : decode b_BW_slice 26 = .ok (.iload_n 2, 1) := by decide +kernel
theorem d_BW_slice_27 : decode b_BW_slice 27 = .ok (.lushr, 1) := by decide +kernel
theorem d_BW_slice_28 : decode b_BW_slice 28 = .ok (.ldc2_w 56, 3) := by decide +kernel
theorem d_BW_slice_31 : decode b_BW_slice 31 = .ok (.land, 1) := by decide +kernel
theorem d_BW_slice_32 : decode b_BW_slice 32 = .ok (.lreturn, 1) := by decide +kernel
def F_BW_slice (a0 : Int64) (a1 : Int32) : Int64 := lt_ (fun (_ : Unit) => (0 : Int64)) fun j12 => if a1 ≤ (-32 : Int32) then (j12 ()) else (if a1 ≤ (63 : Int32) then (lt_ (if 0 ≤ a1 then ((a0).toUInt64 >>> ((a1).toInt64.toUInt64 &&& Int64.toUInt64 63)).toInt64 else a0 <<< ((-a1).toInt64 &&& 63)) fun x1 => x1 &&& (4294967295 : Int64)) else (j12 ()))
set_option maxHeartbeats 4000000 in
set_option maxRecDepth 100000 in
theorem c_BW_slice (l : Launch) (a0 : Int64) (a1 : Int32) : Met l y_BW_slice (.code y_BW_slice b_BW_slice 3 (some .long) :: BIG) ({ frames := 0, cells := 0, slots := 0, locals := 0 } : Room) (va_Pc [.long a0, .int a1] (pre0)) (pQ (.long (F_BW_slice a0 a1))) 0 0 (fun _ => False) := by
  refine pOpen_l rfl (Nat.le_of_ble_eq_true rfl) ?_
  intro p e s m args below meth c Q ls hx hb hml hown hts hT hp hl hret
  have hNB := hp
  have hown : s.vm.findClass R_BW = some m.cls := hown
  have hl : lv_has ls 3 [(0, .long a0), (2, .int a1)] := hl
  obtain ⟨r, h⟩ : ∃ r, F_BW_slice a0 a1 = r := ⟨_, rfl⟩
  rw [h] at hret
  have h : (lt_ (fun (_ : Unit) => (0 : Int64)) fun j12 => if a1 ≤ (-32 : Int32) then (j12 ()) else (if a1 ≤ (63 : Int32) then (lt_ (if 0 ≤ a1 then ((a0).toUInt64 >>> ((a1).toInt64.toUInt64 &&& Int64.toUInt64 63)).toInt64 else a0 <<< ((-a1).toInt64 &&& 63)) fun x1 => x1 &&& (4294967295 : Int64)) else (j12 ()))) = r := h
  refine lv_iload_n hx hb d_BW_slice_0 rfl (lv_at hl 1 rfl) ?_
  refine lv_bipush hx hb d_BW_slice_1 bp_m32 ?_
  obtain ⟨j12, e_j12, h⟩ := lt_o h
  have hJ12 : ∀ (ls : Array Slot), lv_has ls 3 [] → j12 () = r → W p l e ({ frames := 0, cells := 0, slots := 0, locals := 0 } : Room) s m args below meth c s.heap [] 0 0 Q (F0 m 12 ls []) := by
    intro  ls hl h
    rw [e_j12] at h
    refine lv_lconst hx hb d_BW_slice_12 lc_0 ?_
    exact hret 13 ls _ h d_BW_slice_13
  refine lv_icmp_le (tgt := 12) hx hb d_BW_slice_3 rfl (fun hc => ?_) (fun hc => ?_)
  · have h := ite_t hc h
    exact hJ12 ls (lv_sub hl [] rfl) h
  · have h := ite_f hc h
    refine lv_iload_n hx hb d_BW_slice_6 rfl (lv_at hl 1 rfl) ?_
    refine lv_bipush hx hb d_BW_slice_7 bp_63 ?_
    refine lv_icmp_le (tgt := 14) hx hb d_BW_slice_9 rfl (fun hc => ?_) (fun hc => ?_)
    · have h := ite_t hc h
      refine lv_iload_n hx hb d_BW_slice_14 rfl (lv_at hl 1 rfl) ?_
      obtain ⟨x1, e_x1, h⟩ := lt_o h
      have hJ28 : ∀ (x1' : Int64) (ls : Array Slot), x1 = x1' → lv_has ls 3 [] → W p l e ({ frames := 0, cells := 0, slots := 0, locals := 0 } : Room) s m args below meth c s.heap [] 0 0 Q (F0 m 28 ls [.long x1']) := by
        intro x1' ls q_x1 hl
        subst q_x1
        refine lv_ldc2 hx hb hown (hT _ m_119) d_BW_slice_28 ?_
        refine lv_land hx hb d_BW_slice_31 ?_
        exact hret 32 ls _ h d_BW_slice_32
      refine lv_if_ge (tgt := 25) hx hb d_BW_slice_15 rfl (fun hc => ?_) (fun hc => ?_)
      · have e_x1 := e_x1.trans (if_pos hc)
        refine lv_lload_n hx hb d_BW_slice_25 rfl (lv_at hl 0 rfl) ?_
        refine lv_iload_n hx hb d_BW_slice_26 rfl (lv_at hl 1 rfl) ?_
        refine lv_lushr hx hb d_BW_slice_27 rfl ?_
        exact hJ28 _ ls e_x1 (lv_sub hl [] rfl)
      · have e_x1 := e_x1.trans (if_neg hc)
        refine lv_lload_n hx hb d_BW_slice_18 rfl (lv_at hl 0 rfl) ?_
        refine lv_iload_n hx hb d_BW_slice_19 rfl (lv_at hl 1 rfl) ?_
        refine lv_ineg hx hb d_BW_slice_20 ?_
        refine lv_lshl hx hb d_BW_slice_21 rfl ?_
        refine lv_goto (tgt := 28) hx hb d_BW_slice_22 rfl ?_
        exact hJ28 _ ls e_x1 (lv_sub hl [] rfl)
    · have h := ite_f hc h
      exact hJ12 ls (lv_sub hl [] rfl) h
-- Lt_digitCount
theorem d_Lt_digitCount_0 : decode b_Lt_digitCount 0 = .ok (.iconst 1, 1) := by decide +kernel
theorem d_Lt_digitCount_1 : decode b_Lt_digitCount 1 = .ok (.istore_n 2, 1) := by decide +kernel
theorem d_Lt_digitCount_2 : decode b_Lt_digitCount 2 = .ok (.lload_n 0, 1) := by decide +kernel
theorem d_Lt_digitCount_3 : decode b_Lt_digitCount 3 = .ok (.ldc2_w 62, 3) := by decide +kernel
theorem d_Lt_digitCount_6 : decode b_Lt_digitCount 6 = .ok (.ldiv, 1) := by decide +kernel
theorem d_Lt_digitCount_7 : decode b_Lt_digitCount 7 = .ok (.lstore_n 3, 1) := by decide +kernel
theorem d_Lt_digitCount_8 : decode b_Lt_digitCount 8 = .ok (.lload_n 3, 1) := by decide +kernel
theorem d_Lt_digitCount_9 : decode b_Lt_digitCount 9 = .ok (.lconst 0, 1) := by decide +kernel
theorem d_Lt_digitCount_10 : decode b_Lt_digitCount 10 = .ok (.lcmp, 1) := by decide +kernel
theorem d_Lt_digitCount_11 : decode b_Lt_digitCount 11 = .ok (.ifCond .eq 21, 3) := by decide +kernel
theorem d_Lt_digitCount_14 : decode b_Lt_digitCount 14 = .ok (.iload_n 2, 1) := by decide +kernel
theorem d_Lt_digitCount_15 : decode b_Lt_digitCount 15 = .ok (.bipush 19, 2) := by decide +kernel
theorem d_Lt_digitCount_17 : decode b_Lt_digitCount 17 = .ok (.if_icmp .ge 15, 3) := by decide +kernel
theorem d_Lt_digitCount_20 : decode b_Lt_digitCount 20 = .ok (.iinc 2 1, 3) := by decide +kernel
theorem d_Lt_digitCount_23 : decode b_Lt_digitCount 23 = .ok (.lload_n 3, 1) := by decide +kernel
theorem d_Lt_digitCount_24 : decode b_Lt_digitCount 24 = .ok (.ldc2_w 62, 3) := by decide +kernel
theorem d_Lt_digitCount_27 : decode b_Lt_digitCount 27 = .ok (.ldiv, 1) := by decide +kernel
theorem d_Lt_digitCount_28 : decode b_Lt_digitCount 28 = .ok (.lstore_n 3, 1) := by decide +kernel
theorem d_Lt_digitCount_29 : decode b_Lt_digitCount 29 = .ok (.goto (-21), 3) := by decide +kernel
theorem d_Lt_digitCount_32 : decode b_Lt_digitCount 32 = .ok (.iload_n 2, 1) := by decide +kernel
theorem d_Lt_digitCount_33 : decode b_Lt_digitCount 33 = .ok (.ireturn, 1) := by decide +kernel
def F_Lt_digitCount_L8 (j32 : (Int32 → Option (Int32))) : Nat → Int32 → Int64 → Option (Int32)
  | 0, _, _ => none
  | n+1, y3, y4 => if y4 = (0 : Int64) then (j32 y3) else (if (19 : Int32) ≤ y3 then (j32 y3) else (lt_ (y3 + Int32.ofInt 1) fun x5 => lt_ (y4 / (10 : Int64)) fun x6 => F_Lt_digitCount_L8 j32 n x5 x6))
def F_Lt_digitCount (n : Nat) (a0 : Int64) : Option (Int32) := lt_ (a0 / (10 : Int64)) fun x1 => lt_ (fun (y2 : Int32) => some y2) fun j32 => F_Lt_digitCount_L8 j32 n (1 : Int32) x1
set_option maxHeartbeats 4000000 in
set_option maxRecDepth 100000 in
theorem c_Lt_digitCount (l : Launch) (n : Nat) (a0 : Int64) (r : Int32) (h : F_Lt_digitCount n a0 = some r) : Met l y_Lt_digitCount (.code y_Lt_digitCount b_Lt_digitCount 5 (some .int) :: BIG) ({ frames := 0, cells := 0, slots := 0, locals := 0 } : Room) (va_Pc [.long a0] (pre0)) (pQ (.int r)) 0 0 (fun _ => False) := by
  refine pOpen_i rfl (Nat.le_of_ble_eq_true rfl) ?_
  intro p e s m args below meth c Q ls hx hb hml hown hts hT hp hl hret
  have hNB := hp
  have hown : s.vm.findClass R_Lt = some m.cls := hown
  have hl : lv_has ls 5 [(0, .long a0)] := hl
  have h : (lt_ (a0 / (10 : Int64)) fun x1 => lt_ (fun (y2 : Int32) => some y2) fun j32 => F_Lt_digitCount_L8 j32 n (1 : Int32) x1) = some r := h
  refine lv_iconst hx hb d_Lt_digitCount_0 ic_1 ?_
  refine lv_istore_n hx hb d_Lt_digitCount_1 rfl hl (by decide) rfl (fun ls hl => ?_)
  have hl : lv_has ls 5 [(2, .int (1 : Int32)), (0, .long a0)] := hl
  refine lv_lload_n hx hb d_Lt_digitCount_2 rfl (lv_at hl 1 rfl) ?_
  refine lv_ldc2 hx hb hown (hT _ m_120) d_Lt_digitCount_3 ?_
  refine lv_ldiv hx hb d_Lt_digitCount_6 (by decide) ?_
  refine lv_topl (fun x1 e_x1 => ?_)
  have h := lt_h e_x1 h
  refine lv_lstore_n hx hb d_Lt_digitCount_7 rfl hl (by decide) rfl (fun ls hl => ?_)
  have hl : lv_has ls 5 [(3, .long x1), (2, .int (1 : Int32)), (0, .long a0)] := hl
  obtain ⟨j32, e_j32, h⟩ := lt_o h
  have hJ32 : ∀ (y2 : Int32) (ls : Array Slot), lv_has ls 5 [(2, .int y2)] → j32 y2 = some r → W p l e ({ frames := 0, cells := 0, slots := 0, locals := 0 } : Room) s m args below meth c s.heap [] 0 0 Q (F0 m 32 ls []) := by
    intro y2 ls hl h
    rw [e_j32] at h
    refine lv_iload_n hx hb d_Lt_digitCount_32 rfl (lv_at hl 0 rfl) ?_
    exact hret 33 ls _ (Option.some.inj h) d_Lt_digitCount_33
  have hL8 : ∀ (n : Nat) (y3 : Int32) (y4 : Int64) (ls : Array Slot), lv_has ls 5 [(2, .int y3), (3, .long y4)] → F_Lt_digitCount_L8 j32 n y3 y4 = some r → W p l e ({ frames := 0, cells := 0, slots := 0, locals := 0 } : Room) s m args below meth c s.heap [] 0 0 Q (F0 m 8 ls []) := by
    intro n
    induction n with
    | zero => intro y3 y4 ls hl h; exact no_s h
    | succ n ih =>
      intro y3 y4 ls hl h
      have h : (if y4 = (0 : Int64) then (j32 y3) else (if (19 : Int32) ≤ y3 then (j32 y3) else (lt_ (y3 + Int32.ofInt 1) fun x5 => lt_ (y4 / (10 : Int64)) fun x6 => F_Lt_digitCount_L8 j32 n x5 x6))) = some r := h
      refine lv_lload_n hx hb d_Lt_digitCount_8 rfl (lv_at hl 1 rfl) ?_
      refine lv_lconst hx hb d_Lt_digitCount_9 lc_0 ?_
      refine W.lcmp hx hb d_Lt_digitCount_10 ?_
      refine lv_if_eq (tgt := 32) hx hb d_Lt_digitCount_11 rfl (fun hc => ?_) (fun hc => ?_)
      · have hc := (lg_cmp_eq _ _).mp hc
        have h := ite_t hc h
        exact hJ32 _ ls (lv_sub hl [0] rfl) h
      · have hc := mt (lg_cmp_eq _ _).mpr hc
        have h := ite_f hc h
        refine lv_iload_n hx hb d_Lt_digitCount_14 rfl (lv_at hl 0 rfl) ?_
        refine lv_bipush hx hb d_Lt_digitCount_15 bp_19 ?_
        refine lv_icmp_ge (tgt := 32) hx hb d_Lt_digitCount_17 rfl (fun hc => ?_) (fun hc => ?_)
        · have h := ite_t hc h
          exact hJ32 _ ls (lv_sub hl [0] rfl) h
        · have h := ite_f hc h
          obtain ⟨x5, e_x5⟩ : ∃ z, z = y3 + Int32.ofInt 1 := ⟨_, rfl⟩
          have h := lt_h e_x5 h
          refine lv_iinc (k := 0) hx hb d_Lt_digitCount_20 hl rfl e_x5.symm (by decide) rfl (fun ls hl => ?_)
          have hl : lv_has ls 5 [(2, .int x5), (3, .long y4)] := hl
          refine lv_lload_n hx hb d_Lt_digitCount_23 rfl (lv_at hl 1 rfl) ?_
          refine lv_ldc2 hx hb hown (hT _ m_120) d_Lt_digitCount_24 ?_
          refine lv_ldiv hx hb d_Lt_digitCount_27 (by decide) ?_
          refine lv_topl (fun x6 e_x6 => ?_)
          have h := lt_h e_x6 h
          refine lv_lstore_n hx hb d_Lt_digitCount_28 rfl hl (by decide) rfl (fun ls hl => ?_)
          have hl : lv_has ls 5 [(3, .long x6), (2, .int x5)] := hl
          refine lv_goto (tgt := 8) hx hb d_Lt_digitCount_29 rfl ?_
          exact ih _ _ ls (lv_sub hl [1, 0] rfl) h
  exact hL8 n _ _ ls (lv_sub hl [1, 0] rfl) h
-- Lt_powerOfTen
theorem d_Lt_powerOfTen_0 : decode b_Lt_powerOfTen 0 = .ok (.lconst 1, 1) := by decide +kernel
theorem d_Lt_powerOfTen_1 : decode b_Lt_powerOfTen 1 = .ok (.lstore_n 1, 1) := by decide +kernel
theorem d_Lt_powerOfTen_2 : decode b_Lt_powerOfTen 2 = .ok (.iconst 0, 1) := by decide +kernel
theorem d_Lt_powerOfTen_3 : decode b_Lt_powerOfTen 3 = .ok (.istore_n 3, 1) := by decide +kernel
theorem d_Lt_powerOfTen_4 : decode b_Lt_powerOfTen 4 = .ok (.iload_n 3, 1) := by decide +kernel
theorem d_Lt_powerOfTen_5 : decode b_Lt_powerOfTen 5 = .ok (.iload_n 0, 1) := by decide +kernel
theorem d_Lt_powerOfTen_6 : decode b_Lt_powerOfTen 6 = .ok (.if_icmp .ge 21, 3) := by decide +kernel
theorem d_Lt_powerOfTen_9 : decode b_Lt_powerOfTen 9 = .ok (.iload_n 3, 1) := by decide +kernel
theorem d_Lt_powerOfTen_10 : decode b_Lt_powerOfTen 10 = .ok (.bipush 18, 2) := by decide +kernel
theorem d_Lt_powerOfTen_12 : decode b_Lt_powerOfTen 12 = .ok (.if_icmp .ge 15, 3) := by decide +kernel
theorem d_Lt_powerOfTen_15 : decode b_Lt_powerOfTen 15 = .ok (.lload_n 1, 1) := by decide +kernel
theorem d_Lt_powerOfTen_16 : decode b_Lt_powerOfTen 16 = .ok (.ldc2_w 62, 3) := by decide +kernel
theorem d_Lt_powerOfTen_19 : decode b_Lt_powerOfTen 19 = .ok (.lmul, 1) := by decide +kernel
theorem d_Lt_powerOfTen_20 : decode b_Lt_powerOfTen 20 = .ok (.lstore_n 1, 1) := by decide +kernel
theorem d_Lt_powerOfTen_21 : decode b_Lt_powerOfTen 21 = .ok (.iinc 3 1, 3) := by decide +kernel
theorem d_Lt_powerOfTen_24 : decode b_Lt_powerOfTen 24 = .ok (.goto (-20), 3) := by decide +kernel
theorem d_Lt_powerOfTen_27 : decode b_Lt_powerOfTen 27 = .ok (.lload_n 1, 1) := by decide +kernel
theorem d_Lt_powerOfTen_28 : decode b_Lt_powerOfTen 28 = .ok (.lreturn, 1) := by decide +kernel
def F_Lt_powerOfTen_L4 (a0 : Int32) (j27 : (Int64 → Option (Int64))) : Nat → Int64 → Int32 → Option (Int64)
  | 0, _, _ => none
  | n+1, y2, y3 => if a0 ≤ y3 then (j27 y2) else (if (18 : Int32) ≤ y3 then (j27 y2) else (lt_ (y2 * (10 : Int64)) fun x4 => lt_ (y3 + Int32.ofInt 1) fun x5 => F_Lt_powerOfTen_L4 a0 j27 n x4 x5))
def F_Lt_powerOfTen (n : Nat) (a0 : Int32) : Option (Int64) := lt_ (fun (y1 : Int64) => some y1) fun j27 => F_Lt_powerOfTen_L4 a0 j27 n (1 : Int64) (0 : Int32)
set_option maxHeartbeats 4000000 in
set_option maxRecDepth 100000 in
theorem c_Lt_powerOfTen (l : Launch) (n : Nat) (a0 : Int32) (r : Int64) (h : F_Lt_powerOfTen n a0 = some r) : Met l y_Lt_powerOfTen (.code y_Lt_powerOfTen b_Lt_powerOfTen 4 (some .long) :: BIG) ({ frames := 0, cells := 0, slots := 0, locals := 0 } : Room) (va_Pc [.int a0] (pre0)) (pQ (.long r)) 0 0 (fun _ => False) := by
  refine pOpen_l rfl (Nat.le_of_ble_eq_true rfl) ?_
  intro p e s m args below meth c Q ls hx hb hml hown hts hT hp hl hret
  have hNB := hp
  have hown : s.vm.findClass R_Lt = some m.cls := hown
  have hl : lv_has ls 4 [(0, .int a0)] := hl
  have h : (lt_ (fun (y1 : Int64) => some y1) fun j27 => F_Lt_powerOfTen_L4 a0 j27 n (1 : Int64) (0 : Int32)) = some r := h
  refine lv_lconst hx hb d_Lt_powerOfTen_0 lc_1 ?_
  refine lv_lstore_n hx hb d_Lt_powerOfTen_1 rfl hl (by decide) rfl (fun ls hl => ?_)
  have hl : lv_has ls 4 [(1, .long (1 : Int64)), (0, .int a0)] := hl
  refine lv_iconst hx hb d_Lt_powerOfTen_2 ic_0 ?_
  refine lv_istore_n hx hb d_Lt_powerOfTen_3 rfl hl (by decide) rfl (fun ls hl => ?_)
  have hl : lv_has ls 4 [(3, .int (0 : Int32)), (1, .long (1 : Int64)), (0, .int a0)] := hl
  obtain ⟨j27, e_j27, h⟩ := lt_o h
  have hJ27 : ∀ (y1 : Int64) (ls : Array Slot), lv_has ls 4 [(1, .long y1)] → j27 y1 = some r → W p l e ({ frames := 0, cells := 0, slots := 0, locals := 0 } : Room) s m args below meth c s.heap [] 0 0 Q (F0 m 27 ls []) := by
    intro y1 ls hl h
    rw [e_j27] at h
    refine lv_lload_n hx hb d_Lt_powerOfTen_27 rfl (lv_at hl 0 rfl) ?_
    exact hret 28 ls _ (Option.some.inj h) d_Lt_powerOfTen_28
  have hL4 : ∀ (n : Nat) (y2 : Int64) (y3 : Int32) (ls : Array Slot), lv_has ls 4 [(0, .int a0), (1, .long y2), (3, .int y3)] → F_Lt_powerOfTen_L4 a0 j27 n y2 y3 = some r → W p l e ({ frames := 0, cells := 0, slots := 0, locals := 0 } : Room) s m args below meth c s.heap [] 0 0 Q (F0 m 4 ls []) := by
    intro n
    induction n with
    | zero => intro y2 y3 ls hl h; exact no_s h
    | succ n ih =>
      intro y2 y3 ls hl h
      have h : (if a0 ≤ y3 then (j27 y2) else (if (18 : Int32) ≤ y3 then (j27 y2) else (lt_ (y2 * (10 : Int64)) fun x4 => lt_ (y3 + Int32.ofInt 1) fun x5 => F_Lt_powerOfTen_L4 a0 j27 n x4 x5))) = some r := h
      refine lv_iload_n hx hb d_Lt_powerOfTen_4 rfl (lv_at hl 2 rfl) ?_
      refine lv_iload_n hx hb d_Lt_powerOfTen_5 rfl (lv_at hl 0 rfl) ?_
      refine lv_icmp_ge (tgt := 27) hx hb d_Lt_powerOfTen_6 rfl (fun hc => ?_) (fun hc => ?_)
      · have h := ite_t hc h
        exact hJ27 _ ls (lv_sub hl [1] rfl) h
      · have h := ite_f hc h
        refine lv_iload_n hx hb d_Lt_powerOfTen_9 rfl (lv_at hl 2 rfl) ?_
        refine lv_bipush hx hb d_Lt_powerOfTen_10 bp_18 ?_
        refine lv_icmp_ge (tgt := 27) hx hb d_Lt_powerOfTen_12 rfl (fun hc => ?_) (fun hc => ?_)
        · have h := ite_t hc h
          exact hJ27 _ ls (lv_sub hl [1] rfl) h
        · have h := ite_f hc h
          refine lv_lload_n hx hb d_Lt_powerOfTen_15 rfl (lv_at hl 1 rfl) ?_
          refine lv_ldc2 hx hb hown (hT _ m_120) d_Lt_powerOfTen_16 ?_
          refine lv_lmul hx hb d_Lt_powerOfTen_19 ?_
          refine lv_topl (fun x4 e_x4 => ?_)
          have h := lt_h e_x4 h
          refine lv_lstore_n hx hb d_Lt_powerOfTen_20 rfl hl (by decide) rfl (fun ls hl => ?_)
          have hl : lv_has ls 4 [(1, .long x4), (0, .int a0), (3, .int y3)] := hl
          obtain ⟨x5, e_x5⟩ : ∃ z, z = y3 + Int32.ofInt 1 := ⟨_, rfl⟩
          have h := lt_h e_x5 h
          refine lv_iinc (k := 2) hx hb d_Lt_powerOfTen_21 hl rfl e_x5.symm (by decide) rfl (fun ls hl => ?_)
          have hl : lv_has ls 4 [(3, .int x5), (1, .long x4), (0, .int a0)] := hl
          refine lv_goto (tgt := 4) hx hb d_Lt_powerOfTen_24 rfl ?_
          exact ih _ _ ls (lv_sub hl [2, 1, 0] rfl) h
  exact hL4 n _ _ ls (lv_sub hl [2, 1, 0] rfl) h
-- Md_nan
theorem d_Md_nan_0 : decode b_Md_nan 0 = .ok (.iload_n 0, 1) := by decide +kernel
theorem d_Md_nan_1 : decode b_Md_nan 1 = .ok (.ifCond .eq 9, 3) := by decide +kernel
theorem d_Md_nan_4 : decode b_Md_nan 4 = .ok (.ldc2_w 24, 3) := by decide +kernel
theorem d_Md_nan_7 : decode b_Md_nan 7 = .ok (.goto 6, 3) := by decide +kernel
theorem d_Md_nan_10 : decode b_Md_nan 10 = .ok (.ldc2_w 26, 3) := by decide +kernel
theorem d_Md_nan_13 : decode b_Md_nan 13 = .ok (.lreturn, 1) := by decide +kernel
def F_Md_nan (a0 : Int32) : Int64 := lt_ (if a0 = 0 then (9221120237041090560 : Int64) else (2143289344 : Int64)) fun x1 => x1
set_option maxHeartbeats 4000000 in
set_option maxRecDepth 100000 in
theorem c_Md_nan (l : Launch) (a0 : Int32) : Met l y_Md_nan (.code y_Md_nan b_Md_nan 1 (some .long) :: BIG) ({ frames := 0, cells := 0, slots := 0, locals := 0 } : Room) (va_Pc [.int a0] (pre0)) (pQ (.long (F_Md_nan a0))) 0 0 (fun _ => False) := by
  refine pOpen_l rfl (Nat.le_of_ble_eq_true rfl) ?_
  intro p e s m args below meth c Q ls hx hb hml hown hts hT hp hl hret
  have hNB := hp
  have hown : s.vm.findClass R_Md = some m.cls := hown
  have hl : lv_has ls 1 [(0, .int a0)] := hl
  obtain ⟨r, h⟩ : ∃ r, F_Md_nan a0 = r := ⟨_, rfl⟩
  rw [h] at hret
  have h : (lt_ (if a0 = 0 then (9221120237041090560 : Int64) else (2143289344 : Int64)) fun x1 => x1) = r := h
  refine lv_iload_n hx hb d_Md_nan_0 rfl (lv_at hl 0 rfl) ?_
  obtain ⟨x1, e_x1, h⟩ := lt_o h
  have hJ13 : ∀ (x1' : Int64) (ls : Array Slot), x1 = x1' → lv_has ls 1 [] → W p l e ({ frames := 0, cells := 0, slots := 0, locals := 0 } : Room) s m args below meth c s.heap [] 0 0 Q (F0 m 13 ls [.long x1']) := by
    intro x1' ls q_x1 hl
    subst q_x1
    exact hret 13 ls _ h d_Md_nan_13
  refine lv_if_eq (tgt := 10) hx hb d_Md_nan_1 rfl (fun hc => ?_) (fun hc => ?_)
  · have e_x1 := e_x1.trans (if_pos hc)
    refine lv_ldc2 hx hb hown (hT _ m_121) d_Md_nan_10 ?_
    exact hJ13 _ ls e_x1 (lv_sub hl [] rfl)
  · have e_x1 := e_x1.trans (if_neg hc)
    refine lv_ldc2 hx hb hown (hT _ m_122) d_Md_nan_4 ?_
    refine lv_goto (tgt := 13) hx hb d_Md_nan_7 rfl ?_
    exact hJ13 _ ls e_x1 (lv_sub hl [] rfl)
-- Md_sign
theorem d_Md_sign_0 : decode b_Md_sign 0 = .ok (.iload_n 0, 1) := by decide +kernel
theorem d_Md_sign_1 : decode b_Md_sign 1 = .ok (.ifCond .ne 7, 3) := by decide +kernel
theorem d_Md_sign_4 : decode b_Md_sign 4 = .ok (.lconst 0, 1) := by decide +kernel
theorem d_Md_sign_5 : decode b_Md_sign 5 = .ok (.goto 16, 3) := by decide +kernel
theorem d_Md_sign_8 : decode b_Md_sign 8 = .ok (.iload_n 1, 1) := by decide +kernel
theorem d_Md_sign_9 : decode b_Md_sign 9 = .ok (.ifCond .eq 9, 3) := by decide +kernel
theorem d_Md_sign_12 : decode b_Md_sign 12 = .ok (.ldc2_w 36, 3) := by decide +kernel
theorem d_Md_sign_15 : decode b_Md_sign 15 = .ok (.goto 6, 3) := by decide +kernel
theorem d_Md_sign_18 : decode b_Md_sign 18 = .ok (.ldc2_w 40, 3) := by decide +kernel
theorem d_Md_sign_21 : decode b_Md_sign 21 = .ok (.lreturn, 1) := by decide +kernel
def F_Md_sign (a0 : Int32) (a1 : Int32) : Int64 := lt_ (if ¬ a0 = 0 then if a1 = 0 then (-9223372036854775808 : Int64) else (2147483648 : Int64) else (0 : Int64)) fun x1 => x1
set_option maxHeartbeats 4000000 in
set_option maxRecDepth 100000 in
theorem c_Md_sign (l : Launch) (a0 : Int32) (a1 : Int32) : Met l y_Md_sign (.code y_Md_sign b_Md_sign 2 (some .long) :: BIG) ({ frames := 0, cells := 0, slots := 0, locals := 0 } : Room) (va_Pc [.int a0, .int a1] (pre0)) (pQ (.long (F_Md_sign a0 a1))) 0 0 (fun _ => False) := by
  refine pOpen_l rfl (Nat.le_of_ble_eq_true rfl) ?_
  intro p e s m args below meth c Q ls hx hb hml hown hts hT hp hl hret
  have hNB := hp
  have hown : s.vm.findClass R_Md = some m.cls := hown
  have hl : lv_has ls 2 [(0, .int a0), (1, .int a1)] := hl
  obtain ⟨r, h⟩ : ∃ r, F_Md_sign a0 a1 = r := ⟨_, rfl⟩
  rw [h] at hret
  have h : (lt_ (if ¬ a0 = 0 then if a1 = 0 then (-9223372036854775808 : Int64) else (2147483648 : Int64) else (0 : Int64)) fun x1 => x1) = r := h
  refine lv_iload_n hx hb d_Md_sign_0 rfl (lv_at hl 0 rfl) ?_
  obtain ⟨x1, e_x1, h⟩ := lt_o h
  have hJ21 : ∀ (x1' : Int64) (ls : Array Slot), x1 = x1' → lv_has ls 2 [] → W p l e ({ frames := 0, cells := 0, slots := 0, locals := 0 } : Room) s m args below meth c s.heap [] 0 0 Q (F0 m 21 ls [.long x1']) := by
    intro x1' ls q_x1 hl
    subst q_x1
    exact hret 21 ls _ h d_Md_sign_21
  refine lv_if_ne (tgt := 8) hx hb d_Md_sign_1 rfl (fun hc => ?_) (fun hc => ?_)
  · have e_x1 := e_x1.trans (if_pos hc)
    refine lv_iload_n hx hb d_Md_sign_8 rfl (lv_at hl 1 rfl) ?_
    refine lv_if_eq (tgt := 18) hx hb d_Md_sign_9 rfl (fun hc => ?_) (fun hc => ?_)
    · have e_x1 := e_x1.trans (if_pos hc)
      refine lv_ldc2 hx hb hown (hT _ m_123) d_Md_sign_18 ?_
      exact hJ21 _ ls e_x1 (lv_sub hl [] rfl)
    · have e_x1 := e_x1.trans (if_neg hc)
      refine lv_ldc2 hx hb hown (hT _ m_124) d_Md_sign_12 ?_
      refine lv_goto (tgt := 21) hx hb d_Md_sign_15 rfl ?_
      exact hJ21 _ ls e_x1 (lv_sub hl [] rfl)
  · have hc := not_not_intro hc
    have e_x1 := e_x1.trans (if_neg hc)
    refine lv_lconst hx hb d_Md_sign_4 lc_0 ?_
    refine lv_goto (tgt := 21) hx hb d_Md_sign_5 rfl ?_
    exact hJ21 _ ls e_x1 (lv_sub hl [] rfl)
-- Md_far
theorem d_Md_far_0 : decode b_Md_far 0 = .ok (.iload_n 1, 1) := by decide +kernel
theorem d_Md_far_1 : decode b_Md_far 1 = .ok (.ifCond .eq 9, 3) := by decide +kernel
theorem d_Md_far_4 : decode b_Md_far 4 = .ok (.ldc2_w 28, 3) := by decide +kernel
theorem d_Md_far_7 : decode b_Md_far 7 = .ok (.goto 6, 3) := by decide +kernel
theorem d_Md_far_10 : decode b_Md_far 10 = .ok (.ldc2_w 30, 3) := by decide +kernel
theorem d_Md_far_13 : decode b_Md_far 13 = .ok (.iload_n 0, 1) := by decide +kernel
theorem d_Md_far_14 : decode b_Md_far 14 = .ok (.iload_n 1, 1) := by decide +kernel
theorem d_Md_far_15 : decode b_Md_far 15 = .ok (.invokestatic 32, 3) := by decide +kernel
theorem d_Md_far_18 : decode b_Md_far 18 = .ok (.lor, 1) := by decide +kernel
theorem d_Md_far_19 : decode b_Md_far 19 = .ok (.lreturn, 1) := by decide +kernel
def F_Md_far (a0 : Int32) (a1 : Int32) : Int64 := lt_ (if a1 = 0 then (9218868437227405312 : Int64) else (2139095040 : Int64)) fun x1 => x1 ||| (F_Md_sign a0 a1)
set_option maxHeartbeats 4000000 in
set_option maxRecDepth 100000 in
theorem c_Md_far (l : Launch) (a0 : Int32) (a1 : Int32) : Met l y_Md_far (.code y_Md_far b_Md_far 2 (some .long) :: BIG) ({ frames := 1, cells := 0, slots := 0, locals := 21 } : Room) (va_Pc [.int a0, .int a1] (pre0)) (pQ (.long (F_Md_far a0 a1))) 0 0 (fun _ => False) := by
  refine pOpen_l rfl (Nat.le_of_ble_eq_true rfl) ?_
  intro p e s m args below meth c Q ls hx hb hml hown hts hT hp hl hret
  have hNB := hp
  have hown : s.vm.findClass R_Md = some m.cls := hown
  have hl : lv_has ls 2 [(0, .int a0), (1, .int a1)] := hl
  obtain ⟨r, h⟩ : ∃ r, F_Md_far a0 a1 = r := ⟨_, rfl⟩
  rw [h] at hret
  have h : (lt_ (if a1 = 0 then (9218868437227405312 : Int64) else (2139095040 : Int64)) fun x1 => x1 ||| (F_Md_sign a0 a1)) = r := h
  refine lv_iload_n hx hb d_Md_far_0 rfl (lv_at hl 1 rfl) ?_
  obtain ⟨x1, e_x1, h⟩ := lt_o h
  have hJ13 : ∀ (x1' : Int64) (ls : Array Slot), x1 = x1' → lv_has ls 2 [(0, .int a0), (1, .int a1)] → W p l e ({ frames := 1, cells := 0, slots := 0, locals := 21 } : Room) s m args below meth c s.heap [] 0 0 Q (F0 m 13 ls [.long x1']) := by
    intro x1' ls q_x1 hl
    subst q_x1
    refine lv_iload_n hx hb d_Md_far_13 rfl (lv_at hl 0 rfl) ?_
    refine lv_iload_n hx hb d_Md_far_14 rfl (lv_at hl 1 rfl) ?_
    refine q_S (As := [.int a0, .int a1]) (rest := [.long x1]) (n := 2) hx hb hml hown hts (c_Md_sign l a0 a1) rfl rfl m_127 m_128 m_129 m_130 (by decide +kernel) ⟨Nat.le_of_ble_eq_true rfl, Nat.le_of_ble_eq_true rfl⟩ (p0_bl) (fun U hU hW => p0_mv hU hW hNB) rfl hl.1 rfl (Nat.le_of_ble_eq_true rfl) d_Md_far_15 ⟨Nat.zero_le _, Nat.zero_le _⟩ ?_
    refine lv_lor hx hb d_Md_far_18 ?_
    exact hret 19 ls _ h d_Md_far_19
  refine lv_if_eq (tgt := 10) hx hb d_Md_far_1 rfl (fun hc => ?_) (fun hc => ?_)
  · have e_x1 := e_x1.trans (if_pos hc)
    refine lv_ldc2 hx hb hown (hT _ m_125) d_Md_far_10 ?_
    exact hJ13 _ ls e_x1 (lv_sub hl [0, 1] rfl)
  · have e_x1 := e_x1.trans (if_neg hc)
    refine lv_ldc2 hx hb hown (hT _ m_126) d_Md_far_4 ?_
    refine lv_goto (tgt := 13) hx hb d_Md_far_7 rfl ?_
    exact hJ13 _ ls e_x1 (lv_sub hl [0, 1] rfl)
-- Md_length
theorem d_Md_length_0 : decode b_Md_length 0 = .ok (.iconst 0, 1) := by decide +kernel
theorem d_Md_length_1 : decode b_Md_length 1 = .ok (.istore_n 2, 1) := by decide +kernel
theorem d_Md_length_2 : decode b_Md_length 2 = .ok (.lload_n 0, 1) := by decide +kernel
theorem d_Md_length_3 : decode b_Md_length 3 = .ok (.lstore_n 3, 1) := by decide +kernel
theorem d_Md_length_4 : decode b_Md_length 4 = .ok (.lload_n 3, 1) := by decide +kernel
theorem d_Md_length_5 : decode b_Md_length 5 = .ok (.lconst 0, 1) := by decide +kernel
theorem d_Md_length_6 : decode b_Md_length 6 = .ok (.lcmp, 1) := by decide +kernel
theorem d_Md_length_7 : decode b_Md_length 7 = .ok (.ifCond .eq 13, 3) := by decide +kernel
theorem d_Md_length_10 : decode b_Md_length 10 = .ok (.iinc 2 1, 3) := by decide +kernel
theorem d_Md_length_13 : decode b_Md_length 13 = .ok (.lload_n 3, 1) := by decide +kernel
theorem d_Md_length_14 : decode b_Md_length 14 = .ok (.iconst 1, 1) := by decide +kernel
theorem d_Md_length_15 : decode b_Md_length 15 = .ok (.lushr, 1) := by decide +kernel
theorem d_Md_length_16 : decode b_Md_length 16 = .ok (.lstore_n 3, 1) := by decide +kernel
theorem d_Md_length_17 : decode b_Md_length 17 = .ok (.goto (-13), 3) := by decide +kernel
theorem d_Md_length_20 : decode b_Md_length 20 = .ok (.iload_n 2, 1) := by decide +kernel
theorem d_Md_length_21 : decode b_Md_length 21 = .ok (.ireturn, 1) := by decide +kernel
def F_Md_length_L4 (j20 : (Int32 → Option (Int32))) : Nat → Int32 → Int64 → Option (Int32)
  | 0, _, _ => none
  | n+1, y2, y3 => if y3 = (0 : Int64) then (j20 y2) else (lt_ (y2 + Int32.ofInt 1) fun x4 => lt_ (((y3).toUInt64 >>> (((1 : Int32)).toInt64.toUInt64 &&& Int64.toUInt64 63)).toInt64) fun x5 => F_Md_length_L4 j20 n x4 x5)
def F_Md_length (n : Nat) (a0 : Int64) : Option (Int32) := lt_ (fun (y1 : Int32) => some y1) fun j20 => F_Md_length_L4 j20 n (0 : Int32) a0
set_option maxHeartbeats 4000000 in
set_option maxRecDepth 100000 in
theorem c_Md_length (l : Launch) (n : Nat) (a0 : Int64) (r : Int32) (h : F_Md_length n a0 = some r) : Met l y_Md_length (.code y_Md_length b_Md_length 5 (some .int) :: BIG) ({ frames := 0, cells := 0, slots := 0, locals := 0 } : Room) (va_Pc [.long a0] (pre0)) (pQ (.int r)) 0 0 (fun _ => False) := by
  refine pOpen_i rfl (Nat.le_of_ble_eq_true rfl) ?_
  intro p e s m args below meth c Q ls hx hb hml hown hts hT hp hl hret
  have hNB := hp
  have hown : s.vm.findClass R_Md = some m.cls := hown
  have hl : lv_has ls 5 [(0, .long a0)] := hl
  have h : (lt_ (fun (y1 : Int32) => some y1) fun j20 => F_Md_length_L4 j20 n (0 : Int32) a0) = some r := h
  refine lv_iconst hx hb d_Md_length_0 ic_0 ?_
  refine lv_istore_n hx hb d_Md_length_1 rfl hl (by decide) rfl (fun ls hl => ?_)
  have hl : lv_has ls 5 [(2, .int (0 : Int32)), (0, .long a0)] := hl
  refine lv_lload_n hx hb d_Md_length_2 rfl (lv_at hl 1 rfl) ?_
  refine lv_lstore_n hx hb d_Md_length_3 rfl hl (by decide) rfl (fun ls hl => ?_)
  have hl : lv_has ls 5 [(3, .long a0), (2, .int (0 : Int32)), (0, .long a0)] := hl
  obtain ⟨j20, e_j20, h⟩ := lt_o h
  have hJ20 : ∀ (y1 : Int32) (ls : Array Slot), lv_has ls 5 [(2, .int y1)] → j20 y1 = some r → W p l e ({ frames := 0, cells := 0, slots := 0, locals := 0 } : Room) s m args below meth c s.heap [] 0 0 Q (F0 m 20 ls []) := by
    intro y1 ls hl h
    rw [e_j20] at h
    refine lv_iload_n hx hb d_Md_length_20 rfl (lv_at hl 0 rfl) ?_
    exact hret 21 ls _ (Option.some.inj h) d_Md_length_21
  have hL4 : ∀ (n : Nat) (y2 : Int32) (y3 : Int64) (ls : Array Slot), lv_has ls 5 [(2, .int y2), (3, .long y3)] → F_Md_length_L4 j20 n y2 y3 = some r → W p l e ({ frames := 0, cells := 0, slots := 0, locals := 0 } : Room) s m args below meth c s.heap [] 0 0 Q (F0 m 4 ls []) := by
    intro n
    induction n with
    | zero => intro y2 y3 ls hl h; exact no_s h
    | succ n ih =>
      intro y2 y3 ls hl h
      have h : (if y3 = (0 : Int64) then (j20 y2) else (lt_ (y2 + Int32.ofInt 1) fun x4 => lt_ (((y3).toUInt64 >>> (((1 : Int32)).toInt64.toUInt64 &&& Int64.toUInt64 63)).toInt64) fun x5 => F_Md_length_L4 j20 n x4 x5)) = some r := h
      refine lv_lload_n hx hb d_Md_length_4 rfl (lv_at hl 1 rfl) ?_
      refine lv_lconst hx hb d_Md_length_5 lc_0 ?_
      refine W.lcmp hx hb d_Md_length_6 ?_
      refine lv_if_eq (tgt := 20) hx hb d_Md_length_7 rfl (fun hc => ?_) (fun hc => ?_)
      · have hc := (lg_cmp_eq _ _).mp hc
        have h := ite_t hc h
        exact hJ20 _ ls (lv_sub hl [0] rfl) h
      · have hc := mt (lg_cmp_eq _ _).mpr hc
        have h := ite_f hc h
        obtain ⟨x4, e_x4⟩ : ∃ z, z = y2 + Int32.ofInt 1 := ⟨_, rfl⟩
        have h := lt_h e_x4 h
        refine lv_iinc (k := 0) hx hb d_Md_length_10 hl rfl e_x4.symm (by decide) rfl (fun ls hl => ?_)
        have hl : lv_has ls 5 [(2, .int x4), (3, .long y3)] := hl
        refine lv_lload_n hx hb d_Md_length_13 rfl (lv_at hl 1 rfl) ?_
        refine lv_iconst hx hb d_Md_length_14 ic_1 ?_
        refine lv_lushr hx hb d_Md_length_15 rfl ?_
        refine lv_topl (fun x5 e_x5 => ?_)
        have h := lt_h e_x5 h
        refine lv_lstore_n hx hb d_Md_length_16 rfl hl (by decide) rfl (fun ls hl => ?_)
        have hl : lv_has ls 5 [(3, .long x5), (2, .int x4)] := hl
        refine lv_goto (tgt := 4) hx hb d_Md_length_17 rfl ?_
        exact ih _ _ ls (lv_sub hl [1, 0] rfl) h
  exact hL4 n _ _ ls (lv_sub hl [1, 0] rfl) h
-- Md_round
theorem d_Md_round_0 : decode b_Md_round 0 = .ok (.iload 5, 2) := by decide +kernel
theorem d_Md_round_2 : decode b_Md_round 2 = .ok (.ifCond .eq 8, 3) := by decide +kernel
theorem d_Md_round_5 : decode b_Md_round 5 = .ok (.bipush 24, 2) := by decide +kernel
theorem d_Md_round_7 : decode b_Md_round 7 = .ok (.goto 5, 3) := by decide +kernel
theorem d_Md_round_10 : decode b_Md_round 10 = .ok (.bipush 53, 2) := by decide +kernel
theorem d_Md_round_12 : decode b_Md_round 12 = .ok (.istore 6, 2) := by decide +kernel
theorem d_Md_round_14 : decode b_Md_round 14 = .ok (.iload 5, 2) := by decide +kernel
theorem d_Md_round_16 : decode b_Md_round 16 = .ok (.ifCond .eq 9, 3) := by decide +kernel
theorem d_Md_round_19 : decode b_Md_round 19 = .ok (.sipush (-149), 3) := by decide +kernel
theorem d_Md_round_22 : decode b_Md_round 22 = .ok (.goto 6, 3) := by decide +kernel
theorem d_Md_round_25 : decode b_Md_round 25 = .ok (.sipush (-1074), 3) := by decide +kernel
theorem d_Md_round_28 : decode b_Md_round 28 = .ok (.istore 7, 2) := by decide +kernel
theorem d_Md_round_30 : decode b_Md_round 30 = .ok (.lload_n 1, 1) := by decide +kernel
theorem d_Md_round_31 : decode b_Md_round 31 = .ok (.invokestatic 76, 3) := by decide +kernel
theorem d_Md_round_34 : decode b_Md_round 34 = .ok (.iload 6, 2) := by decide +kernel
theorem d_Md_round_36 : decode b_Md_round 36 = .ok (.isub, 1) := by decide +kernel
theorem d_Md_round_37 : decode b_Md_round 37 = .ok (.iload 7, 2) := by decide +kernel
theorem d_Md_round_39 : decode b_Md_round 39 = .ok (.iload_n 3, 1) := by decide +kernel
theorem d_Md_round_40 : decode b_Md_round 40 = .ok (.isub, 1) := by decide +kernel
theorem d_Md_round_41 : decode b_Md_round 41 = .ok (.invokestatic 80, 3) := by decide +kernel
theorem d_Md_round_44 : decode b_Md_round 44 = .ok (.istore 8, 2) := by decide +kernel
theorem d_Md_round_46 : decode b_Md_round 46 = .ok (.lload_n 1, 1) := by decide +kernel
theorem d_Md_round_47 : decode b_Md_round 47 = .ok (.lstore 9, 2) := by decide +kernel
theorem d_Md_round_49 : decode b_Md_round 49 = .ok (.iload 8, 2) := by decide +kernel
theorem d_Md_round_51 : decode b_Md_round 51 = .ok (.ifCond .gt 13, 3) := by decide +kernel
theorem d_Md_round_54 : decode b_Md_round 54 = .ok (.lload_n 1, 1) := by decide +kernel
theorem d_Md_round_55 : decode b_Md_round 55 = .ok (.iload 8, 2) := by decide +kernel
theorem d_Md_round_57 : decode b_Md_round 57 = .ok (.ineg, 1) := by decide +kernel
theorem d_Md_round_58 : decode b_Md_round 58 = .ok (.lshl, 1) := by decide +kernel
theorem d_Md_round_59 : decode b_Md_round 59 = .ok (.lstore 9, 2) := by decide +kernel
theorem d_Md_round_61 : decode b_Md_round 61 = .ok (.goto 112, 3) := by decide +kernel
theorem d_Md_round_64 : decode b_Md_round 64 = .ok (.iload 8, 2) := by decide +kernel
theorem d_Md_round_66 : decode b_Md_round 66 = .ok (.bipush 64, 2) := by decide +kernel
theorem d_Md_round_68 : decode b_Md_round 68 = .ok (.if_icmp .le 9, 3) := by decide +kernel
theorem d_Md_round_71 : decode b_Md_round 71 = .ok (.lconst 0, 1) := by decide +kernel
theorem d_Md_round_72 : decode b_Md_round 72 = .ok (.lstore 9, 2) := by decide +kernel
theorem d_Md_round_74 : decode b_Md_round 74 = .ok (.goto 99, 3) := by decide +kernel
theorem d_Md_round_77 : decode b_Md_round 77 = .ok (.iload 8, 2) := by decide +kernel
theorem d_Md_round_79 : decode b_Md_round 79 = .ok (.bipush 64, 2) := by decide +kernel
theorem d_Md_round_81 : decode b_Md_round 81 = .ok (.if_icmp .ne 7, 3) := by decide +kernel
theorem d_Md_round_84 : decode b_Md_round 84 = .ok (.lconst 0, 1) := by decide +kernel
theorem d_Md_round_85 : decode b_Md_round 85 = .ok (.goto 9, 3) := by decide +kernel
theorem d_Md_round_88 : decode b_Md_round 88 = .ok (.lload_n 1, 1) := by decide +kernel
theorem d_Md_round_89 : decode b_Md_round 89 = .ok (.iload 8, 2) := by decide +kernel
theorem d_Md_round_91 : decode b_Md_round 91 = .ok (.iconst 1, 1) := by decide +kernel
theorem d_Md_round_92 : decode b_Md_round 92 = .ok (.isub, 1) := by decide +kernel
theorem d_Md_round_93 : decode b_Md_round 93 = .ok (.lushr, 1) := by decide +kernel
theorem d_Md_round_94 : decode b_Md_round 94 = .ok (.lstore 11, 2) := by decide +kernel
theorem d_Md_round_96 : decode b_Md_round 96 = .ok (.iload 8, 2) := by decide +kernel
theorem d_Md_round_98 : decode b_Md_round 98 = .ok (.bipush 64, 2) := by decide +kernel
theorem d_Md_round_100 : decode b_Md_round 100 = .ok (.if_icmp .ne 7, 3) := by decide +kernel
theorem d_Md_round_103 : decode b_Md_round 103 = .ok (.lload_n 1, 1) := by decide +kernel
theorem d_Md_round_104 : decode b_Md_round 104 = .ok (.goto 13, 3) := by decide +kernel
theorem d_Md_round_107 : decode b_Md_round 107 = .ok (.lload_n 1, 1) := by decide +kernel
theorem d_Md_round_108 : decode b_Md_round 108 = .ok (.lconst 1, 1) := by decide +kernel
theorem d_Md_round_109 : decode b_Md_round 109 = .ok (.iload 8, 2) := by decide +kernel
theorem d_Md_round_111 : decode b_Md_round 111 = .ok (.iconst 1, 1) := by decide +kernel
theorem d_Md_round_112 : decode b_Md_round 112 = .ok (.isub, 1) := by decide +kernel
theorem d_Md_round_113 : decode b_Md_round 113 = .ok (.lshl, 1) := by decide +kernel
theorem d_Md_round_114 : decode b_Md_round 114 = .ok (.lconst 1, 1) := by decide +kernel
theorem d_Md_round_115 : decode b_Md_round 115 = .ok (.lsub, 1) := by decide +kernel
theorem d_Md_round_116 : decode b_Md_round 116 = .ok (.land, 1) := by decide +kernel
theorem d_Md_round_117 : decode b_Md_round 117 = .ok (.lstore 13, 2) := by decide +kernel
theorem d_Md_round_119 : decode b_Md_round 119 = .ok (.lload 13, 2) := by decide +kernel
theorem d_Md_round_121 : decode b_Md_round 121 = .ok (.lconst 0, 1) := by decide +kernel
theorem d_Md_round_122 : decode b_Md_round 122 = .ok (.lcmp, 1) := by decide +kernel
theorem d_Md_round_123 : decode b_Md_round 123 = .ok (.ifCond .ne 8, 3) := by decide +kernel
theorem d_Md_round_126 : decode b_Md_round 126 = .ok (.iload 4, 2) := by decide +kernel
theorem d_Md_round_128 : decode b_Md_round 128 = .ok (.ifCond .eq 7, 3) := by decide +kernel
theorem d_Md_round_131 : decode b_Md_round 131 = .ok (.iconst 1, 1) := by decide +kernel
theorem d_Md_round_132 : decode b_Md_round 132 = .ok (.goto 4, 3) := by decide +kernel
theorem d_Md_round_135 : decode b_Md_round 135 = .ok (.iconst 0, 1) := by decide +kernel
theorem d_Md_round_136 : decode b_Md_round 136 = .ok (.istore 15, 2) := by decide +kernel
theorem d_Md_round_138 : decode b_Md_round 138 = .ok (.lload 11, 2) := by decide +kernel
theorem d_Md_round_140 : decode b_Md_round 140 = .ok (.iconst 1, 1) := by decide +kernel
theorem d_Md_round_141 : decode b_Md_round 141 = .ok (.lushr, 1) := by decide +kernel
theorem d_Md_round_142 : decode b_Md_round 142 = .ok (.lstore 9, 2) := by decide +kernel
theorem d_Md_round_144 : decode b_Md_round 144 = .ok (.lload 11, 2) := by decide +kernel
theorem d_Md_round_146 : decode b_Md_round 146 = .ok (.lconst 1, 1) := by decide +kernel
theorem d_Md_round_147 : decode b_Md_round 147 = .ok (.land, 1) := by decide +kernel
theorem d_Md_round_148 : decode b_Md_round 148 = .ok (.lconst 1, 1) := by decide +kernel
theorem d_Md_round_149 : decode b_Md_round 149 = .ok (.lcmp, 1) := by decide +kernel
theorem d_Md_round_150 : decode b_Md_round 150 = .ok (.ifCond .ne 23, 3) := by decide +kernel
theorem d_Md_round_153 : decode b_Md_round 153 = .ok (.iload 15, 2) := by decide +kernel
theorem d_Md_round_155 : decode b_Md_round 155 = .ok (.ifCond .ne 12, 3) := by decide +kernel
theorem d_Md_round_158 : decode b_Md_round 158 = .ok (.lload 9, 2) := by decide +kernel
theorem d_Md_round_160 : decode b_Md_round 160 = .ok (.lconst 1, 1) := by decide +kernel
theorem d_Md_round_161 : decode b_Md_round 161 = .ok (.land, 1) := by decide +kernel
theorem d_Md_round_162 : decode b_Md_round 162 = .ok (.lconst 1, 1) := by decide +kernel
theorem d_Md_round_163 : decode b_Md_round 163 = .ok (.lcmp, 1) := by decide +kernel
theorem d_Md_round_164 : decode b_Md_round 164 = .ok (.ifCond .ne 9, 3) := by decide +kernel
theorem d_Md_round_167 : decode b_Md_round 167 = .ok (.lload 9, 2) := by decide +kernel
theorem d_Md_round_169 : decode b_Md_round 169 = .ok (.lconst 1, 1) := by decide +kernel
theorem d_Md_round_170 : decode b_Md_round 170 = .ok (.ladd, 1) := by decide +kernel
theorem d_Md_round_171 : decode b_Md_round 171 = .ok (.lstore 9, 2) := by decide +kernel
theorem d_Md_round_173 : decode b_Md_round 173 = .ok (.iload_n 3, 1) := by decide +kernel
theorem d_Md_round_174 : decode b_Md_round 174 = .ok (.iload 8, 2) := by decide +kernel
theorem d_Md_round_176 : decode b_Md_round 176 = .ok (.iadd, 1) := by decide +kernel
theorem d_Md_round_177 : decode b_Md_round 177 = .ok (.istore 11, 2) := by decide +kernel
theorem d_Md_round_179 : decode b_Md_round 179 = .ok (.lload 9, 2) := by decide +kernel
theorem d_Md_round_181 : decode b_Md_round 181 = .ok (.invokestatic 76, 3) := by decide +kernel
theorem d_Md_round_184 : decode b_Md_round 184 = .ok (.iload 6, 2) := by decide +kernel
theorem d_Md_round_186 : decode b_Md_round 186 = .ok (.if_icmp .le 12, 3) := by decide +kernel
theorem d_Md_round_189 : decode b_Md_round 189 = .ok (.lload 9, 2) := by decide +kernel
theorem d_Md_round_191 : decode b_Md_round 191 = .ok (.iconst 1, 1) := by decide +kernel
theorem d_Md_round_192 : decode b_Md_round 192 = .ok (.lushr, 1) := by decide +kernel
theorem d_Md_round_193 : decode b_Md_round 193 = .ok (.lstore 9, 2) := by decide +kernel
theorem d_Md_round_195 : decode b_Md_round 195 = .ok (.iinc 11 1, 3) := by decide +kernel
theorem d_Md_round_198 : decode b_Md_round 198 = .ok (.lload 9, 2) := by decide +kernel
theorem d_Md_round_200 : decode b_Md_round 200 = .ok (.lconst 0, 1) := by decide +kernel
theorem d_Md_round_201 : decode b_Md_round 201 = .ok (.lcmp, 1) := by decide +kernel
theorem d_Md_round_202 : decode b_Md_round 202 = .ok (.ifCond .ne 10, 3) := by decide +kernel
theorem d_Md_round_205 : decode b_Md_round 205 = .ok (.iload_n 0, 1) := by decide +kernel
theorem d_Md_round_206 : decode b_Md_round 206 = .ok (.iload 5, 2) := by decide +kernel
theorem d_Md_round_208 : decode b_Md_round 208 = .ok (.invokestatic 32, 3) := by decide +kernel
theorem d_Md_round_211 : decode b_Md_round 211 = .ok (.lreturn, 1) := by decide +kernel
theorem d_Md_round_212 : decode b_Md_round 212 = .ok (.iload 6, 2) := by decide +kernel
theorem d_Md_round_214 : decode b_Md_round 214 = .ok (.iconst 1, 1) := by decide +kernel
theorem d_Md_round_215 : decode b_Md_round 215 = .ok (.isub, 1) := by decide +kernel
theorem d_Md_round_216 : decode b_Md_round 216 = .ok (.istore 12, 2) := by decide +kernel
theorem d_Md_round_218 : decode b_Md_round 218 = .ok (.lload 9, 2) := by decide +kernel
theorem d_Md_round_220 : decode b_Md_round 220 = .ok (.invokestatic 76, 3) := by decide +kernel
theorem d_Md_round_223 : decode b_Md_round 223 = .ok (.iload 6, 2) := by decide +kernel
theorem d_Md_round_225 : decode b_Md_round 225 = .ok (.if_icmp .ge 13, 3) := by decide +kernel
theorem d_Md_round_228 : decode b_Md_round 228 = .ok (.lload 9, 2) := by decide +kernel
theorem d_Md_round_230 : decode b_Md_round 230 = .ok (.iload_n 0, 1) := by decide +kernel
theorem d_Md_round_231 : decode b_Md_round 231 = .ok (.iload 5, 2) := by decide +kernel
theorem d_Md_round_233 : decode b_Md_round 233 = .ok (.invokestatic 32, 3) := by decide +kernel
theorem d_Md_round_236 : decode b_Md_round 236 = .ok (.lor, 1) := by decide +kernel
theorem d_Md_round_237 : decode b_Md_round 237 = .ok (.lreturn, 1) := by decide +kernel
theorem d_Md_round_238 : decode b_Md_round 238 = .ok (.iload 11, 2) := by decide +kernel
theorem d_Md_round_240 : decode b_Md_round 240 = .ok (.iload 5, 2) := by decide +kernel
theorem d_Md_round_242 : decode b_Md_round 242 = .ok (.ifCond .eq 9, 3) := by decide +kernel
theorem d_Md_round_245 : decode b_Md_round 245 = .ok (.sipush 150, 3) := by decide +kernel
theorem d_Md_round_248 : decode b_Md_round 248 = .ok (.goto 6, 3) := by decide +kernel
theorem d_Md_round_251 : decode b_Md_round 251 = .ok (.sipush 1075, 3) := by decide +kernel
theorem d_Md_round_254 : decode b_Md_round 254 = .ok (.iadd, 1) := by decide +kernel
theorem d_Md_round_255 : decode b_Md_round 255 = .ok (.istore 13, 2) := by decide +kernel
theorem d_Md_round_257 : decode b_Md_round 257 = .ok (.iload 13, 2) := by decide +kernel
theorem d_Md_round_259 : decode b_Md_round 259 = .ok (.iload 5, 2) := by decide +kernel
theorem d_Md_round_261 : decode b_Md_round 261 = .ok (.ifCond .eq 9, 3) := by decide +kernel
theorem d_Md_round_264 : decode b_Md_round 264 = .ok (.sipush 255, 3) := by decide +kernel
theorem d_Md_round_267 : decode b_Md_round 267 = .ok (.goto 6, 3) := by decide +kernel
theorem d_Md_round_270 : decode b_Md_round 270 = .ok (.sipush 2047, 3) := by decide +kernel
theorem d_Md_round_273 : decode b_Md_round 273 = .ok (.if_icmp .lt 10, 3) := by decide +kernel
theorem d_Md_round_276 : decode b_Md_round 276 = .ok (.iload_n 0, 1) := by decide +kernel
theorem d_Md_round_277 : decode b_Md_round 277 = .ok (.iload 5, 2) := by decide +kernel
theorem d_Md_round_279 : decode b_Md_round 279 = .ok (.invokestatic 86, 3) := by decide +kernel
theorem d_Md_round_282 : decode b_Md_round 282 = .ok (.lreturn, 1) := by decide +kernel
theorem d_Md_round_283 : decode b_Md_round 283 = .ok (.lload 9, 2) := by decide +kernel
theorem d_Md_round_285 : decode b_Md_round 285 = .ok (.lconst 1, 1) := by decide +kernel
theorem d_Md_round_286 : decode b_Md_round 286 = .ok (.iload 12, 2) := by decide +kernel
theorem d_Md_round_288 : decode b_Md_round 288 = .ok (.lshl, 1) := by decide +kernel
theorem d_Md_round_289 : decode b_Md_round 289 = .ok (.lconst 1, 1) := by decide +kernel
theorem d_Md_round_290 : decode b_Md_round 290 = .ok (.lsub, 1) := by decide +kernel
theorem d_Md_round_291 : decode b_Md_round 291 = .ok (.land, 1) := by decide +kernel
theorem d_Md_round_292 : decode b_Md_round 292 = .ok (.iload 13, 2) := by decide +kernel
theorem d_Md_round_294 : decode b_Md_round 294 = .ok (.i2l, 1) := by decide +kernel
theorem d_Md_round_295 : decode b_Md_round 295 = .ok (.iload 12, 2) := by decide +kernel
theorem d_Md_round_297 : decode b_Md_round 297 = .ok (.lshl, 1) := by decide +kernel
theorem d_Md_round_298 : decode b_Md_round 298 = .ok (.lor, 1) := by decide +kernel
theorem d_Md_round_299 : decode b_Md_round 299 = .ok (.iload_n 0, 1) := by decide +kernel
theorem d_Md_round_300 : decode b_Md_round 300 = .ok (.iload 5, 2) := by decide +kernel
theorem d_Md_round_302 : decode b_Md_round 302 = .ok (.invokestatic 32, 3) := by decide +kernel
theorem d_Md_round_305 : decode b_Md_round 305 = .ok (.lor, 1) := by decide +kernel
theorem d_Md_round_306 : decode b_Md_round 306 = .ok (.lreturn, 1) := by decide +kernel
def F_Md_round (n : Nat) (a0 : Int32) (a1 : Int64) (a2 : Int32) (a3 : Int32) (a4 : Int32) : Option (Int64) := lt_ (if a4 = 0 then (53 : Int32) else (24 : Int32)) fun x1 => lt_ (if a4 = 0 then (-1074 : Int32) else (-149 : Int32)) fun x2 => (F_Md_length n a1).bind fun x3 => lt_ (if (x3 - x1) < (x2 - a2) then x2 - a2 else x3 - x1) fun x4 => lt_ (fun (y5 : Int64) => lt_ (a2 + x4) fun x6 => (F_Md_length n y5).bind fun x7 => lt_ (fun (y8 : Int64) (y9 : Int32) => if ¬ y8 = (0 : Int64) then (lt_ (x1 - (1 : Int32)) fun x10 => (F_Md_length n y8).bind fun x11 => if x1 ≤ x11 then (lt_ (if a4 = 0 then (1075 : Int32) else (150 : Int32)) fun x12 => lt_ (y9 + x12) fun x13 => lt_ (if a4 = 0 then (2047 : Int32) else (255 : Int32)) fun x14 => if x13 < x14 then (some (((y8 &&& (((1 : Int64) <<< ((x10).toInt64 &&& 63)) - (1 : Int64))) ||| (((x13).toInt64) <<< ((x10).toInt64 &&& 63))) ||| (F_Md_sign a0 a4))) else (some (F_Md_far a0 a4))) else (some (y8 ||| (F_Md_sign a0 a4)))) else (some (F_Md_sign a0 a4))) fun j198 => if x7 ≤ x1 then (j198 y5 x6) else (lt_ (((y5).toUInt64 >>> (((1 : Int32)).toInt64.toUInt64 &&& Int64.toUInt64 63)).toInt64) fun x15 => lt_ (x6 + Int32.ofInt 1) fun x16 => j198 x15 x16)) fun j173 => if 0 < x4 then (if x4 ≤ (64 : Int32) then (lt_ (if ¬ x4 = (64 : Int32) then ((a1).toUInt64 >>> ((x4 - (1 : Int32)).toInt64.toUInt64 &&& Int64.toUInt64 63)).toInt64 else (0 : Int64)) fun x17 => lt_ (if ¬ x4 = (64 : Int32) then a1 &&& (((1 : Int64) <<< ((x4 - (1 : Int32)).toInt64 &&& 63)) - (1 : Int64)) else a1) fun x18 => lt_ (if ¬ x18 = (0 : Int64) then (1 : Int32) else if a3 = 0 then (0 : Int32) else (1 : Int32)) fun x19 => lt_ (((x17).toUInt64 >>> (((1 : Int32)).toInt64.toUInt64 &&& Int64.toUInt64 63)).toInt64) fun x20 => if ¬ (x17 &&& (1 : Int64)) = (1 : Int64) then (j173 x20) else (lt_ (fun (_ : Unit) => lt_ (x20 + (1 : Int64)) fun x21 => j173 x21) fun j167 => if ¬ x19 = 0 then (j167 ()) else (if ¬ (x20 &&& (1 : Int64)) = (1 : Int64) then (j173 x20) else (j167 ())))) else (j173 (0 : Int64))) else (lt_ (a1 <<< ((-x4).toInt64 &&& 63)) fun x22 => j173 x22)
set_option maxHeartbeats 4000000 in
set_option maxRecDepth 100000 in
theorem c_Md_round (l : Launch) (n : Nat) (a0 : Int32) (a1 : Int64) (a2 : Int32) (a3 : Int32) (a4 : Int32) (r : Int64) (h : F_Md_round n a0 a1 a2 a3 a4 = some r) : Met l y_Md_round (.code y_Md_round b_Md_round 16 (some .long) :: BIG) ({ frames := 2, cells := 0, slots := 0, locals := 42 } : Room) (va_Pc [.int a0, .long a1, .int a2, .int a3, .int a4] (pre0)) (pQ (.long r)) 0 0 (fun _ => False) := by
  refine pOpen_l rfl (Nat.le_of_ble_eq_true rfl) ?_
  intro p e s m args below meth c Q ls hx hb hml hown hts hT hp hl hret
  have hNB := hp
  have hown : s.vm.findClass R_Md = some m.cls := hown
  have hl : lv_has ls 16 [(0, .int a0), (1, .long a1), (3, .int a2), (4, .int a3), (5, .int a4)] := hl
  have h : (lt_ (if a4 = 0 then (53 : Int32) else (24 : Int32)) fun x1 => lt_ (if a4 = 0 then (-1074 : Int32) else (-149 : Int32)) fun x2 => (F_Md_length n a1).bind fun x3 => lt_ (if (x3 - x1) < (x2 - a2) then x2 - a2 else x3 - x1) fun x4 => lt_ (fun (y5 : Int64) => lt_ (a2 + x4) fun x6 => (F_Md_length n y5).bind fun x7 => lt_ (fun (y8 : Int64) (y9 : Int32) => if ¬ y8 = (0 : Int64) then (lt_ (x1 - (1 : Int32)) fun x10 => (F_Md_length n y8).bind fun x11 => if x1 ≤ x11 then (lt_ (if a4 = 0 then (1075 : Int32) else (150 : Int32)) fun x12 => lt_ (y9 + x12) fun x13 => lt_ (if a4 = 0 then (2047 : Int32) else (255 : Int32)) fun x14 => if x13 < x14 then (some (((y8 &&& (((1 : Int64) <<< ((x10).toInt64 &&& 63)) - (1 : Int64))) ||| (((x13).toInt64) <<< ((x10).toInt64 &&& 63))) ||| (F_Md_sign a0 a4))) else (some (F_Md_far a0 a4))) else (some (y8 ||| (F_Md_sign a0 a4)))) else (some (F_Md_sign a0 a4))) fun j198 => if x7 ≤ x1 then (j198 y5 x6) else (lt_ (((y5).toUInt64 >>> (((1 : Int32)).toInt64.toUInt64 &&& Int64.toUInt64 63)).toInt64) fun x15 => lt_ (x6 + Int32.ofInt 1) fun x16 => j198 x15 x16)) fun j173 => if 0 < x4 then (if x4 ≤ (64 : Int32) then (lt_ (if ¬ x4 = (64 : Int32) then ((a1).toUInt64 >>> ((x4 - (1 : Int32)).toInt64.toUInt64 &&& Int64.toUInt64 63)).toInt64 else (0 : Int64)) fun x17 => lt_ (if ¬ x4 = (64 : Int32) then a1 &&& (((1 : Int64) <<< ((x4 - (1 : Int32)).toInt64 &&& 63)) - (1 : Int64)) else a1) fun x18 => lt_ (if ¬ x18 = (0 : Int64) then (1 : Int32) else if a3 = 0 then (0 : Int32) else (1 : Int32)) fun x19 => lt_ (((x17).toUInt64 >>> (((1 : Int32)).toInt64.toUInt64 &&& Int64.toUInt64 63)).toInt64) fun x20 => if ¬ (x17 &&& (1 : Int64)) = (1 : Int64) then (j173 x20) else (lt_ (fun (_ : Unit) => lt_ (x20 + (1 : Int64)) fun x21 => j173 x21) fun j167 => if ¬ x19 = 0 then (j167 ()) else (if ¬ (x20 &&& (1 : Int64)) = (1 : Int64) then (j173 x20) else (j167 ())))) else (j173 (0 : Int64))) else (lt_ (a1 <<< ((-x4).toInt64 &&& 63)) fun x22 => j173 x22)) = some r := h
  refine lv_iload hx hb d_Md_round_0 (lv_at hl 4 rfl) ?_
  obtain ⟨x1, e_x1, h⟩ := lt_o h
  have hJ12 : ∀ (x1' : Int32) (ls : Array Slot), x1 = x1' → lv_has ls 16 [(0, .int a0), (1, .long a1), (3, .int a2), (4, .int a3), (5, .int a4)] → W p l e ({ frames := 2, cells := 0, slots := 0, locals := 42 } : Room) s m args below meth c s.heap [] 0 0 Q (F0 m 12 ls [.int x1']) := by
    intro x1' ls q_x1 hl
    subst q_x1
    refine lv_istore hx hb d_Md_round_12 hl (by decide) rfl (fun ls hl => ?_)
    have hl : lv_has ls 16 [(6, .int x1), (0, .int a0), (1, .long a1), (3, .int a2), (4, .int a3), (5, .int a4)] := hl
    refine lv_iload hx hb d_Md_round_14 (lv_at hl 5 rfl) ?_
    obtain ⟨x2, e_x2, h⟩ := lt_o h
    have hJ28 : ∀ (x2' : Int32) (ls : Array Slot), x2 = x2' → lv_has ls 16 [(0, .int a0), (1, .long a1), (3, .int a2), (4, .int a3), (5, .int a4), (6, .int x1)] → W p l e ({ frames := 2, cells := 0, slots := 0, locals := 42 } : Room) s m args below meth c s.heap [] 0 0 Q (F0 m 28 ls [.int x2']) := by
      intro x2' ls q_x2 hl
      subst q_x2
      refine lv_istore hx hb d_Md_round_28 hl (by decide) rfl (fun ls hl => ?_)
      have hl : lv_has ls 16 [(7, .int x2), (0, .int a0), (1, .long a1), (3, .int a2), (4, .int a3), (5, .int a4), (6, .int x1)] := hl
      refine lv_lload_n hx hb d_Md_round_30 rfl (lv_at hl 2 rfl) ?_
      obtain ⟨x3, e_x3, h⟩ := bd_o h
      refine q_S (As := [.long a1]) (rest := []) (n := 1) hx hb hml hown hts (c_Md_length l n a1 _ e_x3) rfl rfl m_131 m_132 m_133 m_130 (by decide +kernel) ⟨Nat.le_of_ble_eq_true rfl, Nat.le_of_ble_eq_true rfl⟩ (p0_bl) (fun U hU hW => p0_mv hU hW hNB) rfl hl.1 rfl (Nat.le_of_ble_eq_true rfl) d_Md_round_31 ⟨Nat.zero_le _, Nat.zero_le _⟩ ?_
      refine lv_iload hx hb d_Md_round_34 (lv_at hl 6 rfl) ?_
      refine lv_isub hx hb d_Md_round_36 ?_
      refine lv_iload hx hb d_Md_round_37 (lv_at hl 0 rfl) ?_
      refine lv_iload_n hx hb d_Md_round_39 rfl (lv_at hl 3 rfl) ?_
      refine lv_isub hx hb d_Md_round_40 ?_
      refine va_mmax hx hb (hml.trans hl.1.symm) hown (hT _ m_134) (hT _ m_27) (hT _ m_28) (hT _ m_29) (Nat.le_of_ble_eq_true rfl) (Nat.le_of_ble_eq_true rfl) (Nat.zero_le _) (Nat.zero_le _) d_Md_round_41 ?_
      refine lv_topi (fun x4 e_x4 => ?_)
      have h := lt_h e_x4 h
      refine lv_istore hx hb d_Md_round_44 hl (by decide) rfl (fun ls hl => ?_)
      have hl : lv_has ls 16 [(8, .int x4), (7, .int x2), (0, .int a0), (1, .long a1), (3, .int a2), (4, .int a3), (5, .int a4), (6, .int x1)] := hl
      refine lv_lload_n hx hb d_Md_round_46 rfl (lv_at hl 3 rfl) ?_
      refine lv_lstore hx hb d_Md_round_47 hl (by decide) rfl (fun ls hl => ?_)
      have hl : lv_has ls 16 [(9, .long a1), (8, .int x4), (7, .int x2), (0, .int a0), (1, .long a1), (3, .int a2), (4, .int a3), (5, .int a4), (6, .int x1)] := hl
      refine lv_iload hx hb d_Md_round_49 (lv_at hl 1 rfl) ?_
      obtain ⟨j173, e_j173, h⟩ := lt_o h
      have hJ173 : ∀ (y5 : Int64) (ls : Array Slot), lv_has ls 16 [(0, .int a0), (3, .int a2), (5, .int a4), (6, .int x1), (8, .int x4), (9, .long y5)] → j173 y5 = some r → W p l e ({ frames := 2, cells := 0, slots := 0, locals := 42 } : Room) s m args below meth c s.heap [] 0 0 Q (F0 m 173 ls []) := by
        intro y5 ls hl h
        rw [e_j173] at h
        refine lv_iload_n hx hb d_Md_round_173 rfl (lv_at hl 1 rfl) ?_
        refine lv_iload hx hb d_Md_round_174 (lv_at hl 4 rfl) ?_
        refine lv_iadd hx hb d_Md_round_176 ?_
        refine lv_topi (fun x6 e_x6 => ?_)
        have h := lt_h e_x6 h
        refine lv_istore hx hb d_Md_round_177 hl (by decide) rfl (fun ls hl => ?_)
        have hl : lv_has ls 16 [(11, .int x6), (0, .int a0), (3, .int a2), (5, .int a4), (6, .int x1), (8, .int x4), (9, .long y5)] := hl
        refine lv_lload hx hb d_Md_round_179 (lv_at hl 6 rfl) ?_
        obtain ⟨x7, e_x7, h⟩ := bd_o h
        refine q_S (As := [.long y5]) (rest := []) (n := 1) hx hb hml hown hts (c_Md_length l n y5 _ e_x7) rfl rfl m_131 m_132 m_133 m_130 (by decide +kernel) ⟨Nat.le_of_ble_eq_true rfl, Nat.le_of_ble_eq_true rfl⟩ (p0_bl) (fun U hU hW => p0_mv hU hW hNB) rfl hl.1 rfl (Nat.le_of_ble_eq_true rfl) d_Md_round_181 ⟨Nat.zero_le _, Nat.zero_le _⟩ ?_
        refine lv_iload hx hb d_Md_round_184 (lv_at hl 4 rfl) ?_
        obtain ⟨j198, e_j198, h⟩ := lt_o h
        have hJ198 : ∀ (y8 : Int64) (y9 : Int32) (ls : Array Slot), lv_has ls 16 [(0, .int a0), (5, .int a4), (6, .int x1), (9, .long y8), (11, .int y9)] → j198 y8 y9 = some r → W p l e ({ frames := 2, cells := 0, slots := 0, locals := 42 } : Room) s m args below meth c s.heap [] 0 0 Q (F0 m 198 ls []) := by
          intro y8 y9 ls hl h
          rw [e_j198] at h
          refine lv_lload hx hb d_Md_round_198 (lv_at hl 3 rfl) ?_
          refine lv_lconst hx hb d_Md_round_200 lc_0 ?_
          refine W.lcmp hx hb d_Md_round_201 ?_
          refine lv_if_ne (tgt := 212) hx hb d_Md_round_202 rfl (fun hc => ?_) (fun hc => ?_)
          · have hc := mt (lg_cmp_eq _ _).mpr hc
            have h := ite_t hc h
            refine lv_iload hx hb d_Md_round_212 (lv_at hl 2 rfl) ?_
            refine lv_iconst hx hb d_Md_round_214 ic_1 ?_
            refine lv_isub hx hb d_Md_round_215 ?_
            refine lv_topi (fun x10 e_x10 => ?_)
            have h := lt_h e_x10 h
            refine lv_istore hx hb d_Md_round_216 hl (by decide) rfl (fun ls hl => ?_)
            have hl : lv_has ls 16 [(12, .int x10), (0, .int a0), (5, .int a4), (6, .int x1), (9, .long y8), (11, .int y9)] := hl
            refine lv_lload hx hb d_Md_round_218 (lv_at hl 4 rfl) ?_
            obtain ⟨x11, e_x11, h⟩ := bd_o h
            refine q_S (As := [.long y8]) (rest := []) (n := 1) hx hb hml hown hts (c_Md_length l n y8 _ e_x11) rfl rfl m_131 m_132 m_133 m_130 (by decide +kernel) ⟨Nat.le_of_ble_eq_true rfl, Nat.le_of_ble_eq_true rfl⟩ (p0_bl) (fun U hU hW => p0_mv hU hW hNB) rfl hl.1 rfl (Nat.le_of_ble_eq_true rfl) d_Md_round_220 ⟨Nat.zero_le _, Nat.zero_le _⟩ ?_
            refine lv_iload hx hb d_Md_round_223 (lv_at hl 3 rfl) ?_
            refine lv_icmp_ge (tgt := 238) hx hb d_Md_round_225 rfl (fun hc => ?_) (fun hc => ?_)
            · have h := ite_t hc h
              refine lv_iload hx hb d_Md_round_238 (lv_at hl 5 rfl) ?_
              refine lv_iload hx hb d_Md_round_240 (lv_at hl 2 rfl) ?_
              obtain ⟨x12, e_x12, h⟩ := lt_o h
              have hJ254 : ∀ (x12' : Int32) (ls : Array Slot), x12 = x12' → lv_has ls 16 [(0, .int a0), (5, .int a4), (9, .long y8), (12, .int x10)] → W p l e ({ frames := 2, cells := 0, slots := 0, locals := 42 } : Room) s m args below meth c s.heap [] 0 0 Q (F0 m 254 ls [.int x12', .int y9]) := by
                intro x12' ls q_x12 hl
                subst q_x12
                refine lv_iadd hx hb d_Md_round_254 ?_
                refine lv_topi (fun x13 e_x13 => ?_)
                have h := lt_h e_x13 h
                refine lv_istore hx hb d_Md_round_255 hl (by decide) rfl (fun ls hl => ?_)
                have hl : lv_has ls 16 [(13, .int x13), (0, .int a0), (5, .int a4), (9, .long y8), (12, .int x10)] := hl
                refine lv_iload hx hb d_Md_round_257 (lv_at hl 0 rfl) ?_
                refine lv_iload hx hb d_Md_round_259 (lv_at hl 2 rfl) ?_
                obtain ⟨x14, e_x14, h⟩ := lt_o h
                have hJ273 : ∀ (x14' : Int32) (ls : Array Slot), x14 = x14' → lv_has ls 16 [(0, .int a0), (5, .int a4), (9, .long y8), (12, .int x10), (13, .int x13)] → W p l e ({ frames := 2, cells := 0, slots := 0, locals := 42 } : Room) s m args below meth c s.heap [] 0 0 Q (F0 m 273 ls [.int x14', .int x13]) := by
                  intro x14' ls q_x14 hl
                  subst q_x14
                  refine lv_icmp_lt (tgt := 283) hx hb d_Md_round_273 rfl (fun hc => ?_) (fun hc => ?_)
                  · have h := ite_t hc h
                    refine lv_lload hx hb d_Md_round_283 (lv_at hl 2 rfl) ?_
                    refine lv_lconst hx hb d_Md_round_285 lc_1 ?_
                    refine lv_iload hx hb d_Md_round_286 (lv_at hl 3 rfl) ?_
                    refine lv_lshl hx hb d_Md_round_288 rfl ?_
                    refine lv_lconst hx hb d_Md_round_289 lc_1 ?_
                    refine lv_lsub hx hb d_Md_round_290 ?_
                    refine lv_land hx hb d_Md_round_291 ?_
                    refine lv_iload hx hb d_Md_round_292 (lv_at hl 4 rfl) ?_
                    refine lv_i2l hx hb d_Md_round_294 rfl ?_
                    refine lv_iload hx hb d_Md_round_295 (lv_at hl 3 rfl) ?_
                    refine lv_lshl hx hb d_Md_round_297 rfl ?_
                    refine lv_lor hx hb d_Md_round_298 ?_
                    refine lv_iload_n hx hb d_Md_round_299 rfl (lv_at hl 0 rfl) ?_
                    refine lv_iload hx hb d_Md_round_300 (lv_at hl 1 rfl) ?_
                    refine q_S (As := [.int a0, .int a4]) (rest := [.long ((y8 &&& (((1 : Int64) <<< ((x10).toInt64 &&& 63)) - (1 : Int64))) ||| (((x13).toInt64) <<< ((x10).toInt64 &&& 63)))]) (n := 2) hx hb hml hown hts (c_Md_sign l a0 a4) rfl rfl m_127 m_128 m_129 m_130 (by decide +kernel) ⟨Nat.le_of_ble_eq_true rfl, Nat.le_of_ble_eq_true rfl⟩ (p0_bl) (fun U hU hW => p0_mv hU hW hNB) rfl hl.1 rfl (Nat.le_of_ble_eq_true rfl) d_Md_round_302 ⟨Nat.zero_le _, Nat.zero_le _⟩ ?_
                    refine lv_lor hx hb d_Md_round_305 ?_
                    exact hret 306 ls _ (Option.some.inj h) d_Md_round_306
                  · have h := ite_f hc h
                    refine lv_iload_n hx hb d_Md_round_276 rfl (lv_at hl 0 rfl) ?_
                    refine lv_iload hx hb d_Md_round_277 (lv_at hl 1 rfl) ?_
                    refine q_S (As := [.int a0, .int a4]) (rest := []) (n := 2) hx hb hml hown hts (c_Md_far l a0 a4) rfl rfl m_135 m_136 m_137 m_130 (by decide +kernel) ⟨Nat.le_of_ble_eq_true rfl, Nat.le_of_ble_eq_true rfl⟩ (p0_bl) (fun U hU hW => p0_mv hU hW hNB) rfl hl.1 rfl (Nat.le_of_ble_eq_true rfl) d_Md_round_279 ⟨Nat.zero_le _, Nat.zero_le _⟩ ?_
                    exact hret 282 ls _ (Option.some.inj h) d_Md_round_282
                refine lv_if_eq (tgt := 270) hx hb d_Md_round_261 rfl (fun hc => ?_) (fun hc => ?_)
                · have e_x14 := e_x14.trans (if_pos hc)
                  refine lv_sipush hx hb d_Md_round_270 sp_2047 ?_
                  exact hJ273 _ ls e_x14 (lv_sub hl [1, 2, 3, 4, 0] rfl)
                · have e_x14 := e_x14.trans (if_neg hc)
                  refine lv_sipush hx hb d_Md_round_264 sp_255 ?_
                  refine lv_goto (tgt := 273) hx hb d_Md_round_267 rfl ?_
                  exact hJ273 _ ls e_x14 (lv_sub hl [1, 2, 3, 4, 0] rfl)
              refine lv_if_eq (tgt := 251) hx hb d_Md_round_242 rfl (fun hc => ?_) (fun hc => ?_)
              · have e_x12 := e_x12.trans (if_pos hc)
                refine lv_sipush hx hb d_Md_round_251 sp_1075 ?_
                exact hJ254 _ ls e_x12 (lv_sub hl [1, 2, 4, 0] rfl)
              · have e_x12 := e_x12.trans (if_neg hc)
                refine lv_sipush hx hb d_Md_round_245 sp_150 ?_
                refine lv_goto (tgt := 254) hx hb d_Md_round_248 rfl ?_
                exact hJ254 _ ls e_x12 (lv_sub hl [1, 2, 4, 0] rfl)
            · have h := ite_f hc h
              refine lv_lload hx hb d_Md_round_228 (lv_at hl 4 rfl) ?_
              refine lv_iload_n hx hb d_Md_round_230 rfl (lv_at hl 1 rfl) ?_
              refine lv_iload hx hb d_Md_round_231 (lv_at hl 2 rfl) ?_
              refine q_S (As := [.int a0, .int a4]) (rest := [.long y8]) (n := 2) hx hb hml hown hts (c_Md_sign l a0 a4) rfl rfl m_127 m_128 m_129 m_130 (by decide +kernel) ⟨Nat.le_of_ble_eq_true rfl, Nat.le_of_ble_eq_true rfl⟩ (p0_bl) (fun U hU hW => p0_mv hU hW hNB) rfl hl.1 rfl (Nat.le_of_ble_eq_true rfl) d_Md_round_233 ⟨Nat.zero_le _, Nat.zero_le _⟩ ?_
              refine lv_lor hx hb d_Md_round_236 ?_
              exact hret 237 ls _ (Option.some.inj h) d_Md_round_237
          · have hc := not_not_intro ((lg_cmp_eq _ _).mp hc)
            have h := ite_f hc h
            refine lv_iload_n hx hb d_Md_round_205 rfl (lv_at hl 0 rfl) ?_
            refine lv_iload hx hb d_Md_round_206 (lv_at hl 1 rfl) ?_
            refine q_S (As := [.int a0, .int a4]) (rest := []) (n := 2) hx hb hml hown hts (c_Md_sign l a0 a4) rfl rfl m_127 m_128 m_129 m_130 (by decide +kernel) ⟨Nat.le_of_ble_eq_true rfl, Nat.le_of_ble_eq_true rfl⟩ (p0_bl) (fun U hU hW => p0_mv hU hW hNB) rfl hl.1 rfl (Nat.le_of_ble_eq_true rfl) d_Md_round_208 ⟨Nat.zero_le _, Nat.zero_le _⟩ ?_
            exact hret 211 ls _ (Option.some.inj h) d_Md_round_211
        refine lv_icmp_le (tgt := 198) hx hb d_Md_round_186 rfl (fun hc => ?_) (fun hc => ?_)
        · have h := ite_t hc h
          exact hJ198 _ _ ls (lv_sub hl [1, 3, 4, 6, 0] rfl) h
        · have h := ite_f hc h
          refine lv_lload hx hb d_Md_round_189 (lv_at hl 6 rfl) ?_
          refine lv_iconst hx hb d_Md_round_191 ic_1 ?_
          refine lv_lushr hx hb d_Md_round_192 rfl ?_
          refine lv_topl (fun x15 e_x15 => ?_)
          have h := lt_h e_x15 h
          refine lv_lstore hx hb d_Md_round_193 hl (by decide) rfl (fun ls hl => ?_)
          have hl : lv_has ls 16 [(9, .long x15), (11, .int x6), (0, .int a0), (3, .int a2), (5, .int a4), (6, .int x1), (8, .int x4)] := hl
          obtain ⟨x16, e_x16⟩ : ∃ z, z = x6 + Int32.ofInt 1 := ⟨_, rfl⟩
          have h := lt_h e_x16 h
          refine lv_iinc (k := 1) hx hb d_Md_round_195 hl rfl e_x16.symm (by decide) rfl (fun ls hl => ?_)
          have hl : lv_has ls 16 [(11, .int x16), (9, .long x15), (0, .int a0), (3, .int a2), (5, .int a4), (6, .int x1), (8, .int x4)] := hl
          exact hJ198 _ _ ls (lv_sub hl [2, 4, 5, 1, 0] rfl) h
      refine lv_if_gt (tgt := 64) hx hb d_Md_round_51 rfl (fun hc => ?_) (fun hc => ?_)
      · have h := ite_t hc h
        refine lv_iload hx hb d_Md_round_64 (lv_at hl 1 rfl) ?_
        refine lv_bipush hx hb d_Md_round_66 bp_64 ?_
        refine lv_icmp_le (tgt := 77) hx hb d_Md_round_68 rfl (fun hc => ?_) (fun hc => ?_)
        · have h := ite_t hc h
          refine lv_iload hx hb d_Md_round_77 (lv_at hl 1 rfl) ?_
          refine lv_bipush hx hb d_Md_round_79 bp_64 ?_
          obtain ⟨x17, e_x17, h⟩ := lt_o h
          have hJ94 : ∀ (x17' : Int64) (ls : Array Slot), x17 = x17' → lv_has ls 16 [(0, .int a0), (1, .long a1), (3, .int a2), (4, .int a3), (5, .int a4), (6, .int x1), (8, .int x4)] → W p l e ({ frames := 2, cells := 0, slots := 0, locals := 42 } : Room) s m args below meth c s.heap [] 0 0 Q (F0 m 94 ls [.long x17']) := by
            intro x17' ls q_x17 hl
            subst q_x17
            refine lv_lstore hx hb d_Md_round_94 hl (by decide) rfl (fun ls hl => ?_)
            have hl : lv_has ls 16 [(11, .long x17), (0, .int a0), (1, .long a1), (3, .int a2), (4, .int a3), (5, .int a4), (6, .int x1), (8, .int x4)] := hl
            refine lv_iload hx hb d_Md_round_96 (lv_at hl 7 rfl) ?_
            refine lv_bipush hx hb d_Md_round_98 bp_64 ?_
            obtain ⟨x18, e_x18, h⟩ := lt_o h
            have hJ117 : ∀ (x18' : Int64) (ls : Array Slot), x18 = x18' → lv_has ls 16 [(0, .int a0), (3, .int a2), (4, .int a3), (5, .int a4), (6, .int x1), (8, .int x4), (11, .long x17)] → W p l e ({ frames := 2, cells := 0, slots := 0, locals := 42 } : Room) s m args below meth c s.heap [] 0 0 Q (F0 m 117 ls [.long x18']) := by
              intro x18' ls q_x18 hl
              subst q_x18
              refine lv_lstore hx hb d_Md_round_117 hl (by decide) rfl (fun ls hl => ?_)
              have hl : lv_has ls 16 [(13, .long x18), (0, .int a0), (3, .int a2), (4, .int a3), (5, .int a4), (6, .int x1), (8, .int x4), (11, .long x17)] := hl
              refine lv_lload hx hb d_Md_round_119 (lv_at hl 0 rfl) ?_
              refine lv_lconst hx hb d_Md_round_121 lc_0 ?_
              refine W.lcmp hx hb d_Md_round_122 ?_
              obtain ⟨x19, e_x19, h⟩ := lt_o h
              have hJ136 : ∀ (x19' : Int32) (ls : Array Slot), x19 = x19' → lv_has ls 16 [(0, .int a0), (3, .int a2), (5, .int a4), (6, .int x1), (8, .int x4), (11, .long x17)] → W p l e ({ frames := 2, cells := 0, slots := 0, locals := 42 } : Room) s m args below meth c s.heap [] 0 0 Q (F0 m 136 ls [.int x19']) := by
                intro x19' ls q_x19 hl
                subst q_x19
                refine lv_istore hx hb d_Md_round_136 hl (by decide) rfl (fun ls hl => ?_)
                have hl : lv_has ls 16 [(15, .int x19), (0, .int a0), (3, .int a2), (5, .int a4), (6, .int x1), (8, .int x4), (11, .long x17)] := hl
                refine lv_lload hx hb d_Md_round_138 (lv_at hl 6 rfl) ?_
                refine lv_iconst hx hb d_Md_round_140 ic_1 ?_
                refine lv_lushr hx hb d_Md_round_141 rfl ?_
                refine lv_topl (fun x20 e_x20 => ?_)
                have h := lt_h e_x20 h
                refine lv_lstore hx hb d_Md_round_142 hl (by decide) rfl (fun ls hl => ?_)
                have hl : lv_has ls 16 [(9, .long x20), (15, .int x19), (0, .int a0), (3, .int a2), (5, .int a4), (6, .int x1), (8, .int x4), (11, .long x17)] := hl
                refine lv_lload hx hb d_Md_round_144 (lv_at hl 7 rfl) ?_
                refine lv_lconst hx hb d_Md_round_146 lc_1 ?_
                refine lv_land hx hb d_Md_round_147 ?_
                refine lv_lconst hx hb d_Md_round_148 lc_1 ?_
                refine W.lcmp hx hb d_Md_round_149 ?_
                refine lv_if_ne (tgt := 173) hx hb d_Md_round_150 rfl (fun hc => ?_) (fun hc => ?_)
                · have hc := mt (lg_cmp_eq _ _).mpr hc
                  have h := ite_t hc h
                  exact hJ173 _ ls (lv_sub hl [2, 3, 4, 5, 6, 0] rfl) h
                · have hc := not_not_intro ((lg_cmp_eq _ _).mp hc)
                  have h := ite_f hc h
                  refine lv_iload hx hb d_Md_round_153 (lv_at hl 1 rfl) ?_
                  obtain ⟨j167, e_j167, h⟩ := lt_o h
                  have hJ167 : ∀ (ls : Array Slot), lv_has ls 16 [(0, .int a0), (3, .int a2), (5, .int a4), (6, .int x1), (8, .int x4), (9, .long x20)] → j167 () = some r → W p l e ({ frames := 2, cells := 0, slots := 0, locals := 42 } : Room) s m args below meth c s.heap [] 0 0 Q (F0 m 167 ls []) := by
                    intro  ls hl h
                    rw [e_j167] at h
                    refine lv_lload hx hb d_Md_round_167 (lv_at hl 5 rfl) ?_
                    refine lv_lconst hx hb d_Md_round_169 lc_1 ?_
                    refine lv_ladd hx hb d_Md_round_170 ?_
                    refine lv_topl (fun x21 e_x21 => ?_)
                    have h := lt_h e_x21 h
                    refine lv_lstore hx hb d_Md_round_171 hl (by decide) rfl (fun ls hl => ?_)
                    have hl : lv_has ls 16 [(9, .long x21), (0, .int a0), (3, .int a2), (5, .int a4), (6, .int x1), (8, .int x4)] := hl
                    exact hJ173 _ ls (lv_sub hl [1, 2, 3, 4, 5, 0] rfl) h
                  refine lv_if_ne (tgt := 167) hx hb d_Md_round_155 rfl (fun hc => ?_) (fun hc => ?_)
                  · have h := ite_t hc h
                    exact hJ167 ls (lv_sub hl [2, 3, 4, 5, 6, 0] rfl) h
                  · have hc := not_not_intro hc
                    have h := ite_f hc h
                    refine lv_lload hx hb d_Md_round_158 (lv_at hl 0 rfl) ?_
                    refine lv_lconst hx hb d_Md_round_160 lc_1 ?_
                    refine lv_land hx hb d_Md_round_161 ?_
                    refine lv_lconst hx hb d_Md_round_162 lc_1 ?_
                    refine W.lcmp hx hb d_Md_round_163 ?_
                    refine lv_if_ne (tgt := 173) hx hb d_Md_round_164 rfl (fun hc => ?_) (fun hc => ?_)
                    · have hc := mt (lg_cmp_eq _ _).mpr hc
                      have h := ite_t hc h
                      exact hJ173 _ ls (lv_sub hl [2, 3, 4, 5, 6, 0] rfl) h
                    · have hc := not_not_intro ((lg_cmp_eq _ _).mp hc)
                      have h := ite_f hc h
                      exact hJ167 ls (lv_sub hl [2, 3, 4, 5, 6, 0] rfl) h
              refine lv_if_ne (tgt := 131) hx hb d_Md_round_123 rfl (fun hc => ?_) (fun hc => ?_)
              · have hc := mt (lg_cmp_eq _ _).mpr hc
                have e_x19 := e_x19.trans (if_pos hc)
                refine lv_iconst hx hb d_Md_round_131 ic_1 ?_
                refine lv_goto (tgt := 136) hx hb d_Md_round_132 rfl ?_
                exact hJ136 _ ls e_x19 (lv_sub hl [1, 2, 4, 5, 6, 7] rfl)
              · have hc := not_not_intro ((lg_cmp_eq _ _).mp hc)
                have e_x19 := e_x19.trans (if_neg hc)
                refine lv_iload hx hb d_Md_round_126 (lv_at hl 3 rfl) ?_
                refine lv_if_eq (tgt := 135) hx hb d_Md_round_128 rfl (fun hc => ?_) (fun hc => ?_)
                · have e_x19 := e_x19.trans (if_pos hc)
                  refine lv_iconst hx hb d_Md_round_135 ic_0 ?_
                  exact hJ136 _ ls e_x19 (lv_sub hl [1, 2, 4, 5, 6, 7] rfl)
                · have e_x19 := e_x19.trans (if_neg hc)
                  refine lv_iconst hx hb d_Md_round_131 ic_1 ?_
                  refine lv_goto (tgt := 136) hx hb d_Md_round_132 rfl ?_
                  exact hJ136 _ ls e_x19 (lv_sub hl [1, 2, 4, 5, 6, 7] rfl)
            refine lv_icmp_ne (tgt := 107) hx hb d_Md_round_100 rfl (fun hc => ?_) (fun hc => ?_)
            · have e_x18 := e_x18.trans (if_pos hc)
              refine lv_lload_n hx hb d_Md_round_107 rfl (lv_at hl 2 rfl) ?_
              refine lv_lconst hx hb d_Md_round_108 lc_1 ?_
              refine lv_iload hx hb d_Md_round_109 (lv_at hl 7 rfl) ?_
              refine lv_iconst hx hb d_Md_round_111 ic_1 ?_
              refine lv_isub hx hb d_Md_round_112 ?_
              refine lv_lshl hx hb d_Md_round_113 rfl ?_
              refine lv_lconst hx hb d_Md_round_114 lc_1 ?_
              refine lv_lsub hx hb d_Md_round_115 ?_
              refine lv_land hx hb d_Md_round_116 ?_
              exact hJ117 _ ls e_x18 (lv_sub hl [1, 3, 4, 5, 6, 7, 0] rfl)
            · have hc := not_not_intro hc
              have e_x18 := e_x18.trans (if_neg hc)
              refine lv_lload_n hx hb d_Md_round_103 rfl (lv_at hl 2 rfl) ?_
              refine lv_goto (tgt := 117) hx hb d_Md_round_104 rfl ?_
              exact hJ117 _ ls e_x18 (lv_sub hl [1, 3, 4, 5, 6, 7, 0] rfl)
          refine lv_icmp_ne (tgt := 88) hx hb d_Md_round_81 rfl (fun hc => ?_) (fun hc => ?_)
          · have e_x17 := e_x17.trans (if_pos hc)
            refine lv_lload_n hx hb d_Md_round_88 rfl (lv_at hl 4 rfl) ?_
            refine lv_iload hx hb d_Md_round_89 (lv_at hl 1 rfl) ?_
            refine lv_iconst hx hb d_Md_round_91 ic_1 ?_
            refine lv_isub hx hb d_Md_round_92 ?_
            refine lv_lushr hx hb d_Md_round_93 rfl ?_
            exact hJ94 _ ls e_x17 (lv_sub hl [3, 4, 5, 6, 7, 8, 1] rfl)
          · have hc := not_not_intro hc
            have e_x17 := e_x17.trans (if_neg hc)
            refine lv_lconst hx hb d_Md_round_84 lc_0 ?_
            refine lv_goto (tgt := 94) hx hb d_Md_round_85 rfl ?_
            exact hJ94 _ ls e_x17 (lv_sub hl [3, 4, 5, 6, 7, 8, 1] rfl)
        · have h := ite_f hc h
          refine lv_lconst hx hb d_Md_round_71 lc_0 ?_
          refine lv_lstore hx hb d_Md_round_72 hl (by decide) rfl (fun ls hl => ?_)
          have hl : lv_has ls 16 [(9, .long (0 : Int64)), (8, .int x4), (7, .int x2), (0, .int a0), (1, .long a1), (3, .int a2), (4, .int a3), (5, .int a4), (6, .int x1)] := hl
          refine lv_goto (tgt := 173) hx hb d_Md_round_74 rfl ?_
          exact hJ173 _ ls (lv_sub hl [3, 5, 7, 8, 1, 0] rfl) h
      · have h := ite_f hc h
        refine lv_lload_n hx hb d_Md_round_54 rfl (lv_at hl 4 rfl) ?_
        refine lv_iload hx hb d_Md_round_55 (lv_at hl 1 rfl) ?_
        refine lv_ineg hx hb d_Md_round_57 ?_
        refine lv_lshl hx hb d_Md_round_58 rfl ?_
        refine lv_topl (fun x22 e_x22 => ?_)
        have h := lt_h e_x22 h
        refine lv_lstore hx hb d_Md_round_59 hl (by decide) rfl (fun ls hl => ?_)
        have hl : lv_has ls 16 [(9, .long x22), (8, .int x4), (7, .int x2), (0, .int a0), (1, .long a1), (3, .int a2), (4, .int a3), (5, .int a4), (6, .int x1)] := hl
        refine lv_goto (tgt := 173) hx hb d_Md_round_61 rfl ?_
        exact hJ173 _ ls (lv_sub hl [3, 5, 7, 8, 1, 0] rfl) h
    refine lv_if_eq (tgt := 25) hx hb d_Md_round_16 rfl (fun hc => ?_) (fun hc => ?_)
    · have e_x2 := e_x2.trans (if_pos hc)
      refine lv_sipush hx hb d_Md_round_25 sp_m1074 ?_
      exact hJ28 _ ls e_x2 (lv_sub hl [1, 2, 3, 4, 5, 0] rfl)
    · have e_x2 := e_x2.trans (if_neg hc)
      refine lv_sipush hx hb d_Md_round_19 sp_m149 ?_
      refine lv_goto (tgt := 28) hx hb d_Md_round_22 rfl ?_
      exact hJ28 _ ls e_x2 (lv_sub hl [1, 2, 3, 4, 5, 0] rfl)
  refine lv_if_eq (tgt := 10) hx hb d_Md_round_2 rfl (fun hc => ?_) (fun hc => ?_)
  · have e_x1 := e_x1.trans (if_pos hc)
    refine lv_bipush hx hb d_Md_round_10 bp_53 ?_
    exact hJ12 _ ls e_x1 (lv_sub hl [0, 1, 2, 3, 4] rfl)
  · have e_x1 := e_x1.trans (if_neg hc)
    refine lv_bipush hx hb d_Md_round_5 bp_24 ?_
    refine lv_goto (tgt := 12) hx hb d_Md_round_7 rfl ?_
    exact hJ12 _ ls e_x1 (lv_sub hl [0, 1, 2, 3, 4] rfl)
-- Md_cut
theorem d_Md_cut_0 : decode b_Md_cut 0 = .ok (.iload_n 2, 1) := by decide +kernel
theorem d_Md_cut_1 : decode b_Md_cut 1 = .ok (.tableswitch 51 0 3 #[31, 37, 42, 47], 31) := by decide +kernel
theorem d_Md_cut_32 : decode b_Md_cut 32 = .ok (.lload_n 0, 1) := by decide +kernel
theorem d_Md_cut_33 : decode b_Md_cut 33 = .ok (.ldc2_w 117, 3) := by decide +kernel
theorem d_Md_cut_36 : decode b_Md_cut 36 = .ok (.land, 1) := by decide +kernel
theorem d_Md_cut_37 : decode b_Md_cut 37 = .ok (.lreturn, 1) := by decide +kernel
theorem d_Md_cut_38 : decode b_Md_cut 38 = .ok (.lload_n 0, 1) := by decide +kernel
theorem d_Md_cut_39 : decode b_Md_cut 39 = .ok (.l2i, 1) := by decide +kernel
theorem d_Md_cut_40 : decode b_Md_cut 40 = .ok (.i2b, 1) := by decide +kernel
theorem d_Md_cut_41 : decode b_Md_cut 41 = .ok (.i2l, 1) := by decide +kernel
theorem d_Md_cut_42 : decode b_Md_cut 42 = .ok (.lreturn, 1) := by decide +kernel
theorem d_Md_cut_43 : decode b_Md_cut 43 = .ok (.lload_n 0, 1) := by decide +kernel
theorem d_Md_cut_44 : decode b_Md_cut 44 = .ok (.l2i, 1) := by decide +kernel
theorem d_Md_cut_45 : decode b_Md_cut 45 = .ok (.i2s, 1) := by decide +kernel
theorem d_Md_cut_46 : decode b_Md_cut 46 = .ok (.i2l, 1) := by decide +kernel
theorem d_Md_cut_47 : decode b_Md_cut 47 = .ok (.lreturn, 1) := by decide +kernel
theorem d_Md_cut_48 : decode b_Md_cut 48 = .ok (.lload_n 0, 1) := by decide +kernel
theorem d_Md_cut_49 : decode b_Md_cut 49 = .ok (.l2i, 1) := by decide +kernel
theorem d_Md_cut_50 : decode b_Md_cut 50 = .ok (.i2l, 1) := by decide +kernel
theorem d_Md_cut_51 : decode b_Md_cut 51 = .ok (.lreturn, 1) := by decide +kernel
theorem d_Md_cut_52 : decode b_Md_cut 52 = .ok (.lload_n 0, 1) := by decide +kernel
theorem d_Md_cut_53 : decode b_Md_cut 53 = .ok (.lreturn, 1) := by decide +kernel
def F_Md_cut (a0 : Int64) (a1 : Int32) : Int64 := if a1 = (0 : Int32) then (a0 &&& (65535 : Int64)) else if a1 = (1 : Int32) then ((((a0).toInt32).toInt8.toInt32).toInt64) else if a1 = (2 : Int32) then ((((a0).toInt32).toInt16.toInt32).toInt64) else if a1 = (3 : Int32) then (((a0).toInt32).toInt64) else a0
set_option maxHeartbeats 4000000 in
set_option maxRecDepth 100000 in
theorem c_Md_cut (l : Launch) (a0 : Int64) (a1 : Int32) : Met l y_Md_cut (.code y_Md_cut b_Md_cut 3 (some .long) :: BIG) ({ frames := 0, cells := 0, slots := 0, locals := 0 } : Room) (va_Pc [.long a0, .int a1] (pre0)) (pQ (.long (F_Md_cut a0 a1))) 0 0 (fun _ => False) := by
  refine pOpen_l rfl (Nat.le_of_ble_eq_true rfl) ?_
  intro p e s m args below meth c Q ls hx hb hml hown hts hT hp hl hret
  have hNB := hp
  have hown : s.vm.findClass R_Md = some m.cls := hown
  have hl : lv_has ls 3 [(0, .long a0), (2, .int a1)] := hl
  obtain ⟨r, h⟩ : ∃ r, F_Md_cut a0 a1 = r := ⟨_, rfl⟩
  rw [h] at hret
  have h : (if a1 = (0 : Int32) then (a0 &&& (65535 : Int64)) else if a1 = (1 : Int32) then ((((a0).toInt32).toInt8.toInt32).toInt64) else if a1 = (2 : Int32) then ((((a0).toInt32).toInt16.toInt32).toInt64) else if a1 = (3 : Int32) then (((a0).toInt32).toInt64) else a0) = r := h
  refine lv_iload_n hx hb d_Md_cut_0 rfl (lv_at hl 1 rfl) ?_
  by_cases hc0 : a1 = (0 : Int32)
  · have h := ite_t hc0 h
    refine lv_tableIn (off := 31) (tgt := 32) hx hb d_Md_cut_1 (by rw [hc0]; decide) (by rw [hc0]; decide) (by rw [hc0]; rfl) rfl ?_
    refine lv_lload_n hx hb d_Md_cut_32 rfl (lv_at hl 0 rfl) ?_
    refine lv_ldc2 hx hb hown (hT _ m_138) d_Md_cut_33 ?_
    refine lv_land hx hb d_Md_cut_36 ?_
    exact hret 37 ls _ h d_Md_cut_37
  have h := ite_f hc0 h
  by_cases hc1 : a1 = (1 : Int32)
  · have h := ite_t hc1 h
    refine lv_tableIn (off := 37) (tgt := 38) hx hb d_Md_cut_1 (by rw [hc1]; decide) (by rw [hc1]; decide) (by rw [hc1]; rfl) rfl ?_
    refine lv_lload_n hx hb d_Md_cut_38 rfl (lv_at hl 0 rfl) ?_
    refine lv_l2i hx hb d_Md_cut_39 rfl ?_
    refine lv_i2b hx hb d_Md_cut_40 rfl ?_
    refine lv_i2l hx hb d_Md_cut_41 rfl ?_
    exact hret 42 ls _ h d_Md_cut_42
  have h := ite_f hc1 h
  by_cases hc2 : a1 = (2 : Int32)
  · have h := ite_t hc2 h
    refine lv_tableIn (off := 42) (tgt := 43) hx hb d_Md_cut_1 (by rw [hc2]; decide) (by rw [hc2]; decide) (by rw [hc2]; rfl) rfl ?_
    refine lv_lload_n hx hb d_Md_cut_43 rfl (lv_at hl 0 rfl) ?_
    refine lv_l2i hx hb d_Md_cut_44 rfl ?_
    refine lv_i2s hx hb d_Md_cut_45 rfl ?_
    refine lv_i2l hx hb d_Md_cut_46 rfl ?_
    exact hret 47 ls _ h d_Md_cut_47
  have h := ite_f hc2 h
  by_cases hc3 : a1 = (3 : Int32)
  · have h := ite_t hc3 h
    refine lv_tableIn (off := 47) (tgt := 48) hx hb d_Md_cut_1 (by rw [hc3]; decide) (by rw [hc3]; decide) (by rw [hc3]; rfl) rfl ?_
    refine lv_lload_n hx hb d_Md_cut_48 rfl (lv_at hl 0 rfl) ?_
    refine lv_l2i hx hb d_Md_cut_49 rfl ?_
    refine lv_i2l hx hb d_Md_cut_50 rfl ?_
    exact hret 51 ls _ h d_Md_cut_51
  have h := ite_f hc3 h
  refine lv_tableOut (tgt := 52) hx hb d_Md_cut_1 (by have n0 := lv_neT hc0 (show ((0 : Int32)).toInt = 0 from rfl); have n1 := lv_neT hc1 (show ((1 : Int32)).toInt = 1 from rfl); have n2 := lv_neT hc2 (show ((2 : Int32)).toInt = 2 from rfl); have n3 := lv_neT hc3 (show ((3 : Int32)).toInt = 3 from rfl); omega) rfl ?_
  refine lv_lload_n hx hb d_Md_cut_52 rfl (lv_at hl 0 rfl) ?_
  exact hret 53 ls _ h d_Md_cut_53
