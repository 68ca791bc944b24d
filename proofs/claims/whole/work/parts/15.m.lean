-- BW_bitsFrom
theorem d_BW_bitsFrom_0 : decode b_BW_bitsFrom 0 = .ok (.lconst 0, 1) := by decide +kernel
theorem d_BW_bitsFrom_1 : decode b_BW_bitsFrom 1 = .ok (.lstore_n 2, 1) := by decide +kernel
theorem d_BW_bitsFrom_2 : decode b_BW_bitsFrom 2 = .ok (.iconst 0, 1) := by decide +kernel
theorem d_BW_bitsFrom_3 : decode b_BW_bitsFrom 3 = .ok (.istore 4, 2) := by decide +kernel
theorem d_BW_bitsFrom_5 : decode b_BW_bitsFrom 5 = .ok (.iload 4, 2) := by decide +kernel
theorem d_BW_bitsFrom_7 : decode b_BW_bitsFrom 7 = .ok (.aload_n 0, 1) := by decide +kernel
theorem d_BW_bitsFrom_8 : decode b_BW_bitsFrom 8 = .ok (.getfield 48, 3) := by decide +kernel
theorem d_BW_bitsFrom_11 : decode b_BW_bitsFrom 11 = .ok (.if_icmp .ge 127, 3) := by decide +kernel
theorem d_BW_bitsFrom_14 : decode b_BW_bitsFrom 14 = .ok (.iload 4, 2) := by decide +kernel
theorem d_BW_bitsFrom_16 : decode b_BW_bitsFrom 16 = .ok (.bipush 32, 2) := by decide +kernel
theorem d_BW_bitsFrom_18 : decode b_BW_bitsFrom 18 = .ok (.imul, 1) := by decide +kernel
theorem d_BW_bitsFrom_19 : decode b_BW_bitsFrom 19 = .ok (.iload_n 1, 1) := by decide +kernel
theorem d_BW_bitsFrom_20 : decode b_BW_bitsFrom 20 = .ok (.isub, 1) := by decide +kernel
theorem d_BW_bitsFrom_21 : decode b_BW_bitsFrom 21 = .ok (.istore 5, 2) := by decide +kernel
theorem d_BW_bitsFrom_23 : decode b_BW_bitsFrom 23 = .ok (.iload 5, 2) := by decide +kernel
theorem d_BW_bitsFrom_25 : decode b_BW_bitsFrom 25 = .ok (.ifCond .lt 19, 3) := by decide +kernel
theorem d_BW_bitsFrom_28 : decode b_BW_bitsFrom 28 = .ok (.lload_n 2, 1) := by decide +kernel
theorem d_BW_bitsFrom_29 : decode b_BW_bitsFrom 29 = .ok (.aload_n 0, 1) := by decide +kernel
theorem d_BW_bitsFrom_30 : decode b_BW_bitsFrom 30 = .ok (.getfield 11, 3) := by decide +kernel
theorem d_BW_bitsFrom_33 : decode b_BW_bitsFrom 33 = .ok (.iload 4, 2) := by decide +kernel
theorem d_BW_bitsFrom_35 : decode b_BW_bitsFrom 35 = .ok (.laload, 1) := by decide +kernel
theorem d_BW_bitsFrom_36 : decode b_BW_bitsFrom 36 = .ok (.iload 5, 2) := by decide +kernel
theorem d_BW_bitsFrom_38 : decode b_BW_bitsFrom 38 = .ok (.lshl, 1) := by decide +kernel
theorem d_BW_bitsFrom_39 : decode b_BW_bitsFrom 39 = .ok (.lor, 1) := by decide +kernel
theorem d_BW_bitsFrom_40 : decode b_BW_bitsFrom 40 = .ok (.lstore_n 2, 1) := by decide +kernel
theorem d_BW_bitsFrom_41 : decode b_BW_bitsFrom 41 = .ok (.goto 91, 3) := by decide +kernel
theorem d_BW_bitsFrom_44 : decode b_BW_bitsFrom 44 = .ok (.iload 5, 2) := by decide +kernel
theorem d_BW_bitsFrom_46 : decode b_BW_bitsFrom 46 = .ok (.bipush (-32), 2) := by decide +kernel
theorem d_BW_bitsFrom_48 : decode b_BW_bitsFrom 48 = .ok (.if_icmp .le 56, 3) := by decide +kernel
theorem d_BW_bitsFrom_51 : decode b_BW_bitsFrom 51 = .ok (.lload_n 2, 1) := by decide +kernel
theorem d_BW_bitsFrom_52 : decode b_BW_bitsFrom 52 = .ok (.aload_n 0, 1) := by decide +kernel
theorem d_BW_bitsFrom_53 : decode b_BW_bitsFrom 53 = .ok (.getfield 11, 3) := by decide +kernel
theorem d_BW_bitsFrom_56 : decode b_BW_bitsFrom 56 = .ok (.iload 4, 2) := by decide +kernel
theorem d_BW_bitsFrom_58 : decode b_BW_bitsFrom 58 = .ok (.laload, 1) := by decide +kernel
theorem d_BW_bitsFrom_59 : decode b_BW_bitsFrom 59 = .ok (.iload 5, 2) := by decide +kernel
theorem d_BW_bitsFrom_61 : decode b_BW_bitsFrom 61 = .ok (.ineg, 1) := by decide +kernel
theorem d_BW_bitsFrom_62 : decode b_BW_bitsFrom 62 = .ok (.lushr, 1) := by decide +kernel
theorem d_BW_bitsFrom_63 : decode b_BW_bitsFrom 63 = .ok (.lor, 1) := by decide +kernel
theorem d_BW_bitsFrom_64 : decode b_BW_bitsFrom 64 = .ok (.lstore_n 2, 1) := by decide +kernel
theorem d_BW_bitsFrom_65 : decode b_BW_bitsFrom 65 = .ok (.aload_n 0, 1) := by decide +kernel
theorem d_BW_bitsFrom_66 : decode b_BW_bitsFrom 66 = .ok (.aload_n 0, 1) := by decide +kernel
theorem d_BW_bitsFrom_67 : decode b_BW_bitsFrom 67 = .ok (.getfield 15, 3) := by decide +kernel
theorem d_BW_bitsFrom_70 : decode b_BW_bitsFrom 70 = .ok (.ifCond .ne 23, 3) := by decide +kernel
theorem d_BW_bitsFrom_73 : decode b_BW_bitsFrom 73 = .ok (.aload_n 0, 1) := by decide +kernel
theorem d_BW_bitsFrom_74 : decode b_BW_bitsFrom 74 = .ok (.getfield 11, 3) := by decide +kernel
theorem d_BW_bitsFrom_77 : decode b_BW_bitsFrom 77 = .ok (.iload 4, 2) := by decide +kernel
theorem d_BW_bitsFrom_79 : decode b_BW_bitsFrom 79 = .ok (.laload, 1) := by decide +kernel
theorem d_BW_bitsFrom_80 : decode b_BW_bitsFrom 80 = .ok (.lconst 1, 1) := by decide +kernel
theorem d_BW_bitsFrom_81 : decode b_BW_bitsFrom 81 = .ok (.iload 5, 2) := by decide +kernel
theorem d_BW_bitsFrom_83 : decode b_BW_bitsFrom 83 = .ok (.ineg, 1) := by decide +kernel
theorem d_BW_bitsFrom_84 : decode b_BW_bitsFrom 84 = .ok (.lshl, 1) := by decide +kernel
theorem d_BW_bitsFrom_85 : decode b_BW_bitsFrom 85 = .ok (.lconst 1, 1) := by decide +kernel
theorem d_BW_bitsFrom_86 : decode b_BW_bitsFrom 86 = .ok (.lsub, 1) := by decide +kernel
theorem d_BW_bitsFrom_87 : decode b_BW_bitsFrom 87 = .ok (.land, 1) := by decide +kernel
theorem d_BW_bitsFrom_88 : decode b_BW_bitsFrom 88 = .ok (.lconst 0, 1) := by decide +kernel
theorem d_BW_bitsFrom_89 : decode b_BW_bitsFrom 89 = .ok (.lcmp, 1) := by decide +kernel
theorem d_BW_bitsFrom_90 : decode b_BW_bitsFrom 90 = .ok (.ifCond .eq 7, 3) := by decide +kernel
theorem d_BW_bitsFrom_93 : decode b_BW_bitsFrom 93 = .ok (.iconst 1, 1) := by decide +kernel
theorem d_BW_bitsFrom_94 : decode b_BW_bitsFrom 94 = .ok (.goto 4, 3) := by decide +kernel
theorem d_BW_bitsFrom_97 : decode b_BW_bitsFrom 97 = .ok (.iconst 0, 1) := by decide +kernel
theorem d_BW_bitsFrom_98 : decode b_BW_bitsFrom 98 = .ok (.putfield 15, 3) := by decide +kernel
theorem d_BW_bitsFrom_101 : decode b_BW_bitsFrom 101 = .ok (.goto 31, 3) := by decide +kernel
theorem d_BW_bitsFrom_104 : decode b_BW_bitsFrom 104 = .ok (.aload_n 0, 1) := by decide +kernel
theorem d_BW_bitsFrom_105 : decode b_BW_bitsFrom 105 = .ok (.aload_n 0, 1) := by decide +kernel
theorem d_BW_bitsFrom_106 : decode b_BW_bitsFrom 106 = .ok (.getfield 15, 3) := by decide +kernel
theorem d_BW_bitsFrom_109 : decode b_BW_bitsFrom 109 = .ok (.ifCond .ne 15, 3) := by decide +kernel
theorem d_BW_bitsFrom_112 : decode b_BW_bitsFrom 112 = .ok (.aload_n 0, 1) := by decide +kernel
theorem d_BW_bitsFrom_113 : decode b_BW_bitsFrom 113 = .ok (.getfield 11, 3) := by decide +kernel
theorem d_BW_bitsFrom_116 : decode b_BW_bitsFrom 116 = .ok (.iload 4, 2) := by decide +kernel
theorem d_BW_bitsFrom_118 : decode b_BW_bitsFrom 118 = .ok (.laload, 1) := by decide +kernel
theorem d_BW_bitsFrom_119 : decode b_BW_bitsFrom 119 = .ok (.lconst 0, 1) := by decide +kernel
theorem d_BW_bitsFrom_120 : decode b_BW_bitsFrom 120 = .ok (.lcmp, 1) := by decide +kernel
theorem d_BW_bitsFrom_121 : decode b_BW_bitsFrom 121 = .ok (.ifCond .eq 7, 3) := by decide +kernel
theorem d_BW_bitsFrom_124 : decode b_BW_bitsFrom 124 = .ok (.iconst 1, 1) := by decide +kernel
theorem d_BW_bitsFrom_125 : decode b_BW_bitsFrom 125 = .ok (.goto 4, 3) := by decide +kernel
theorem d_BW_bitsFrom_128 : decode b_BW_bitsFrom 128 = .ok (.iconst 0, 1) := by decide +kernel
theorem d_BW_bitsFrom_129 : decode b_BW_bitsFrom 129 = .ok (.putfield 15, 3) := by decide +kernel
theorem d_BW_bitsFrom_132 : decode b_BW_bitsFrom 132 = .ok (.iinc 4 1, 3) := by decide +kernel
theorem d_BW_bitsFrom_135 : decode b_BW_bitsFrom 135 = .ok (.goto (-130), 3) := by decide +kernel
theorem d_BW_bitsFrom_138 : decode b_BW_bitsFrom 138 = .ok (.lload_n 2, 1) := by decide +kernel
theorem d_BW_bitsFrom_139 : decode b_BW_bitsFrom 139 = .ok (.lreturn, 1) := by decide +kernel
def F_BW_bitsFrom_L5 (used : Int32) (lim : Nat → Int64) (a1 : Int32) (j138 : (Int64 → Int32 → Option (Int64 × Int32))) : Nat → Int64 → Int32 → Int32 → Option (Int64 × Int32)
  | 0, _, _, _ => none
  | n+1, y3, y4, lost_5 => if used ≤ y4 then (j138 y3 lost_5) else (lt_ ((y4 * (32 : Int32)) - a1) fun x6 => lt_ (fun (y7 : Int64) (lost_8 : Int32) => lt_ (y4 + Int32.ofInt 1) fun x9 => F_BW_bitsFrom_L5 used lim a1 j138 n y7 x9 lost_8) fun j132 => if x6 < 0 then (if x6 ≤ (-32 : Int32) then (lt_ (fun (y10 : Int32) (lost_11 : Int32) => gz_ (¬ (y10 = 0 ∨ y10 = 1)) <| j132 y3 y10) fun j129 => lt_ (fun (lost_12 : Int32) => j129 (1 : Int32) lost_12) fun j124 => if ¬ lost_5 = 0 then (j124 lost_5) else (gz_ (y4 < 0 ∨ 36 ≤ (y4).toNatClampNeg) <| if (lim (y4).toNatClampNeg) = (0 : Int64) then (j129 (0 : Int32) lost_5) else (j124 lost_5))) else (gz_ (y4 < 0 ∨ 36 ≤ (y4).toNatClampNeg) <| lt_ (y3 ||| (((lim (y4).toNatClampNeg).toUInt64 >>> ((-x6).toInt64.toUInt64 &&& Int64.toUInt64 63)).toInt64)) fun x13 => lt_ (fun (y14 : Int32) (lost_15 : Int32) => gz_ (¬ (y14 = 0 ∨ y14 = 1)) <| j132 x13 y14) fun j98 => lt_ (fun (lost_16 : Int32) => j98 (1 : Int32) lost_16) fun j93 => if ¬ lost_5 = 0 then (j93 lost_5) else (gz_ (y4 < 0 ∨ 36 ≤ (y4).toNatClampNeg) <| if ((lim (y4).toNatClampNeg) &&& (((1 : Int64) <<< ((-x6).toInt64 &&& 63)) - (1 : Int64))) = (0 : Int64) then (j98 (0 : Int32) lost_5) else (j93 lost_5)))) else (gz_ (y4 < 0 ∨ 36 ≤ (y4).toNatClampNeg) <| lt_ (y3 ||| ((lim (y4).toNatClampNeg) <<< ((x6).toInt64 &&& 63))) fun x17 => j132 x17 lost_5))
def F_BW_bitsFrom (n : Nat) (used : Int32) (lost : Int32) (lim : Nat → Int64) (a1 : Int32) : Option (Int64 × Int32) := lt_ (fun (y1 : Int64) (lost_2 : Int32) => some (y1, lost_2)) fun j138 => F_BW_bitsFrom_L5 used lim a1 j138 n (0 : Int64) (0 : Int32) lost
set_option maxHeartbeats 4000000 in
set_option maxRecDepth 100000 in
theorem c_BW_bitsFrom (l : Launch) (D : va_G) (A : Nat → Prop) (cI cL cC : ClassId) (ad : Nat → Nat) (X : va_W) (len : Int32) (tk : Int32) (row : Nat → Int32) (dig : Int64) (pw : Int32) (used : Int32) (lost : Int32) (lim : Nat → Int64) (n : Nat) (a1 : Int32) (r : Int64 × Int32) (h : F_BW_bitsFrom n used lost lim a1 = some r) : Met l y_BW_bitsFrom (.code y_BW_bitsFrom b_BW_bitsFrom 6 (some .long) :: BIG) ({ frames := 0, cells := 0, slots := 0, locals := 0 } : Room) (va_Pc [.ref (ad 4), .int a1] (gPre D A (tysV cI cL cC) (gC cI cL cC ad X len tk row dig pw used lost lim))) (gQ D A (some (.long r.1)) (gC cI cL cC ad X len tk row dig pw used r.2 lim)) 0 0 A := by
  refine gOpen_l rfl (Nat.le_of_ble_eq_true rfl) ?_
  intro p e s m args below meth c Q ls hx hb hml hown hts hT hNB hP hK hD hl hret
  have hown : s.vm.findClass R_BW = some m.cls := hown
  have hS : va_S A s.heap s.heap [] := va_S.rf
  have hl : lv_has ls 6 [(0, .ref (ad 4)), (1, .int a1)] := hl
  have h : (lt_ (fun (y1 : Int64) (lost_2 : Int32) => some (y1, lost_2)) fun j138 => F_BW_bitsFrom_L5 used lim a1 j138 n (0 : Int64) (0 : Int32) lost) = some r := h
  refine lv_lconst hx hb d_BW_bitsFrom_0 lc_0 ?_
  refine lv_lstore_n hx hb d_BW_bitsFrom_1 rfl hl (by decide) rfl (fun ls hl => ?_)
  have hl : lv_has ls 6 [(2, .long (0 : Int64)), (0, .ref (ad 4)), (1, .int a1)] := hl
  refine lv_iconst hx hb d_BW_bitsFrom_2 ic_0 ?_
  refine lv_istore hx hb d_BW_bitsFrom_3 hl (by decide) rfl (fun ls hl => ?_)
  have hl : lv_has ls 6 [(4, .int (0 : Int32)), (2, .long (0 : Int64)), (0, .ref (ad 4)), (1, .int a1)] := hl
  obtain ⟨j138, e_j138, h⟩ := lt_o h
  have hJ138 : ∀ (y1 : Int64) (lost_2 : Int32) (ls : Array Slot) (H : Heap) (locs : List Loc), lv_has ls 6 [(2, .long y1)] → va_P D cls (gC cI cL cC ad X len tk row dig pw used lost_2 lim) H → va_D A (gC cI cL cC ad X len tk row dig pw used lost_2 lim) → va_S A s.heap H locs → j138 y1 lost_2 = some r → W p l e ({ frames := 0, cells := 0, slots := 0, locals := 0 } : Room) s m args below meth c H locs 0 0 Q (F0 m 138 ls []) := by
    intro y1 lost_2 ls H locs hl hP hD hS h
    rw [e_j138] at h
    refine lv_lload_n hx hb d_BW_bitsFrom_138 rfl (lv_at hl 0 rfl) ?_
    obtain rfl := Option.some.inj h
    exact hret 139 ls _ _ _ rfl hP hD hS d_BW_bitsFrom_139
  have hL5 : ∀ (n : Nat) (y3 : Int64) (y4 : Int32) (lost_5 : Int32) (ls : Array Slot) (H : Heap) (locs : List Loc), lv_has ls 6 [(0, .ref (ad 4)), (1, .int a1), (2, .long y3), (4, .int y4)] → va_P D cls (gC cI cL cC ad X len tk row dig pw used lost_5 lim) H → va_D A (gC cI cL cC ad X len tk row dig pw used lost_5 lim) → va_S A s.heap H locs → F_BW_bitsFrom_L5 used lim a1 j138 n y3 y4 lost_5 = some r → W p l e ({ frames := 0, cells := 0, slots := 0, locals := 0 } : Room) s m args below meth c H locs 0 0 Q (F0 m 5 ls []) := by
    intro n
    induction n with
    | zero => intro y3 y4 lost_5 ls H locs hl hP hD hS h; exact no_s h
    | succ n ih =>
      intro y3 y4 lost_5 ls H locs hl hP hD hS h
      have h : (if used ≤ y4 then (j138 y3 lost_5) else (lt_ ((y4 * (32 : Int32)) - a1) fun x6 => lt_ (fun (y7 : Int64) (lost_8 : Int32) => lt_ (y4 + Int32.ofInt 1) fun x9 => F_BW_bitsFrom_L5 used lim a1 j138 n y7 x9 lost_8) fun j132 => if x6 < 0 then (if x6 ≤ (-32 : Int32) then (lt_ (fun (y10 : Int32) (lost_11 : Int32) => gz_ (¬ (y10 = 0 ∨ y10 = 1)) <| j132 y3 y10) fun j129 => lt_ (fun (lost_12 : Int32) => j129 (1 : Int32) lost_12) fun j124 => if ¬ lost_5 = 0 then (j124 lost_5) else (gz_ (y4 < 0 ∨ 36 ≤ (y4).toNatClampNeg) <| if (lim (y4).toNatClampNeg) = (0 : Int64) then (j129 (0 : Int32) lost_5) else (j124 lost_5))) else (gz_ (y4 < 0 ∨ 36 ≤ (y4).toNatClampNeg) <| lt_ (y3 ||| (((lim (y4).toNatClampNeg).toUInt64 >>> ((-x6).toInt64.toUInt64 &&& Int64.toUInt64 63)).toInt64)) fun x13 => lt_ (fun (y14 : Int32) (lost_15 : Int32) => gz_ (¬ (y14 = 0 ∨ y14 = 1)) <| j132 x13 y14) fun j98 => lt_ (fun (lost_16 : Int32) => j98 (1 : Int32) lost_16) fun j93 => if ¬ lost_5 = 0 then (j93 lost_5) else (gz_ (y4 < 0 ∨ 36 ≤ (y4).toNatClampNeg) <| if ((lim (y4).toNatClampNeg) &&& (((1 : Int64) <<< ((-x6).toInt64 &&& 63)) - (1 : Int64))) = (0 : Int64) then (j98 (0 : Int32) lost_5) else (j93 lost_5)))) else (gz_ (y4 < 0 ∨ 36 ≤ (y4).toNatClampNeg) <| lt_ (y3 ||| ((lim (y4).toNatClampNeg) <<< ((x6).toInt64 &&& 63))) fun x17 => j132 x17 lost_5))) = some r := h
      refine lv_iload hx hb d_BW_bitsFrom_5 (lv_at hl 3 rfl) ?_
      refine lv_aload_n hx hb d_BW_bitsFrom_7 rfl (lv_at hl 0 rfl) ?_
      refine va_get (D := D) (ci := 3) (C := R_BW) (T := T_BW) (N := 3) hx hb hT in_BW hown hK hP 4 rfl rfl 1 (by decide) (hT _ m_200) (fun _ h9 => h9) rfl d_BW_bitsFrom_8 ?_
      refine lv_icmp_ge (tgt := 138) hx hb d_BW_bitsFrom_11 rfl (fun hc => ?_) (fun hc => ?_)
      · have h := ite_t hc h
        exact hJ138 _ _ ls _ _ (lv_sub hl [2] rfl) hP hD hS h
      · have h := ite_f hc h
        refine lv_iload hx hb d_BW_bitsFrom_14 (lv_at hl 3 rfl) ?_
        refine lv_bipush hx hb d_BW_bitsFrom_16 bp_32 ?_
        refine lv_imul hx hb d_BW_bitsFrom_18 ?_
        refine lv_iload_n hx hb d_BW_bitsFrom_19 rfl (lv_at hl 1 rfl) ?_
        refine lv_isub hx hb d_BW_bitsFrom_20 ?_
        refine lv_topi (fun x6 e_x6 => ?_)
        have h := lt_h e_x6 h
        refine lv_istore hx hb d_BW_bitsFrom_21 hl (by decide) rfl (fun ls hl => ?_)
        have hl : lv_has ls 6 [(5, .int x6), (0, .ref (ad 4)), (1, .int a1), (2, .long y3), (4, .int y4)] := hl
        refine lv_iload hx hb d_BW_bitsFrom_23 (lv_at hl 0 rfl) ?_
        obtain ⟨j132, e_j132, h⟩ := lt_o h
        have hJ132 : ∀ (y7 : Int64) (lost_8 : Int32) (ls : Array Slot) (H : Heap) (locs : List Loc), lv_has ls 6 [(0, .ref (ad 4)), (1, .int a1), (2, .long y7), (4, .int y4)] → va_P D cls (gC cI cL cC ad X len tk row dig pw used lost_8 lim) H → va_D A (gC cI cL cC ad X len tk row dig pw used lost_8 lim) → va_S A s.heap H locs → j132 y7 lost_8 = some r → W p l e ({ frames := 0, cells := 0, slots := 0, locals := 0 } : Room) s m args below meth c H locs 0 0 Q (F0 m 132 ls []) := by
          intro y7 lost_8 ls H locs hl hP hD hS h
          rw [e_j132] at h
          obtain ⟨x9, e_x9⟩ : ∃ z, z = y4 + Int32.ofInt 1 := ⟨_, rfl⟩
          have h := lt_h e_x9 h
          refine lv_iinc (k := 3) hx hb d_BW_bitsFrom_132 hl rfl e_x9.symm (by decide) rfl (fun ls hl => ?_)
          have hl : lv_has ls 6 [(4, .int x9), (0, .ref (ad 4)), (1, .int a1), (2, .long y7)] := hl
          refine lv_goto (tgt := 5) hx hb d_BW_bitsFrom_135 rfl ?_
          exact ih _ _ _ ls _ _ (lv_sub hl [1, 2, 3, 0] rfl) hP hD hS h
        refine lv_if_lt (tgt := 44) hx hb d_BW_bitsFrom_25 rfl (fun hc => ?_) (fun hc => ?_)
        · have h := ite_t hc h
          refine lv_iload hx hb d_BW_bitsFrom_44 (lv_at hl 0 rfl) ?_
          refine lv_bipush hx hb d_BW_bitsFrom_46 bp_m32 ?_
          refine lv_icmp_le (tgt := 104) hx hb d_BW_bitsFrom_48 rfl (fun hc => ?_) (fun hc => ?_)
          · have h := ite_t hc h
            refine lv_aload_n hx hb d_BW_bitsFrom_104 rfl (lv_at hl 1 rfl) ?_
            refine lv_aload_n hx hb d_BW_bitsFrom_105 rfl (lv_at hl 1 rfl) ?_
            refine va_get (D := D) (ci := 3) (C := R_BW) (T := T_BW) (N := 3) hx hb hT in_BW hown hK hP 4 rfl rfl 2 (by decide) (hT _ m_206) (fun _ h9 => h9) rfl d_BW_bitsFrom_106 ?_
            obtain ⟨j129, e_j129, h⟩ := lt_o h
            have hJ129 : ∀ (y10 : Int32) (lost_11 : Int32) (ls : Array Slot) (H : Heap) (locs : List Loc), lv_has ls 6 [(0, .ref (ad 4)), (1, .int a1), (2, .long y3), (4, .int y4)] → va_P D cls (gC cI cL cC ad X len tk row dig pw used lost_11 lim) H → va_D A (gC cI cL cC ad X len tk row dig pw used lost_11 lim) → va_S A s.heap H locs → j129 y10 lost_11 = some r → W p l e ({ frames := 0, cells := 0, slots := 0, locals := 0 } : Room) s m args below meth c H locs 0 0 Q (F0 m 129 ls [.int y10, .ref (ad 4)]) := by
              intro y10 lost_11 ls H locs hl hP hD hS h
              rw [e_j129] at h
              have hz := gz_n h
              have h := gz_h h
              refine va_put (D := D) (ci := 3) (C := R_BW) (T := T_BW) (N := 3) hx hb hT in_BW ty_BW tyok_BW nm_BW hown hK hP hD hS 4 rfl rfl 2 (by decide) (hT _ m_206) (fun _ h9 => h9) rfl (ty := .boolean) (by decide +kernel) (nb_n hz) (nb_f hz) (by decide : 2 < 3) d_BW_bitsFrom_129 (fun H locs hP hD hS => ?_)
              have hP : va_P D cls (gC cI cL cC ad X len tk row dig pw used y10 lim) H := hP
              have hD : va_D A (gC cI cL cC ad X len tk row dig pw used y10 lim) := hD
              exact hJ132 _ _ ls _ _ (lv_sub hl [0, 1, 2, 3] rfl) hP hD hS h
            obtain ⟨j124, e_j124, h⟩ := lt_o h
            have hJ124 : ∀ (lost_12 : Int32) (ls : Array Slot) (H : Heap) (locs : List Loc), lv_has ls 6 [(0, .ref (ad 4)), (1, .int a1), (2, .long y3), (4, .int y4)] → va_P D cls (gC cI cL cC ad X len tk row dig pw used lost_12 lim) H → va_D A (gC cI cL cC ad X len tk row dig pw used lost_12 lim) → va_S A s.heap H locs → j124 lost_12 = some r → W p l e ({ frames := 0, cells := 0, slots := 0, locals := 0 } : Room) s m args below meth c H locs 0 0 Q (F0 m 124 ls [.ref (ad 4)]) := by
              intro lost_12 ls H locs hl hP hD hS h
              rw [e_j124] at h
              refine lv_iconst hx hb d_BW_bitsFrom_124 ic_1 ?_
              refine lv_goto (tgt := 129) hx hb d_BW_bitsFrom_125 rfl ?_
              exact hJ129 _ _ ls _ _ (lv_sub hl [0, 1, 2, 3] rfl) hP hD hS h
            refine lv_if_ne (tgt := 124) hx hb d_BW_bitsFrom_109 rfl (fun hc => ?_) (fun hc => ?_)
            · have h := ite_t hc h
              exact hJ124 _ ls _ _ (lv_sub hl [1, 2, 3, 4] rfl) hP hD hS h
            · have hc := not_not_intro hc
              have h := ite_f hc h
              refine lv_aload_n hx hb d_BW_bitsFrom_112 rfl (lv_at hl 1 rfl) ?_
              refine va_get (D := D) (ci := 3) (C := R_BW) (T := T_BW) (N := 3) hx hb hT in_BW hown hK hP 4 rfl rfl 0 (by decide) (hT _ m_201) (fun _ h9 => h9) rfl d_BW_bitsFrom_113 ?_
              refine lv_iload hx hb d_BW_bitsFrom_116 (lv_at hl 4 rfl) ?_
              have hi := gz_n h
              have h := gz_h h
              refine va_lald hx hb hK hP 5 1 rfl rfl hi d_BW_bitsFrom_118 ?_
              refine lv_lconst hx hb d_BW_bitsFrom_119 lc_0 ?_
              refine W.lcmp hx hb d_BW_bitsFrom_120 ?_
              refine lv_if_eq (tgt := 128) hx hb d_BW_bitsFrom_121 rfl (fun hc => ?_) (fun hc => ?_)
              · have hc := (lg_cmp_eq _ _).mp hc
                have h := ite_t hc h
                refine lv_iconst hx hb d_BW_bitsFrom_128 ic_0 ?_
                exact hJ129 _ _ ls _ _ (lv_sub hl [1, 2, 3, 4] rfl) hP hD hS h
              · have hc := mt (lg_cmp_eq _ _).mpr hc
                have h := ite_f hc h
                exact hJ124 _ ls _ _ (lv_sub hl [1, 2, 3, 4] rfl) hP hD hS h
          · have h := ite_f hc h
            refine lv_lload_n hx hb d_BW_bitsFrom_51 rfl (lv_at hl 3 rfl) ?_
            refine lv_aload_n hx hb d_BW_bitsFrom_52 rfl (lv_at hl 1 rfl) ?_
            refine va_get (D := D) (ci := 3) (C := R_BW) (T := T_BW) (N := 3) hx hb hT in_BW hown hK hP 4 rfl rfl 0 (by decide) (hT _ m_201) (fun _ h9 => h9) rfl d_BW_bitsFrom_53 ?_
            refine lv_iload hx hb d_BW_bitsFrom_56 (lv_at hl 4 rfl) ?_
            have hi := gz_n h
            have h := gz_h h
            refine va_lald hx hb hK hP 5 1 rfl rfl hi d_BW_bitsFrom_58 ?_
            refine lv_iload hx hb d_BW_bitsFrom_59 (lv_at hl 0 rfl) ?_
            refine lv_ineg hx hb d_BW_bitsFrom_61 ?_
            refine lv_lushr hx hb d_BW_bitsFrom_62 rfl ?_
            refine lv_lor hx hb d_BW_bitsFrom_63 ?_
            refine lv_topl (fun x13 e_x13 => ?_)
            have h := lt_h e_x13 h
            refine lv_lstore_n hx hb d_BW_bitsFrom_64 rfl hl (by decide) rfl (fun ls hl => ?_)
            have hl : lv_has ls 6 [(2, .long x13), (5, .int x6), (0, .ref (ad 4)), (1, .int a1), (4, .int y4)] := hl
            refine lv_aload_n hx hb d_BW_bitsFrom_65 rfl (lv_at hl 2 rfl) ?_
            refine lv_aload_n hx hb d_BW_bitsFrom_66 rfl (lv_at hl 2 rfl) ?_
            refine va_get (D := D) (ci := 3) (C := R_BW) (T := T_BW) (N := 3) hx hb hT in_BW hown hK hP 4 rfl rfl 2 (by decide) (hT _ m_206) (fun _ h9 => h9) rfl d_BW_bitsFrom_67 ?_
            obtain ⟨j98, e_j98, h⟩ := lt_o h
            have hJ98 : ∀ (y14 : Int32) (lost_15 : Int32) (ls : Array Slot) (H : Heap) (locs : List Loc), lv_has ls 6 [(0, .ref (ad 4)), (1, .int a1), (2, .long x13), (4, .int y4)] → va_P D cls (gC cI cL cC ad X len tk row dig pw used lost_15 lim) H → va_D A (gC cI cL cC ad X len tk row dig pw used lost_15 lim) → va_S A s.heap H locs → j98 y14 lost_15 = some r → W p l e ({ frames := 0, cells := 0, slots := 0, locals := 0 } : Room) s m args below meth c H locs 0 0 Q (F0 m 98 ls [.int y14, .ref (ad 4)]) := by
              intro y14 lost_15 ls H locs hl hP hD hS h
              rw [e_j98] at h
              have hz := gz_n h
              have h := gz_h h
              refine va_put (D := D) (ci := 3) (C := R_BW) (T := T_BW) (N := 3) hx hb hT in_BW ty_BW tyok_BW nm_BW hown hK hP hD hS 4 rfl rfl 2 (by decide) (hT _ m_206) (fun _ h9 => h9) rfl (ty := .boolean) (by decide +kernel) (nb_n hz) (nb_f hz) (by decide : 2 < 3) d_BW_bitsFrom_98 (fun H locs hP hD hS => ?_)
              have hP : va_P D cls (gC cI cL cC ad X len tk row dig pw used y14 lim) H := hP
              have hD : va_D A (gC cI cL cC ad X len tk row dig pw used y14 lim) := hD
              refine lv_goto (tgt := 132) hx hb d_BW_bitsFrom_101 rfl ?_
              exact hJ132 _ _ ls _ _ (lv_sub hl [0, 1, 2, 3] rfl) hP hD hS h
            obtain ⟨j93, e_j93, h⟩ := lt_o h
            have hJ93 : ∀ (lost_16 : Int32) (ls : Array Slot) (H : Heap) (locs : List Loc), lv_has ls 6 [(0, .ref (ad 4)), (1, .int a1), (2, .long x13), (4, .int y4)] → va_P D cls (gC cI cL cC ad X len tk row dig pw used lost_16 lim) H → va_D A (gC cI cL cC ad X len tk row dig pw used lost_16 lim) → va_S A s.heap H locs → j93 lost_16 = some r → W p l e ({ frames := 0, cells := 0, slots := 0, locals := 0 } : Room) s m args below meth c H locs 0 0 Q (F0 m 93 ls [.ref (ad 4)]) := by
              intro lost_16 ls H locs hl hP hD hS h
              rw [e_j93] at h
              refine lv_iconst hx hb d_BW_bitsFrom_93 ic_1 ?_
              refine lv_goto (tgt := 98) hx hb d_BW_bitsFrom_94 rfl ?_
              exact hJ98 _ _ ls _ _ (lv_sub hl [0, 1, 2, 3] rfl) hP hD hS h
            refine lv_if_ne (tgt := 93) hx hb d_BW_bitsFrom_70 rfl (fun hc => ?_) (fun hc => ?_)
            · have h := ite_t hc h
              exact hJ93 _ ls _ _ (lv_sub hl [2, 3, 0, 4] rfl) hP hD hS h
            · have hc := not_not_intro hc
              have h := ite_f hc h
              refine lv_aload_n hx hb d_BW_bitsFrom_73 rfl (lv_at hl 2 rfl) ?_
              refine va_get (D := D) (ci := 3) (C := R_BW) (T := T_BW) (N := 3) hx hb hT in_BW hown hK hP 4 rfl rfl 0 (by decide) (hT _ m_201) (fun _ h9 => h9) rfl d_BW_bitsFrom_74 ?_
              refine lv_iload hx hb d_BW_bitsFrom_77 (lv_at hl 4 rfl) ?_
              have hi := gz_n h
              have h := gz_h h
              refine va_lald hx hb hK hP 5 1 rfl rfl hi d_BW_bitsFrom_79 ?_
              refine lv_lconst hx hb d_BW_bitsFrom_80 lc_1 ?_
              refine lv_iload hx hb d_BW_bitsFrom_81 (lv_at hl 1 rfl) ?_
              refine lv_ineg hx hb d_BW_bitsFrom_83 ?_
              refine lv_lshl hx hb d_BW_bitsFrom_84 rfl ?_
              refine lv_lconst hx hb d_BW_bitsFrom_85 lc_1 ?_
              refine lv_lsub hx hb d_BW_bitsFrom_86 ?_
              refine lv_land hx hb d_BW_bitsFrom_87 ?_
              refine lv_lconst hx hb d_BW_bitsFrom_88 lc_0 ?_
              refine W.lcmp hx hb d_BW_bitsFrom_89 ?_
              refine lv_if_eq (tgt := 97) hx hb d_BW_bitsFrom_90 rfl (fun hc => ?_) (fun hc => ?_)
              · have hc := (lg_cmp_eq _ _).mp hc
                have h := ite_t hc h
                refine lv_iconst hx hb d_BW_bitsFrom_97 ic_0 ?_
                exact hJ98 _ _ ls _ _ (lv_sub hl [2, 3, 0, 4] rfl) hP hD hS h
              · have hc := mt (lg_cmp_eq _ _).mpr hc
                have h := ite_f hc h
                exact hJ93 _ ls _ _ (lv_sub hl [2, 3, 0, 4] rfl) hP hD hS h
        · have h := ite_f hc h
          refine lv_lload_n hx hb d_BW_bitsFrom_28 rfl (lv_at hl 3 rfl) ?_
          refine lv_aload_n hx hb d_BW_bitsFrom_29 rfl (lv_at hl 1 rfl) ?_
          refine va_get (D := D) (ci := 3) (C := R_BW) (T := T_BW) (N := 3) hx hb hT in_BW hown hK hP 4 rfl rfl 0 (by decide) (hT _ m_201) (fun _ h9 => h9) rfl d_BW_bitsFrom_30 ?_
          refine lv_iload hx hb d_BW_bitsFrom_33 (lv_at hl 4 rfl) ?_
          have hi := gz_n h
          have h := gz_h h
          refine va_lald hx hb hK hP 5 1 rfl rfl hi d_BW_bitsFrom_35 ?_
          refine lv_iload hx hb d_BW_bitsFrom_36 (lv_at hl 0 rfl) ?_
          refine lv_lshl hx hb d_BW_bitsFrom_38 rfl ?_
          refine lv_lor hx hb d_BW_bitsFrom_39 ?_
          refine lv_topl (fun x17 e_x17 => ?_)
          have h := lt_h e_x17 h
          refine lv_lstore_n hx hb d_BW_bitsFrom_40 rfl hl (by decide) rfl (fun ls hl => ?_)
          have hl : lv_has ls 6 [(2, .long x17), (5, .int x6), (0, .ref (ad 4)), (1, .int a1), (4, .int y4)] := hl
          refine lv_goto (tgt := 132) hx hb d_BW_bitsFrom_41 rfl ?_
          exact hJ132 _ _ ls _ _ (lv_sub hl [2, 3, 0, 4] rfl) hP hD hS h
  exact hL5 n _ _ _ ls _ _ (lv_sub hl [2, 3, 1, 0] rfl) hP hD hS h
-- BW_floor
theorem d_BW_floor_0 : decode b_BW_floor 0 = .ok (.iload_n 3, 1) := by decide +kernel
theorem d_BW_floor_1 : decode b_BW_floor 1 = .ok (.iload 4, 2) := by decide +kernel
theorem d_BW_floor_3 : decode b_BW_floor 3 = .ok (.iadd, 1) := by decide +kernel
theorem d_BW_floor_4 : decode b_BW_floor 4 = .ok (.istore 5, 2) := by decide +kernel
theorem d_BW_floor_6 : decode b_BW_floor 6 = .ok (.aload_n 0, 1) := by decide +kernel
theorem d_BW_floor_7 : decode b_BW_floor 7 = .ok (.iconst 0, 1) := by decide +kernel
theorem d_BW_floor_8 : decode b_BW_floor 8 = .ok (.putfield 15, 3) := by decide +kernel
theorem d_BW_floor_11 : decode b_BW_floor 11 = .ok (.aload_n 0, 1) := by decide +kernel
theorem d_BW_floor_12 : decode b_BW_floor 12 = .ok (.lload_n 1, 1) := by decide +kernel
theorem d_BW_floor_13 : decode b_BW_floor 13 = .ok (.iload 5, 2) := by decide +kernel
theorem d_BW_floor_15 : decode b_BW_floor 15 = .ok (.iconst 0, 1) := by decide +kernel
theorem d_BW_floor_16 : decode b_BW_floor 16 = .ok (.invokestatic 19, 3) := by decide +kernel
theorem d_BW_floor_19 : decode b_BW_floor 19 = .ok (.invokevirtual 25, 3) := by decide +kernel
theorem d_BW_floor_22 : decode b_BW_floor 22 = .ok (.iload 4, 2) := by decide +kernel
theorem d_BW_floor_24 : decode b_BW_floor 24 = .ok (.istore 6, 2) := by decide +kernel
theorem d_BW_floor_26 : decode b_BW_floor 26 = .ok (.iload 6, 2) := by decide +kernel
theorem d_BW_floor_28 : decode b_BW_floor 28 = .ok (.ifCond .le 23, 3) := by decide +kernel
theorem d_BW_floor_31 : decode b_BW_floor 31 = .ok (.aload_n 0, 1) := by decide +kernel
theorem d_BW_floor_32 : decode b_BW_floor 32 = .ok (.iload 6, 2) := by decide +kernel
theorem d_BW_floor_34 : decode b_BW_floor 34 = .ok (.bipush 13, 2) := by decide +kernel
theorem d_BW_floor_36 : decode b_BW_floor 36 = .ok (.invokestatic 29, 3) := by decide +kernel
theorem d_BW_floor_39 : decode b_BW_floor 39 = .ok (.invokestatic 32, 3) := by decide +kernel
theorem d_BW_floor_42 : decode b_BW_floor 42 = .ok (.invokevirtual 36, 3) := by decide +kernel
theorem d_BW_floor_45 : decode b_BW_floor 45 = .ok (.iinc 6 (-13), 3) := by decide +kernel
theorem d_BW_floor_48 : decode b_BW_floor 48 = .ok (.goto (-22), 3) := by decide +kernel
theorem d_BW_floor_51 : decode b_BW_floor 51 = .ok (.iload 4, 2) := by decide +kernel
theorem d_BW_floor_53 : decode b_BW_floor 53 = .ok (.ineg, 1) := by decide +kernel
theorem d_BW_floor_54 : decode b_BW_floor 54 = .ok (.istore 6, 2) := by decide +kernel
theorem d_BW_floor_56 : decode b_BW_floor 56 = .ok (.iload 6, 2) := by decide +kernel
theorem d_BW_floor_58 : decode b_BW_floor 58 = .ok (.ifCond .le 23, 3) := by decide +kernel
theorem d_BW_floor_61 : decode b_BW_floor 61 = .ok (.aload_n 0, 1) := by decide +kernel
theorem d_BW_floor_62 : decode b_BW_floor 62 = .ok (.iload 6, 2) := by decide +kernel
theorem d_BW_floor_64 : decode b_BW_floor 64 = .ok (.bipush 13, 2) := by decide +kernel
theorem d_BW_floor_66 : decode b_BW_floor 66 = .ok (.invokestatic 29, 3) := by decide +kernel
theorem d_BW_floor_69 : decode b_BW_floor 69 = .ok (.invokestatic 32, 3) := by decide +kernel
theorem d_BW_floor_72 : decode b_BW_floor 72 = .ok (.invokevirtual 40, 3) := by decide +kernel
theorem d_BW_floor_75 : decode b_BW_floor 75 = .ok (.iinc 6 (-13), 3) := by decide +kernel
theorem d_BW_floor_78 : decode b_BW_floor 78 = .ok (.goto (-22), 3) := by decide +kernel
theorem d_BW_floor_81 : decode b_BW_floor 81 = .ok (.aload_n 0, 1) := by decide +kernel
theorem d_BW_floor_82 : decode b_BW_floor 82 = .ok (.iload 5, 2) := by decide +kernel
theorem d_BW_floor_84 : decode b_BW_floor 84 = .ok (.ineg, 1) := by decide +kernel
theorem d_BW_floor_85 : decode b_BW_floor 85 = .ok (.iconst 0, 1) := by decide +kernel
theorem d_BW_floor_86 : decode b_BW_floor 86 = .ok (.invokestatic 19, 3) := by decide +kernel
theorem d_BW_floor_89 : decode b_BW_floor 89 = .ok (.invokevirtual 43, 3) := by decide +kernel
theorem d_BW_floor_92 : decode b_BW_floor 92 = .ok (.lreturn, 1) := by decide +kernel
def F_BW_floor_L56 (x1 : Int32) (j81 : (Int32 → Int32 → (Nat → Int64) → Option (Int64 × Int32 × Int32 × (Nat → Int64)))) : Nat → Int32 → Int32 → Int32 → (Nat → Int64) → Option (Int64 × Int32 × Int32 × (Nat → Int64))
  | 0, _, _, _, _ => none
  | n+1, y11, used_12, lost_13, lim_14 => if y11 ≤ 0 then (j81 used_12 lost_13 lim_14) else ((F_BW_powerOfFive n (if (13 : Int32) < y11 then (13 : Int32) else y11)).bind fun x15 => (F_BW_divide n used_12 lost_13 lim_14 x15).bind fun x16 => lt_ (y11 + Int32.ofInt (-13)) fun x17 => F_BW_floor_L56 x1 j81 n x17 x16.1 x16.2.1 x16.2.2)
def F_BW_floor_L26 (a3 : Int32) (x1 : Int32) (j51 : (Int32 → Int32 → (Nat → Int64) → Option (Int64 × Int32 × Int32 × (Nat → Int64)))) : Nat → Int32 → Int32 → Int32 → (Nat → Int64) → Option (Int64 × Int32 × Int32 × (Nat → Int64))
  | 0, _, _, _, _ => none
  | n+1, y18, used_19, lost_20, lim_21 => if y18 ≤ 0 then (j51 used_19 lost_20 lim_21) else ((F_BW_powerOfFive n (if (13 : Int32) < y18 then (13 : Int32) else y18)).bind fun x22 => (F_BW_multiply n used_19 lim_21 x22).bind fun x23 => lt_ (y18 + Int32.ofInt (-13)) fun x24 => F_BW_floor_L26 a3 x1 j51 n x24 x23.1 lost_20 x23.2)
def F_BW_floor (n : Nat) (used : Int32) (lost : Int32) (lim : Nat → Int64) (a1 : Int64) (a2 : Int32) (a3 : Int32) : Option (Int64 × Int32 × Int32 × (Nat → Int64)) := lt_ (a2 + a3) fun x1 => (F_BW_place n used lim a1 (if x1 < (0 : Int32) then (0 : Int32) else x1)).bind fun x2 => lt_ (fun (used_3 : Int32) (lost_4 : Int32) (lim_5 : (Nat → Int64)) => lt_ (-a3) fun x6 => lt_ (fun (used_7 : Int32) (lost_8 : Int32) (lim_9 : (Nat → Int64)) => (F_BW_bitsFrom n used_7 lost_8 lim_9 (if (-x1) < (0 : Int32) then (0 : Int32) else -x1)).bind fun x10 => some (x10.1, used_7, x10.2, lim_9)) fun j81 => F_BW_floor_L56 x1 j81 n x6 used_3 lost_4 lim_5) fun j51 => F_BW_floor_L26 a3 x1 j51 n a3 x2.1 (0 : Int32) x2.2
set_option maxHeartbeats 4000000 in
set_option maxRecDepth 100000 in
theorem c_BW_floor (l : Launch) (D : va_G) (A : Nat → Prop) (cI cL cC : ClassId) (ad : Nat → Nat) (X : va_W) (len : Int32) (tk : Int32) (row : Nat → Int32) (dig : Int64) (pw : Int32) (used : Int32) (lost : Int32) (lim : Nat → Int64) (n : Nat) (a1 : Int64) (a2 : Int32) (a3 : Int32) (r : Int64 × Int32 × Int32 × (Nat → Int64)) (h : F_BW_floor n used lost lim a1 a2 a3 = some r) : Met l y_BW_floor (.code y_BW_floor b_BW_floor 7 (some .long) :: BIG) ({ frames := 2, cells := 0, slots := 0, locals := 47 } : Room) (va_Pc [.ref (ad 4), .long a1, .int a2, .int a3] (gPre D A (tysV cI cL cC) (gC cI cL cC ad X len tk row dig pw used lost lim))) (gQ D A (some (.long r.1)) (gC cI cL cC ad X len tk row dig pw r.2.1 r.2.2.1 r.2.2.2)) 0 0 A := by
  refine gOpen_l rfl (Nat.le_of_ble_eq_true rfl) ?_
  intro p e s m args below meth c Q ls hx hb hml hown hts hT hNB hP hK hD hl hret
  have hown : s.vm.findClass R_BW = some m.cls := hown
  have hS : va_S A s.heap s.heap [] := va_S.rf
  have hl : lv_has ls 7 [(0, .ref (ad 4)), (1, .long a1), (3, .int a2), (4, .int a3)] := hl
  have h : (lt_ (a2 + a3) fun x1 => (F_BW_place n used lim a1 (if x1 < (0 : Int32) then (0 : Int32) else x1)).bind fun x2 => lt_ (fun (used_3 : Int32) (lost_4 : Int32) (lim_5 : (Nat → Int64)) => lt_ (-a3) fun x6 => lt_ (fun (used_7 : Int32) (lost_8 : Int32) (lim_9 : (Nat → Int64)) => (F_BW_bitsFrom n used_7 lost_8 lim_9 (if (-x1) < (0 : Int32) then (0 : Int32) else -x1)).bind fun x10 => some (x10.1, used_7, x10.2, lim_9)) fun j81 => F_BW_floor_L56 x1 j81 n x6 used_3 lost_4 lim_5) fun j51 => F_BW_floor_L26 a3 x1 j51 n a3 x2.1 (0 : Int32) x2.2) = some r := h
  refine lv_iload_n hx hb d_BW_floor_0 rfl (lv_at hl 2 rfl) ?_
  refine lv_iload hx hb d_BW_floor_1 (lv_at hl 3 rfl) ?_
  refine lv_iadd hx hb d_BW_floor_3 ?_
  refine lv_topi (fun x1 e_x1 => ?_)
  have h := lt_h e_x1 h
  refine lv_istore hx hb d_BW_floor_4 hl (by decide) rfl (fun ls hl => ?_)
  have hl : lv_has ls 7 [(5, .int x1), (0, .ref (ad 4)), (1, .long a1), (3, .int a2), (4, .int a3)] := hl
  refine lv_aload_n hx hb d_BW_floor_6 rfl (lv_at hl 1 rfl) ?_
  refine lv_iconst hx hb d_BW_floor_7 ic_0 ?_
  refine va_put (D := D) (ci := 3) (C := R_BW) (T := T_BW) (N := 3) hx hb hT in_BW ty_BW tyok_BW nm_BW hown hK hP hD hS 4 rfl rfl 2 (by decide) (hT _ m_206) (fun _ h9 => h9) rfl (ty := .boolean) (by decide +kernel) (nb_1 (Or.inl rfl)) (nb_2 (Or.inl rfl)) (by decide : 2 < 3) d_BW_floor_8 (fun H locs hP hD hS => ?_)
  have hP : va_P D cls (gC cI cL cC ad X len tk row dig pw used (0 : Int32) lim) H := hP
  have hD : va_D A (gC cI cL cC ad X len tk row dig pw used (0 : Int32) lim) := hD
  refine lv_aload_n hx hb d_BW_floor_11 rfl (lv_at hl 1 rfl) ?_
  refine lv_lload_n hx hb d_BW_floor_12 rfl (lv_at hl 2 rfl) ?_
  refine lv_iload hx hb d_BW_floor_13 (lv_at hl 0 rfl) ?_
  refine lv_iconst hx hb d_BW_floor_15 ic_0 ?_
  refine va_mmax hx hb (hml.trans hl.1.symm) hown (hT _ m_207) (hT _ m_27) (hT _ m_28) (hT _ m_29) (Nat.le_of_ble_eq_true rfl) (Nat.le_of_ble_eq_true rfl) (Nat.zero_le _) (Nat.zero_le _) d_BW_floor_16 ?_
  obtain ⟨x2, e_x2, h⟩ := bd_o h
  refine q_GV (D := D) (A := A) (C := R_BW) (b := ad 4) (As := [.long a1, .int (if x1 < (0 : Int32) then (0 : Int32) else x1)]) (rest := []) (n := 2) hx hb hml hown hts (c_BW_place l D A cI cL cC ad X len tk row dig pw used (0 : Int32) lim n a1 (if x1 < (0 : Int32) then (0 : Int32) else x1) x2 e_x2) rfl rfl m_208 m_209 m_210 m_211 m_205 (by decide +kernel) ⟨Nat.le_of_ble_eq_true rfl, Nat.le_of_ble_eq_true rfl⟩ (va_recv hK hP (ci := 3) rfl (q0 := 4) rfl) hNB hK hP hD hS rfl hl.1 rfl (Nat.le_of_ble_eq_true rfl) d_BW_floor_19 ⟨Nat.zero_le _, Nat.zero_le _⟩ (fun H locs hP hD hS => ?_)
  have hP : va_P D cls (gC cI cL cC ad X len tk row dig pw x2.1 (0 : Int32) x2.2) H := hP
  have hD : va_D A (gC cI cL cC ad X len tk row dig pw x2.1 (0 : Int32) x2.2) := hD
  refine lv_iload hx hb d_BW_floor_22 (lv_at hl 4 rfl) ?_
  refine lv_istore hx hb d_BW_floor_24 hl (by decide) rfl (fun ls hl => ?_)
  have hl : lv_has ls 7 [(6, .int a3), (5, .int x1), (0, .ref (ad 4)), (1, .long a1), (3, .int a2), (4, .int a3)] := hl
  obtain ⟨j51, e_j51, h⟩ := lt_o h
  have hJ51 : ∀ (used_3 : Int32) (lost_4 : Int32) (lim_5 : (Nat → Int64)) (ls : Array Slot) (H : Heap) (locs : List Loc), lv_has ls 7 [(0, .ref (ad 4)), (4, .int a3), (5, .int x1)] → va_P D cls (gC cI cL cC ad X len tk row dig pw used_3 lost_4 lim_5) H → va_D A (gC cI cL cC ad X len tk row dig pw used_3 lost_4 lim_5) → va_S A s.heap H locs → j51 used_3 lost_4 lim_5 = some r → W p l e ({ frames := 2, cells := 0, slots := 0, locals := 47 } : Room) s m args below meth c H locs 0 0 Q (F0 m 51 ls []) := by
    intro used_3 lost_4 lim_5 ls H locs hl hP hD hS h
    rw [e_j51] at h
    refine lv_iload hx hb d_BW_floor_51 (lv_at hl 1 rfl) ?_
    refine lv_ineg hx hb d_BW_floor_53 ?_
    refine lv_topi (fun x6 e_x6 => ?_)
    have h := lt_h e_x6 h
    refine lv_istore hx hb d_BW_floor_54 hl (by decide) rfl (fun ls hl => ?_)
    have hl : lv_has ls 7 [(6, .int x6), (0, .ref (ad 4)), (4, .int a3), (5, .int x1)] := hl
    obtain ⟨j81, e_j81, h⟩ := lt_o h
    have hJ81 : ∀ (used_7 : Int32) (lost_8 : Int32) (lim_9 : (Nat → Int64)) (ls : Array Slot) (H : Heap) (locs : List Loc), lv_has ls 7 [(0, .ref (ad 4)), (5, .int x1)] → va_P D cls (gC cI cL cC ad X len tk row dig pw used_7 lost_8 lim_9) H → va_D A (gC cI cL cC ad X len tk row dig pw used_7 lost_8 lim_9) → va_S A s.heap H locs → j81 used_7 lost_8 lim_9 = some r → W p l e ({ frames := 2, cells := 0, slots := 0, locals := 47 } : Room) s m args below meth c H locs 0 0 Q (F0 m 81 ls []) := by
      intro used_7 lost_8 lim_9 ls H locs hl hP hD hS h
      rw [e_j81] at h
      refine lv_aload_n hx hb d_BW_floor_81 rfl (lv_at hl 0 rfl) ?_
      refine lv_iload hx hb d_BW_floor_82 (lv_at hl 1 rfl) ?_
      refine lv_ineg hx hb d_BW_floor_84 ?_
      refine lv_iconst hx hb d_BW_floor_85 ic_0 ?_
      refine va_mmax hx hb (hml.trans hl.1.symm) hown (hT _ m_207) (hT _ m_27) (hT _ m_28) (hT _ m_29) (Nat.le_of_ble_eq_true rfl) (Nat.le_of_ble_eq_true rfl) (Nat.zero_le _) (Nat.zero_le _) d_BW_floor_86 ?_
      obtain ⟨x10, e_x10, h⟩ := bd_o h
      refine q_GV (D := D) (A := A) (C := R_BW) (b := ad 4) (As := [.int (if (-x1) < (0 : Int32) then (0 : Int32) else -x1)]) (rest := []) (n := 1) hx hb hml hown hts (c_BW_bitsFrom l D A cI cL cC ad X len tk row dig pw used_7 lost_8 lim_9 n (if (-x1) < (0 : Int32) then (0 : Int32) else -x1) x10 e_x10) rfl rfl m_212 m_213 m_214 m_215 m_205 (by decide +kernel) ⟨Nat.le_of_ble_eq_true rfl, Nat.le_of_ble_eq_true rfl⟩ (va_recv hK hP (ci := 3) rfl (q0 := 4) rfl) hNB hK hP hD hS rfl hl.1 rfl (Nat.le_of_ble_eq_true rfl) d_BW_floor_89 ⟨Nat.zero_le _, Nat.zero_le _⟩ (fun H locs hP hD hS => ?_)
      have hP : va_P D cls (gC cI cL cC ad X len tk row dig pw used_7 x10.2 lim_9) H := hP
      have hD : va_D A (gC cI cL cC ad X len tk row dig pw used_7 x10.2 lim_9) := hD
      obtain rfl := Option.some.inj h
      exact hret 92 ls _ _ _ rfl hP hD hS d_BW_floor_92
    have hL56 : ∀ (n : Nat) (y11 : Int32) (used_12 : Int32) (lost_13 : Int32) (lim_14 : (Nat → Int64)) (ls : Array Slot) (H : Heap) (locs : List Loc), lv_has ls 7 [(0, .ref (ad 4)), (5, .int x1), (6, .int y11)] → va_P D cls (gC cI cL cC ad X len tk row dig pw used_12 lost_13 lim_14) H → va_D A (gC cI cL cC ad X len tk row dig pw used_12 lost_13 lim_14) → va_S A s.heap H locs → F_BW_floor_L56 x1 j81 n y11 used_12 lost_13 lim_14 = some r → W p l e ({ frames := 2, cells := 0, slots := 0, locals := 47 } : Room) s m args below meth c H locs 0 0 Q (F0 m 56 ls []) := by
      intro n
      induction n with
      | zero => intro y11 used_12 lost_13 lim_14 ls H locs hl hP hD hS h; exact no_s h
      | succ n ih =>
        intro y11 used_12 lost_13 lim_14 ls H locs hl hP hD hS h
        have h : (if y11 ≤ 0 then (j81 used_12 lost_13 lim_14) else ((F_BW_powerOfFive n (if (13 : Int32) < y11 then (13 : Int32) else y11)).bind fun x15 => (F_BW_divide n used_12 lost_13 lim_14 x15).bind fun x16 => lt_ (y11 + Int32.ofInt (-13)) fun x17 => F_BW_floor_L56 x1 j81 n x17 x16.1 x16.2.1 x16.2.2)) = some r := h
        refine lv_iload hx hb d_BW_floor_56 (lv_at hl 2 rfl) ?_
        refine lv_if_le (tgt := 81) hx hb d_BW_floor_58 rfl (fun hc => ?_) (fun hc => ?_)
        · have h := ite_t hc h
          exact hJ81 _ _ _ ls _ _ (lv_sub hl [0, 1] rfl) hP hD hS h
        · have h := ite_f hc h
          refine lv_aload_n hx hb d_BW_floor_61 rfl (lv_at hl 0 rfl) ?_
          refine lv_iload hx hb d_BW_floor_62 (lv_at hl 2 rfl) ?_
          refine lv_bipush hx hb d_BW_floor_64 bp_13 ?_
          refine va_mmin hx hb (hml.trans hl.1.symm) hown (hT _ m_199) (hT _ m_101) (hT _ m_28) (hT _ m_102) (Nat.le_of_ble_eq_true rfl) (Nat.le_of_ble_eq_true rfl) (Nat.zero_le _) (Nat.zero_le _) d_BW_floor_66 ?_
          obtain ⟨x15, e_x15, h⟩ := bd_o h
          refine q_S (As := [.int (if (13 : Int32) < y11 then (13 : Int32) else y11)]) (rest := [.ref (ad 4)]) (n := 1) hx hb hml hown hts (c_BW_powerOfFive l n (if (13 : Int32) < y11 then (13 : Int32) else y11) _ e_x15) rfl rfl m_216 m_217 m_218 m_205 (by decide +kernel) ⟨Nat.le_of_ble_eq_true rfl, Nat.le_of_ble_eq_true rfl⟩ (p0_bl) (fun U hU hW => p0_mv hU hW hNB) rfl hl.1 rfl (Nat.le_of_ble_eq_true rfl) d_BW_floor_69 ⟨Nat.zero_le _, Nat.zero_le _⟩ ?_
          obtain ⟨x16, e_x16, h⟩ := bd_o h
          refine q_GV (D := D) (A := A) (C := R_BW) (b := ad 4) (As := [.long x15]) (rest := []) (n := 1) hx hb hml hown hts (c_BW_divide l D A cI cL cC ad X len tk row dig pw used_12 lost_13 lim_14 n x15 x16 e_x16) rfl rfl m_219 m_220 m_221 m_222 m_205 (by decide +kernel) ⟨Nat.le_of_ble_eq_true rfl, Nat.le_of_ble_eq_true rfl⟩ (va_recv hK hP (ci := 3) rfl (q0 := 4) rfl) hNB hK hP hD hS rfl hl.1 rfl (Nat.le_of_ble_eq_true rfl) d_BW_floor_72 ⟨Nat.zero_le _, Nat.zero_le _⟩ (fun H locs hP hD hS => ?_)
          have hP : va_P D cls (gC cI cL cC ad X len tk row dig pw x16.1 x16.2.1 x16.2.2) H := hP
          have hD : va_D A (gC cI cL cC ad X len tk row dig pw x16.1 x16.2.1 x16.2.2) := hD
          obtain ⟨x17, e_x17⟩ : ∃ z, z = y11 + Int32.ofInt (-13) := ⟨_, rfl⟩
          have h := lt_h e_x17 h
          refine lv_iinc (k := 2) hx hb d_BW_floor_75 hl rfl e_x17.symm (by decide) rfl (fun ls hl => ?_)
          have hl : lv_has ls 7 [(6, .int x17), (0, .ref (ad 4)), (5, .int x1)] := hl
          refine lv_goto (tgt := 56) hx hb d_BW_floor_78 rfl ?_
          exact ih _ _ _ _ ls _ _ (lv_sub hl [1, 2, 0] rfl) hP hD hS h
    exact hL56 n _ _ _ _ ls _ _ (lv_sub hl [1, 3, 0] rfl) hP hD hS h
  have hL26 : ∀ (n : Nat) (y18 : Int32) (used_19 : Int32) (lost_20 : Int32) (lim_21 : (Nat → Int64)) (ls : Array Slot) (H : Heap) (locs : List Loc), lv_has ls 7 [(0, .ref (ad 4)), (4, .int a3), (5, .int x1), (6, .int y18)] → va_P D cls (gC cI cL cC ad X len tk row dig pw used_19 lost_20 lim_21) H → va_D A (gC cI cL cC ad X len tk row dig pw used_19 lost_20 lim_21) → va_S A s.heap H locs → F_BW_floor_L26 a3 x1 j51 n y18 used_19 lost_20 lim_21 = some r → W p l e ({ frames := 2, cells := 0, slots := 0, locals := 47 } : Room) s m args below meth c H locs 0 0 Q (F0 m 26 ls []) := by
    intro n
    induction n with
    | zero => intro y18 used_19 lost_20 lim_21 ls H locs hl hP hD hS h; exact no_s h
    | succ n ih =>
      intro y18 used_19 lost_20 lim_21 ls H locs hl hP hD hS h
      have h : (if y18 ≤ 0 then (j51 used_19 lost_20 lim_21) else ((F_BW_powerOfFive n (if (13 : Int32) < y18 then (13 : Int32) else y18)).bind fun x22 => (F_BW_multiply n used_19 lim_21 x22).bind fun x23 => lt_ (y18 + Int32.ofInt (-13)) fun x24 => F_BW_floor_L26 a3 x1 j51 n x24 x23.1 lost_20 x23.2)) = some r := h
      refine lv_iload hx hb d_BW_floor_26 (lv_at hl 3 rfl) ?_
      refine lv_if_le (tgt := 51) hx hb d_BW_floor_28 rfl (fun hc => ?_) (fun hc => ?_)
      · have h := ite_t hc h
        exact hJ51 _ _ _ ls _ _ (lv_sub hl [0, 1, 2] rfl) hP hD hS h
      · have h := ite_f hc h
        refine lv_aload_n hx hb d_BW_floor_31 rfl (lv_at hl 0 rfl) ?_
        refine lv_iload hx hb d_BW_floor_32 (lv_at hl 3 rfl) ?_
        refine lv_bipush hx hb d_BW_floor_34 bp_13 ?_
        refine va_mmin hx hb (hml.trans hl.1.symm) hown (hT _ m_199) (hT _ m_101) (hT _ m_28) (hT _ m_102) (Nat.le_of_ble_eq_true rfl) (Nat.le_of_ble_eq_true rfl) (Nat.zero_le _) (Nat.zero_le _) d_BW_floor_36 ?_
        obtain ⟨x22, e_x22, h⟩ := bd_o h
        refine q_S (As := [.int (if (13 : Int32) < y18 then (13 : Int32) else y18)]) (rest := [.ref (ad 4)]) (n := 1) hx hb hml hown hts (c_BW_powerOfFive l n (if (13 : Int32) < y18 then (13 : Int32) else y18) _ e_x22) rfl rfl m_216 m_217 m_218 m_205 (by decide +kernel) ⟨Nat.le_of_ble_eq_true rfl, Nat.le_of_ble_eq_true rfl⟩ (p0_bl) (fun U hU hW => p0_mv hU hW hNB) rfl hl.1 rfl (Nat.le_of_ble_eq_true rfl) d_BW_floor_39 ⟨Nat.zero_le _, Nat.zero_le _⟩ ?_
        obtain ⟨x23, e_x23, h⟩ := bd_o h
        refine q_GV (D := D) (A := A) (C := R_BW) (b := ad 4) (As := [.long x22]) (rest := []) (n := 1) hx hb hml hown hts (c_BW_multiply l D A cI cL cC ad X len tk row dig pw used_19 lost_20 lim_21 n x22 x23 e_x23) rfl rfl m_223 m_224 m_225 m_226 m_205 (by decide +kernel) ⟨Nat.le_of_ble_eq_true rfl, Nat.le_of_ble_eq_true rfl⟩ (va_recv hK hP (ci := 3) rfl (q0 := 4) rfl) hNB hK hP hD hS rfl hl.1 rfl (Nat.le_of_ble_eq_true rfl) d_BW_floor_42 ⟨Nat.zero_le _, Nat.zero_le _⟩ (fun H locs hP hD hS => ?_)
        have hP : va_P D cls (gC cI cL cC ad X len tk row dig pw x23.1 lost_20 x23.2) H := hP
        have hD : va_D A (gC cI cL cC ad X len tk row dig pw x23.1 lost_20 x23.2) := hD
        obtain ⟨x24, e_x24⟩ : ∃ z, z = y18 + Int32.ofInt (-13) := ⟨_, rfl⟩
        have h := lt_h e_x24 h
        refine lv_iinc (k := 3) hx hb d_BW_floor_45 hl rfl e_x24.symm (by decide) rfl (fun ls hl => ?_)
        have hl : lv_has ls 7 [(6, .int x24), (0, .ref (ad 4)), (4, .int a3), (5, .int x1)] := hl
        refine lv_goto (tgt := 26) hx hb d_BW_floor_48 rfl ?_
        exact ih _ _ _ _ ls _ _ (lv_sub hl [1, 2, 3, 0] rfl) hP hD hS h
  exact hL26 n _ _ _ _ ls _ _ (lv_sub hl [2, 5, 1, 0] rfl) hP hD hS h
-- BW_isExact
theorem d_BW_isExact_0 : decode b_BW_isExact 0 = .ok (.aload_n 0, 1) := by decide +kernel
theorem d_BW_isExact_1 : decode b_BW_isExact 1 = .ok (.getfield 15, 3) := by decide +kernel
theorem d_BW_isExact_4 : decode b_BW_isExact 4 = .ok (.ifCond .ne 7, 3) := by decide +kernel
theorem d_BW_isExact_7 : decode b_BW_isExact 7 = .ok (.iconst 1, 1) := by decide +kernel
theorem d_BW_isExact_8 : decode b_BW_isExact 8 = .ok (.goto 4, 3) := by decide +kernel
theorem d_BW_isExact_11 : decode b_BW_isExact 11 = .ok (.iconst 0, 1) := by decide +kernel
theorem d_BW_isExact_12 : decode b_BW_isExact 12 = .ok (.ireturn, 1) := by decide +kernel
def F_BW_isExact (lost : Int32) : Int32 := lt_ (if ¬ lost = 0 then (0 : Int32) else (1 : Int32)) fun x1 => x1
set_option maxHeartbeats 4000000 in
set_option maxRecDepth 100000 in
theorem c_BW_isExact (l : Launch) (D : va_G) (A : Nat → Prop) (cI cL cC : ClassId) (ad : Nat → Nat) (X : va_W) (len : Int32) (tk : Int32) (row : Nat → Int32) (dig : Int64) (pw : Int32) (used : Int32) (lost : Int32) (lim : Nat → Int64) (r : Int32) (h : F_BW_isExact lost = r) : Met l y_BW_isExact (.code y_BW_isExact b_BW_isExact 1 (some .boolean) :: BIG) ({ frames := 0, cells := 0, slots := 0, locals := 0 } : Room) (va_Pc [.ref (ad 4)] (gPre D A (tysV cI cL cC) (gC cI cL cC ad X len tk row dig pw used lost lim))) (gQ D A (some (.int r)) (gC cI cL cC ad X len tk row dig pw used lost lim)) 0 0 A := by
  refine gOpen_z rfl (Nat.le_of_ble_eq_true rfl) ?_
  intro p e s m args below meth c Q ls hx hb hml hown hts hT hNB hP hK hD hl hret
  have hown : s.vm.findClass R_BW = some m.cls := hown
  have hS : va_S A s.heap s.heap [] := va_S.rf
  have hl : lv_has ls 1 [(0, .ref (ad 4))] := hl
  have h : (lt_ (if ¬ lost = 0 then (0 : Int32) else (1 : Int32)) fun x1 => x1) = r := h
  refine lv_aload_n hx hb d_BW_isExact_0 rfl (lv_at hl 0 rfl) ?_
  refine va_get (D := D) (ci := 3) (C := R_BW) (T := T_BW) (N := 3) hx hb hT in_BW hown hK hP 4 rfl rfl 2 (by decide) (hT _ m_206) (fun _ h9 => h9) rfl d_BW_isExact_1 ?_
  obtain ⟨x1, e_x1, h⟩ := lt_o h
  have hJ12 : ∀ (x1' : Int32) (ls : Array Slot), x1 = x1' → lv_has ls 1 [] → W p l e ({ frames := 0, cells := 0, slots := 0, locals := 0 } : Room) s m args below meth c s.heap [] 0 0 Q (F0 m 12 ls [.int x1']) := by
    intro x1' ls q_x1 hl
    subst q_x1
    subst h
    exact hret 12 ls _ _ _ rfl hP hD hS d_BW_isExact_12 (nb_1 ((by rw [e_x1]; exact ite01 (Or.inl rfl) (Or.inr rfl))))
  refine lv_if_ne (tgt := 11) hx hb d_BW_isExact_4 rfl (fun hc => ?_) (fun hc => ?_)
  · have e_x1 := e_x1.trans (if_pos hc)
    refine lv_iconst hx hb d_BW_isExact_11 ic_0 ?_
    exact hJ12 _ ls e_x1 (lv_sub hl [] rfl)
  · have hc := not_not_intro hc
    have e_x1 := e_x1.trans (if_neg hc)
    refine lv_iconst hx hb d_BW_isExact_7 ic_1 ?_
    refine lv_goto (tgt := 12) hx hb d_BW_isExact_8 rfl ?_
    exact hJ12 _ ls e_x1 (lv_sub hl [] rfl)
-- SD_digits
theorem d_SD_digits_0 : decode b_SD_digits 0 = .ok (.aload_n 0, 1) := by decide +kernel
theorem d_SD_digits_1 : decode b_SD_digits 1 = .ok (.getfield 16, 3) := by decide +kernel
theorem d_SD_digits_4 : decode b_SD_digits 4 = .ok (.lreturn, 1) := by decide +kernel
def F_SD_digits (dig : Int64) : Int64 := dig
set_option maxHeartbeats 4000000 in
set_option maxRecDepth 100000 in
theorem c_SD_digits (l : Launch) (D : va_G) (A : Nat → Prop) (cI cL cC : ClassId) (ad : Nat → Nat) (X : va_W) (len : Int32) (tk : Int32) (row : Nat → Int32) (dig : Int64) (pw : Int32) (used : Int32) (lost : Int32) (lim : Nat → Int64) (r : Int64) (h : F_SD_digits dig = r) : Met l y_SD_digits (.code y_SD_digits b_SD_digits 1 (some .long) :: BIG) ({ frames := 0, cells := 0, slots := 0, locals := 0 } : Room) (va_Pc [.ref (ad 3)] (gPre D A (tysV cI cL cC) (gC cI cL cC ad X len tk row dig pw used lost lim))) (gQ D A (some (.long r)) (gC cI cL cC ad X len tk row dig pw used lost lim)) 0 0 A := by
  refine gOpen_l rfl (Nat.le_of_ble_eq_true rfl) ?_
  intro p e s m args below meth c Q ls hx hb hml hown hts hT hNB hP hK hD hl hret
  have hown : s.vm.findClass R_SD = some m.cls := hown
  have hS : va_S A s.heap s.heap [] := va_S.rf
  have hl : lv_has ls 1 [(0, .ref (ad 3))] := hl
  have h : (dig) = r := h
  refine lv_aload_n hx hb d_SD_digits_0 rfl (lv_at hl 0 rfl) ?_
  refine va_get (D := D) (ci := 2) (C := R_SD) (T := T_SD) (N := 3) hx hb hT in_SD hown hK hP 3 rfl rfl 1 (by decide) (hT _ m_227) (fun _ h9 => h9) rfl d_SD_digits_1 ?_
  subst h
  exact hret 4 ls _ _ _ rfl hP hD hS d_SD_digits_4
-- SD_power
theorem d_SD_power_0 : decode b_SD_power 0 = .ok (.aload_n 0, 1) := by decide +kernel
theorem d_SD_power_1 : decode b_SD_power 1 = .ok (.getfield 20, 3) := by decide +kernel
theorem d_SD_power_4 : decode b_SD_power 4 = .ok (.ireturn, 1) := by decide +kernel
def F_SD_power (pw : Int32) : Int32 := pw
set_option maxHeartbeats 4000000 in
set_option maxRecDepth 100000 in
theorem c_SD_power (l : Launch) (D : va_G) (A : Nat → Prop) (cI cL cC : ClassId) (ad : Nat → Nat) (X : va_W) (len : Int32) (tk : Int32) (row : Nat → Int32) (dig : Int64) (pw : Int32) (used : Int32) (lost : Int32) (lim : Nat → Int64) (r : Int32) (h : F_SD_power pw = r) : Met l y_SD_power (.code y_SD_power b_SD_power 1 (some .int) :: BIG) ({ frames := 0, cells := 0, slots := 0, locals := 0 } : Room) (va_Pc [.ref (ad 3)] (gPre D A (tysV cI cL cC) (gC cI cL cC ad X len tk row dig pw used lost lim))) (gQ D A (some (.int r)) (gC cI cL cC ad X len tk row dig pw used lost lim)) 0 0 A := by
  refine gOpen_i rfl (Nat.le_of_ble_eq_true rfl) ?_
  intro p e s m args below meth c Q ls hx hb hml hown hts hT hNB hP hK hD hl hret
  have hown : s.vm.findClass R_SD = some m.cls := hown
  have hS : va_S A s.heap s.heap [] := va_S.rf
  have hl : lv_has ls 1 [(0, .ref (ad 3))] := hl
  have h : (pw) = r := h
  refine lv_aload_n hx hb d_SD_power_0 rfl (lv_at hl 0 rfl) ?_
  refine va_get (D := D) (ci := 2) (C := R_SD) (T := T_SD) (N := 3) hx hb hT in_SD hown hK hP 3 rfl rfl 2 (by decide) (hT _ m_228) (fun _ h9 => h9) rfl d_SD_power_1 ?_
  subst h
  exact hret 4 ls _ _ _ rfl hP hD hS d_SD_power_4
-- SD_dropZeros
theorem d_SD_dropZeros_0 : decode b_SD_dropZeros 0 = .ok (.iconst 0, 1) := by decide +kernel
theorem d_SD_dropZeros_1 : decode b_SD_dropZeros 1 = .ok (.istore_n 1, 1) := by decide +kernel
theorem d_SD_dropZeros_2 : decode b_SD_dropZeros 2 = .ok (.iload_n 1, 1) := by decide +kernel
theorem d_SD_dropZeros_3 : decode b_SD_dropZeros 3 = .ok (.bipush 19, 2) := by decide +kernel
theorem d_SD_dropZeros_5 : decode b_SD_dropZeros 5 = .ok (.if_icmp .ge 44, 3) := by decide +kernel
theorem d_SD_dropZeros_8 : decode b_SD_dropZeros 8 = .ok (.aload_n 0, 1) := by decide +kernel
theorem d_SD_dropZeros_9 : decode b_SD_dropZeros 9 = .ok (.getfield 16, 3) := by decide +kernel
theorem d_SD_dropZeros_12 : decode b_SD_dropZeros 12 = .ok (.ldc2_w 60, 3) := by decide +kernel
theorem d_SD_dropZeros_15 : decode b_SD_dropZeros 15 = .ok (.lrem, 1) := by decide +kernel
theorem d_SD_dropZeros_16 : decode b_SD_dropZeros 16 = .ok (.lconst 0, 1) := by decide +kernel
theorem d_SD_dropZeros_17 : decode b_SD_dropZeros 17 = .ok (.lcmp, 1) := by decide +kernel
theorem d_SD_dropZeros_18 : decode b_SD_dropZeros 18 = .ok (.ifCond .ne 31, 3) := by decide +kernel
theorem d_SD_dropZeros_21 : decode b_SD_dropZeros 21 = .ok (.aload_n 0, 1) := by decide +kernel
theorem d_SD_dropZeros_22 : decode b_SD_dropZeros 22 = .ok (.dup, 1) := by decide +kernel
theorem d_SD_dropZeros_23 : decode b_SD_dropZeros 23 = .ok (.getfield 16, 3) := by decide +kernel
theorem d_SD_dropZeros_26 : decode b_SD_dropZeros 26 = .ok (.ldc2_w 60, 3) := by decide +kernel
theorem d_SD_dropZeros_29 : decode b_SD_dropZeros 29 = .ok (.ldiv, 1) := by decide +kernel
theorem d_SD_dropZeros_30 : decode b_SD_dropZeros 30 = .ok (.putfield 16, 3) := by decide +kernel
theorem d_SD_dropZeros_33 : decode b_SD_dropZeros 33 = .ok (.aload_n 0, 1) := by decide +kernel
theorem d_SD_dropZeros_34 : decode b_SD_dropZeros 34 = .ok (.dup, 1) := by decide +kernel
theorem d_SD_dropZeros_35 : decode b_SD_dropZeros 35 = .ok (.getfield 20, 3) := by decide +kernel
theorem d_SD_dropZeros_38 : decode b_SD_dropZeros 38 = .ok (.iconst 1, 1) := by decide +kernel
theorem d_SD_dropZeros_39 : decode b_SD_dropZeros 39 = .ok (.iadd, 1) := by decide +kernel
theorem d_SD_dropZeros_40 : decode b_SD_dropZeros 40 = .ok (.putfield 20, 3) := by decide +kernel
theorem d_SD_dropZeros_43 : decode b_SD_dropZeros 43 = .ok (.iinc 1 1, 3) := by decide +kernel
theorem d_SD_dropZeros_46 : decode b_SD_dropZeros 46 = .ok (.goto (-44), 3) := by decide +kernel
theorem d_SD_dropZeros_49 : decode b_SD_dropZeros 49 = .ok (.return_, 1) := by decide +kernel
def F_SD_dropZeros_L2 (j49 : (Int64 → Int32 → Option (Int64 × Int32))) : Nat → Int32 → Int64 → Int32 → Option (Int64 × Int32)
  | 0, _, _, _ => none
  | n+1, y3, dig_4, pw_5 => if (19 : Int32) ≤ y3 then (j49 dig_4 pw_5) else (if ¬ (dig_4 - dig_4 / (10 : Int64) * (10 : Int64)) = (0 : Int64) then (j49 dig_4 pw_5) else (lt_ (dig_4 / (10 : Int64)) fun x6 => lt_ (pw_5 + (1 : Int32)) fun x7 => lt_ (y3 + Int32.ofInt 1) fun x8 => F_SD_dropZeros_L2 j49 n x8 x6 x7))
def F_SD_dropZeros (n : Nat) (dig : Int64) (pw : Int32) : Option (Int64 × Int32) := lt_ (fun (dig_1 : Int64) (pw_2 : Int32) => some (dig_1, pw_2)) fun j49 => F_SD_dropZeros_L2 j49 n (0 : Int32) dig pw
set_option maxHeartbeats 4000000 in
set_option maxRecDepth 100000 in
theorem c_SD_dropZeros (l : Launch) (D : va_G) (A : Nat → Prop) (cI cL cC : ClassId) (ad : Nat → Nat) (X : va_W) (len : Int32) (tk : Int32) (row : Nat → Int32) (dig : Int64) (pw : Int32) (used : Int32) (lost : Int32) (lim : Nat → Int64) (n : Nat) (r : Int64 × Int32) (h : F_SD_dropZeros n dig pw = some r) : Met l y_SD_dropZeros (.code y_SD_dropZeros b_SD_dropZeros 2 none :: BIG) ({ frames := 0, cells := 0, slots := 0, locals := 0 } : Room) (va_Pc [.ref (ad 3)] (gPre D A (tysV cI cL cC) (gC cI cL cC ad X len tk row dig pw used lost lim))) (gQ D A none (gC cI cL cC ad X len tk row r.1 r.2 used lost lim)) 0 0 A := by
  refine gOpen_v rfl (Nat.le_of_ble_eq_true rfl) ?_
  intro p e s m args below meth c Q ls hx hb hml hown hts hT hNB hP hK hD hl hret
  have hown : s.vm.findClass R_SD = some m.cls := hown
  have hS : va_S A s.heap s.heap [] := va_S.rf
  have hl : lv_has ls 2 [(0, .ref (ad 3))] := hl
  have h : (lt_ (fun (dig_1 : Int64) (pw_2 : Int32) => some (dig_1, pw_2)) fun j49 => F_SD_dropZeros_L2 j49 n (0 : Int32) dig pw) = some r := h
  refine lv_iconst hx hb d_SD_dropZeros_0 ic_0 ?_
  refine lv_istore_n hx hb d_SD_dropZeros_1 rfl hl (by decide) rfl (fun ls hl => ?_)
  have hl : lv_has ls 2 [(1, .int (0 : Int32)), (0, .ref (ad 3))] := hl
  obtain ⟨j49, e_j49, h⟩ := lt_o h
  have hJ49 : ∀ (dig_1 : Int64) (pw_2 : Int32) (ls : Array Slot) (H : Heap) (locs : List Loc), lv_has ls 2 [] → va_P D cls (gC cI cL cC ad X len tk row dig_1 pw_2 used lost lim) H → va_D A (gC cI cL cC ad X len tk row dig_1 pw_2 used lost lim) → va_S A s.heap H locs → j49 dig_1 pw_2 = some r → W p l e ({ frames := 0, cells := 0, slots := 0, locals := 0 } : Room) s m args below meth c H locs 0 0 Q (F0 m 49 ls []) := by
    intro dig_1 pw_2 ls H locs hl hP hD hS h
    rw [e_j49] at h
    obtain rfl := Option.some.inj h
    exact hret 49 ls _ _ hP hD hS d_SD_dropZeros_49
  have hL2 : ∀ (n : Nat) (y3 : Int32) (dig_4 : Int64) (pw_5 : Int32) (ls : Array Slot) (H : Heap) (locs : List Loc), lv_has ls 2 [(0, .ref (ad 3)), (1, .int y3)] → va_P D cls (gC cI cL cC ad X len tk row dig_4 pw_5 used lost lim) H → va_D A (gC cI cL cC ad X len tk row dig_4 pw_5 used lost lim) → va_S A s.heap H locs → F_SD_dropZeros_L2 j49 n y3 dig_4 pw_5 = some r → W p l e ({ frames := 0, cells := 0, slots := 0, locals := 0 } : Room) s m args below meth c H locs 0 0 Q (F0 m 2 ls []) := by
    intro n
    induction n with
    | zero => intro y3 dig_4 pw_5 ls H locs hl hP hD hS h; exact no_s h
    | succ n ih =>
      intro y3 dig_4 pw_5 ls H locs hl hP hD hS h
      have h : (if (19 : Int32) ≤ y3 then (j49 dig_4 pw_5) else (if ¬ (dig_4 - dig_4 / (10 : Int64) * (10 : Int64)) = (0 : Int64) then (j49 dig_4 pw_5) else (lt_ (dig_4 / (10 : Int64)) fun x6 => lt_ (pw_5 + (1 : Int32)) fun x7 => lt_ (y3 + Int32.ofInt 1) fun x8 => F_SD_dropZeros_L2 j49 n x8 x6 x7))) = some r := h
      refine lv_iload_n hx hb d_SD_dropZeros_2 rfl (lv_at hl 1 rfl) ?_
      refine lv_bipush hx hb d_SD_dropZeros_3 bp_19 ?_
      refine lv_icmp_ge (tgt := 49) hx hb d_SD_dropZeros_5 rfl (fun hc => ?_) (fun hc => ?_)
      · have h := ite_t hc h
        exact hJ49 _ _ ls _ _ (lv_sub hl [] rfl) hP hD hS h
      · have h := ite_f hc h
        refine lv_aload_n hx hb d_SD_dropZeros_8 rfl (lv_at hl 0 rfl) ?_
        refine va_get (D := D) (ci := 2) (C := R_SD) (T := T_SD) (N := 3) hx hb hT in_SD hown hK hP 3 rfl rfl 1 (by decide) (hT _ m_227) (fun _ h9 => h9) rfl d_SD_dropZeros_9 ?_
        refine lv_ldc2 hx hb hown (hT _ m_114) d_SD_dropZeros_12 ?_
        refine lv_lrem hx hb d_SD_dropZeros_15 (by decide) ?_
        refine lv_lconst hx hb d_SD_dropZeros_16 lc_0 ?_
        refine W.lcmp hx hb d_SD_dropZeros_17 ?_
        refine lv_if_ne (tgt := 49) hx hb d_SD_dropZeros_18 rfl (fun hc => ?_) (fun hc => ?_)
        · have hc := mt (lg_cmp_eq _ _).mpr hc
          have h := ite_t hc h
          exact hJ49 _ _ ls _ _ (lv_sub hl [] rfl) hP hD hS h
        · have hc := not_not_intro ((lg_cmp_eq _ _).mp hc)
          have h := ite_f hc h
          refine lv_aload_n hx hb d_SD_dropZeros_21 rfl (lv_at hl 0 rfl) ?_
          refine lv_dup hx hb d_SD_dropZeros_22 rfl ?_
          refine va_get (D := D) (ci := 2) (C := R_SD) (T := T_SD) (N := 3) hx hb hT in_SD hown hK hP 3 rfl rfl 1 (by decide) (hT _ m_227) (fun _ h9 => h9) rfl d_SD_dropZeros_23 ?_
          refine lv_ldc2 hx hb hown (hT _ m_114) d_SD_dropZeros_26 ?_
          refine lv_ldiv hx hb d_SD_dropZeros_29 (by decide) ?_
          refine lv_topl (fun x6 e_x6 => ?_)
          have h := lt_h e_x6 h
          refine va_put (D := D) (ci := 2) (C := R_SD) (T := T_SD) (N := 3) hx hb hT in_SD ty_SD tyok_SD nm_SD hown hK hP hD hS 3 rfl rfl 1 (by decide) (hT _ m_227) (fun _ h9 => h9) rfl (ty := .long) (by decide +kernel) rfl rfl (by decide : 1 < 3) d_SD_dropZeros_30 (fun H locs hP hD hS => ?_)
          have hP : va_P D cls (gC cI cL cC ad X len tk row x6 pw_5 used lost lim) H := hP
          have hD : va_D A (gC cI cL cC ad X len tk row x6 pw_5 used lost lim) := hD
          refine lv_aload_n hx hb d_SD_dropZeros_33 rfl (lv_at hl 0 rfl) ?_
          refine lv_dup hx hb d_SD_dropZeros_34 rfl ?_
          refine va_get (D := D) (ci := 2) (C := R_SD) (T := T_SD) (N := 3) hx hb hT in_SD hown hK hP 3 rfl rfl 2 (by decide) (hT _ m_228) (fun _ h9 => h9) rfl d_SD_dropZeros_35 ?_
          refine lv_iconst hx hb d_SD_dropZeros_38 ic_1 ?_
          refine lv_iadd hx hb d_SD_dropZeros_39 ?_
          refine lv_topi (fun x7 e_x7 => ?_)
          have h := lt_h e_x7 h
          refine va_put (D := D) (ci := 2) (C := R_SD) (T := T_SD) (N := 3) hx hb hT in_SD ty_SD tyok_SD nm_SD hown hK hP hD hS 3 rfl rfl 2 (by decide) (hT _ m_228) (fun _ h9 => h9) rfl (ty := .int) (by decide +kernel) rfl rfl (by decide : 2 < 3) d_SD_dropZeros_40 (fun H locs hP hD hS => ?_)
          have hP : va_P D cls (gC cI cL cC ad X len tk row x6 x7 used lost lim) H := hP
          have hD : va_D A (gC cI cL cC ad X len tk row x6 x7 used lost lim) := hD
          obtain ⟨x8, e_x8⟩ : ∃ z, z = y3 + Int32.ofInt 1 := ⟨_, rfl⟩
          have h := lt_h e_x8 h
          refine lv_iinc (k := 1) hx hb d_SD_dropZeros_43 hl rfl e_x8.symm (by decide) rfl (fun ls hl => ?_)
          have hl : lv_has ls 2 [(1, .int x8), (0, .ref (ad 3))] := hl
          refine lv_goto (tgt := 2) hx hb d_SD_dropZeros_46 rfl ?_
          exact ih _ _ _ ls _ _ (lv_sub hl [1, 0] rfl) hP hD hS h
  exact hL2 n _ _ _ ls _ _ (lv_sub hl [1, 0] rfl) hP hD hS h
-- SD_find
theorem d_SD_find_0 : decode b_SD_find 0 = .ok (.bipush 63, 2) := by decide +kernel
theorem d_SD_find_2 : decode b_SD_find 2 = .ok (.lload_n 1, 1) := by decide +kernel
theorem d_SD_find_3 : decode b_SD_find 3 = .ok (.invokestatic 24, 3) := by decide +kernel
theorem d_SD_find_6 : decode b_SD_find 6 = .ok (.isub, 1) := by decide +kernel
theorem d_SD_find_7 : decode b_SD_find 7 = .ok (.iload_n 3, 1) := by decide +kernel
theorem d_SD_find_8 : decode b_SD_find 8 = .ok (.iadd, 1) := by decide +kernel
theorem d_SD_find_9 : decode b_SD_find 9 = .ok (.istore 5, 2) := by decide +kernel
theorem d_SD_find_11 : decode b_SD_find 11 = .ok (.bipush 17, 2) := by decide +kernel
theorem d_SD_find_13 : decode b_SD_find 13 = .ok (.iload 5, 2) := by decide +kernel
theorem d_SD_find_15 : decode b_SD_find 15 = .ok (.i2l, 1) := by decide +kernel
theorem d_SD_find_16 : decode b_SD_find 16 = .ok (.ldc2_w 30, 3) := by decide +kernel
theorem d_SD_find_19 : decode b_SD_find 19 = .ok (.lmul, 1) := by decide +kernel
theorem d_SD_find_20 : decode b_SD_find 20 = .ok (.bipush 41, 2) := by decide +kernel
theorem d_SD_find_22 : decode b_SD_find 22 = .ok (.lshr, 1) := by decide +kernel
theorem d_SD_find_23 : decode b_SD_find 23 = .ok (.l2i, 1) := by decide +kernel
theorem d_SD_find_24 : decode b_SD_find 24 = .ok (.isub, 1) := by decide +kernel
theorem d_SD_find_25 : decode b_SD_find 25 = .ok (.istore 6, 2) := by decide +kernel
theorem d_SD_find_27 : decode b_SD_find 27 = .ok (.lload_n 1, 1) := by decide +kernel
theorem d_SD_find_28 : decode b_SD_find 28 = .ok (.lconst 1, 1) := by decide +kernel
theorem d_SD_find_29 : decode b_SD_find 29 = .ok (.land, 1) := by decide +kernel
theorem d_SD_find_30 : decode b_SD_find 30 = .ok (.lconst 0, 1) := by decide +kernel
theorem d_SD_find_31 : decode b_SD_find 31 = .ok (.lcmp, 1) := by decide +kernel
theorem d_SD_find_32 : decode b_SD_find 32 = .ok (.ifCond .ne 7, 3) := by decide +kernel
theorem d_SD_find_35 : decode b_SD_find 35 = .ok (.iconst 1, 1) := by decide +kernel
theorem d_SD_find_36 : decode b_SD_find 36 = .ok (.goto 4, 3) := by decide +kernel
theorem d_SD_find_39 : decode b_SD_find 39 = .ok (.iconst 0, 1) := by decide +kernel
theorem d_SD_find_40 : decode b_SD_find 40 = .ok (.istore 7, 2) := by decide +kernel
theorem d_SD_find_42 : decode b_SD_find 42 = .ok (.lload_n 1, 1) := by decide +kernel
theorem d_SD_find_43 : decode b_SD_find 43 = .ok (.ldc2_w 32, 3) := by decide +kernel
theorem d_SD_find_46 : decode b_SD_find 46 = .ok (.lmul, 1) := by decide +kernel
theorem d_SD_find_47 : decode b_SD_find 47 = .ok (.lstore 8, 2) := by decide +kernel
theorem d_SD_find_49 : decode b_SD_find 49 = .ok (.aload_n 0, 1) := by decide +kernel
theorem d_SD_find_50 : decode b_SD_find 50 = .ok (.getfield 10, 3) := by decide +kernel
theorem d_SD_find_53 : decode b_SD_find 53 = .ok (.lload 8, 2) := by decide +kernel
theorem d_SD_find_55 : decode b_SD_find 55 = .ok (.iload 4, 2) := by decide +kernel
theorem d_SD_find_57 : decode b_SD_find 57 = .ok (.ifCond .eq 7, 3) := by decide +kernel
theorem d_SD_find_60 : decode b_SD_find 60 = .ok (.iconst 1, 1) := by decide +kernel
theorem d_SD_find_61 : decode b_SD_find 61 = .ok (.goto 4, 3) := by decide +kernel
theorem d_SD_find_64 : decode b_SD_find 64 = .ok (.iconst 2, 1) := by decide +kernel
theorem d_SD_find_65 : decode b_SD_find 65 = .ok (.i2l, 1) := by decide +kernel
theorem d_SD_find_66 : decode b_SD_find 66 = .ok (.lsub, 1) := by decide +kernel
theorem d_SD_find_67 : decode b_SD_find 67 = .ok (.iload_n 3, 1) := by decide +kernel
theorem d_SD_find_68 : decode b_SD_find 68 = .ok (.iconst 2, 1) := by decide +kernel
theorem d_SD_find_69 : decode b_SD_find 69 = .ok (.isub, 1) := by decide +kernel
theorem d_SD_find_70 : decode b_SD_find 70 = .ok (.iload 6, 2) := by decide +kernel
theorem d_SD_find_72 : decode b_SD_find 72 = .ok (.invokevirtual 34, 3) := by decide +kernel
theorem d_SD_find_75 : decode b_SD_find 75 = .ok (.lstore 10, 2) := by decide +kernel
theorem d_SD_find_77 : decode b_SD_find 77 = .ok (.aload_n 0, 1) := by decide +kernel
theorem d_SD_find_78 : decode b_SD_find 78 = .ok (.getfield 10, 3) := by decide +kernel
theorem d_SD_find_81 : decode b_SD_find 81 = .ok (.invokevirtual 38, 3) := by decide +kernel
theorem d_SD_find_84 : decode b_SD_find 84 = .ok (.ifCond .eq 8, 3) := by decide +kernel
theorem d_SD_find_87 : decode b_SD_find 87 = .ok (.iload 7, 2) := by decide +kernel
theorem d_SD_find_89 : decode b_SD_find 89 = .ok (.ifCond .ne 9, 3) := by decide +kernel
theorem d_SD_find_92 : decode b_SD_find 92 = .ok (.lload 10, 2) := by decide +kernel
theorem d_SD_find_94 : decode b_SD_find 94 = .ok (.lconst 1, 1) := by decide +kernel
theorem d_SD_find_95 : decode b_SD_find 95 = .ok (.ladd, 1) := by decide +kernel
theorem d_SD_find_96 : decode b_SD_find 96 = .ok (.lstore 10, 2) := by decide +kernel
theorem d_SD_find_98 : decode b_SD_find 98 = .ok (.aload_n 0, 1) := by decide +kernel
theorem d_SD_find_99 : decode b_SD_find 99 = .ok (.getfield 10, 3) := by decide +kernel
theorem d_SD_find_102 : decode b_SD_find 102 = .ok (.lload 8, 2) := by decide +kernel
theorem d_SD_find_104 : decode b_SD_find 104 = .ok (.ldc2_w 42, 3) := by decide +kernel
theorem d_SD_find_107 : decode b_SD_find 107 = .ok (.ladd, 1) := by decide +kernel
theorem d_SD_find_108 : decode b_SD_find 108 = .ok (.iload_n 3, 1) := by decide +kernel
theorem d_SD_find_109 : decode b_SD_find 109 = .ok (.iconst 2, 1) := by decide +kernel
theorem d_SD_find_110 : decode b_SD_find 110 = .ok (.isub, 1) := by decide +kernel
theorem d_SD_find_111 : decode b_SD_find 111 = .ok (.iload 6, 2) := by decide +kernel
theorem d_SD_find_113 : decode b_SD_find 113 = .ok (.invokevirtual 34, 3) := by decide +kernel
theorem d_SD_find_116 : decode b_SD_find 116 = .ok (.lstore 12, 2) := by decide +kernel
theorem d_SD_find_118 : decode b_SD_find 118 = .ok (.aload_n 0, 1) := by decide +kernel
theorem d_SD_find_119 : decode b_SD_find 119 = .ok (.getfield 10, 3) := by decide +kernel
theorem d_SD_find_122 : decode b_SD_find 122 = .ok (.invokevirtual 38, 3) := by decide +kernel
theorem d_SD_find_125 : decode b_SD_find 125 = .ok (.ifCond .eq 14, 3) := by decide +kernel
theorem d_SD_find_128 : decode b_SD_find 128 = .ok (.iload 7, 2) := by decide +kernel
theorem d_SD_find_130 : decode b_SD_find 130 = .ok (.ifCond .ne 9, 3) := by decide +kernel
theorem d_SD_find_133 : decode b_SD_find 133 = .ok (.lload 12, 2) := by decide +kernel
theorem d_SD_find_135 : decode b_SD_find 135 = .ok (.lconst 1, 1) := by decide +kernel
theorem d_SD_find_136 : decode b_SD_find 136 = .ok (.lsub, 1) := by decide +kernel
theorem d_SD_find_137 : decode b_SD_find 137 = .ok (.lstore 12, 2) := by decide +kernel
theorem d_SD_find_139 : decode b_SD_find 139 = .ok (.aload_n 0, 1) := by decide +kernel
theorem d_SD_find_140 : decode b_SD_find 140 = .ok (.getfield 10, 3) := by decide +kernel
theorem d_SD_find_143 : decode b_SD_find 143 = .ok (.lload 8, 2) := by decide +kernel
theorem d_SD_find_145 : decode b_SD_find 145 = .ok (.iload_n 3, 1) := by decide +kernel
theorem d_SD_find_146 : decode b_SD_find 146 = .ok (.iconst 2, 1) := by decide +kernel
theorem d_SD_find_147 : decode b_SD_find 147 = .ok (.isub, 1) := by decide +kernel
theorem d_SD_find_148 : decode b_SD_find 148 = .ok (.iload 6, 2) := by decide +kernel
theorem d_SD_find_150 : decode b_SD_find 150 = .ok (.invokevirtual 34, 3) := by decide +kernel
theorem d_SD_find_153 : decode b_SD_find 153 = .ok (.lstore 14, 2) := by decide +kernel
theorem d_SD_find_155 : decode b_SD_find 155 = .ok (.aload_n 0, 1) := by decide +kernel
theorem d_SD_find_156 : decode b_SD_find 156 = .ok (.lload 14, 2) := by decide +kernel
theorem d_SD_find_158 : decode b_SD_find 158 = .ok (.aload_n 0, 1) := by decide +kernel
theorem d_SD_find_159 : decode b_SD_find 159 = .ok (.getfield 10, 3) := by decide +kernel
theorem d_SD_find_162 : decode b_SD_find 162 = .ok (.invokevirtual 38, 3) := by decide +kernel
theorem d_SD_find_165 : decode b_SD_find 165 = .ok (.lload 10, 2) := by decide +kernel
theorem d_SD_find_167 : decode b_SD_find 167 = .ok (.lload 12, 2) := by decide +kernel
theorem d_SD_find_169 : decode b_SD_find 169 = .ok (.invokestatic 44, 3) := by decide +kernel
theorem d_SD_find_172 : decode b_SD_find 172 = .ok (.putfield 16, 3) := by decide +kernel
theorem d_SD_find_175 : decode b_SD_find 175 = .ok (.aload_n 0, 1) := by decide +kernel
theorem d_SD_find_176 : decode b_SD_find 176 = .ok (.iload 6, 2) := by decide +kernel
theorem d_SD_find_178 : decode b_SD_find 178 = .ok (.ineg, 1) := by decide +kernel
theorem d_SD_find_179 : decode b_SD_find 179 = .ok (.putfield 20, 3) := by decide +kernel
theorem d_SD_find_182 : decode b_SD_find 182 = .ok (.aload_n 0, 1) := by decide +kernel
theorem d_SD_find_183 : decode b_SD_find 183 = .ok (.invokevirtual 48, 3) := by decide +kernel
theorem d_SD_find_186 : decode b_SD_find 186 = .ok (.return_, 1) := by decide +kernel
def F_SD_find (n : Nat) (dig : Int64) (pw : Int32) (used : Int32) (lost : Int32) (lim : Nat → Int64) (a1 : Int64) (a2 : Int32) (a3 : Int32) : Option (Int64 × Int32 × Int32 × Int32 × (Nat → Int64)) := (F_PB_leadingZeros n a1).bind fun x1 => lt_ (((63 : Int32) - x1) + a2) fun x2 => lt_ ((17 : Int32) - (((((x2).toInt64) * (661971961083 : Int64)) >>> (((41 : Int32)).toInt64 &&& 63)).toInt32)) fun x3 => lt_ (if ¬ (a1 &&& (1 : Int64)) = (0 : Int64) then (0 : Int32) else (1 : Int32)) fun x4 => lt_ (a1 * (4 : Int64)) fun x5 => lt_ (if a3 = 0 then (2 : Int32) else (1 : Int32)) fun x6 => (F_BW_floor n used lost lim (x5 - ((x6).toInt64)) (a2 - (2 : Int32)) x3).bind fun x7 => lt_ (F_BW_isExact x7.2.2.1) fun x8 => lt_ (if x8 = 0 then x7.1 + (1 : Int64) else if ¬ x4 = 0 then x7.1 else x7.1 + (1 : Int64)) fun x9 => (F_BW_floor n x7.2.1 x7.2.2.1 x7.2.2.2 (x5 + (2 : Int64)) (a2 - (2 : Int32)) x3).bind fun x10 => lt_ (F_BW_isExact x10.2.2.1) fun x11 => lt_ (if x11 = 0 then x10.1 else if ¬ x4 = 0 then x10.1 else x10.1 - (1 : Int64)) fun x12 => (F_BW_floor n x10.2.1 x10.2.2.1 x10.2.2.2 x5 (a2 - (2 : Int32)) x3).bind fun x13 => lt_ (F_BW_isExact x13.2.2.1) fun x14 => (F_SD_fewestDigits n x13.1 x14 x9 x12).bind fun x15 => lt_ (-x3) fun x16 => (F_SD_dropZeros n x15 x16).bind fun x17 => some (x17.1, x17.2, x13.2.1, x13.2.2.1, x13.2.2.2)
set_option maxHeartbeats 4000000 in
set_option maxRecDepth 100000 in
theorem c_SD_find (l : Launch) (D : va_G) (A : Nat → Prop) (cI cL cC : ClassId) (ad : Nat → Nat) (X : va_W) (len : Int32) (tk : Int32) (row : Nat → Int32) (dig : Int64) (pw : Int32) (used : Int32) (lost : Int32) (lim : Nat → Int64) (n : Nat) (a1 : Int64) (a2 : Int32) (a3 : Int32) (r : Int64 × Int32 × Int32 × Int32 × (Nat → Int64)) (h : F_SD_find n dig pw used lost lim a1 a2 a3 = some r) : Met l y_SD_find (.code y_SD_find b_SD_find 16 none :: BIG) ({ frames := 3, cells := 0, slots := 0, locals := 73 } : Room) (va_Pc [.ref (ad 3), .long a1, .int a2, .int a3] (gPre D A (tysV cI cL cC) (gC cI cL cC ad X len tk row dig pw used lost lim))) (gQ D A none (gC cI cL cC ad X len tk row r.1 r.2.1 r.2.2.1 r.2.2.2.1 r.2.2.2.2)) 0 0 A := by
  refine gOpen_v rfl (Nat.le_of_ble_eq_true rfl) ?_
  intro p e s m args below meth c Q ls hx hb hml hown hts hT hNB hP hK hD hl hret
  have hown : s.vm.findClass R_SD = some m.cls := hown
  have hS : va_S A s.heap s.heap [] := va_S.rf
  have hl : lv_has ls 16 [(0, .ref (ad 3)), (1, .long a1), (3, .int a2), (4, .int a3)] := hl
  have h : ((F_PB_leadingZeros n a1).bind fun x1 => lt_ (((63 : Int32) - x1) + a2) fun x2 => lt_ ((17 : Int32) - (((((x2).toInt64) * (661971961083 : Int64)) >>> (((41 : Int32)).toInt64 &&& 63)).toInt32)) fun x3 => lt_ (if ¬ (a1 &&& (1 : Int64)) = (0 : Int64) then (0 : Int32) else (1 : Int32)) fun x4 => lt_ (a1 * (4 : Int64)) fun x5 => lt_ (if a3 = 0 then (2 : Int32) else (1 : Int32)) fun x6 => (F_BW_floor n used lost lim (x5 - ((x6).toInt64)) (a2 - (2 : Int32)) x3).bind fun x7 => lt_ (F_BW_isExact x7.2.2.1) fun x8 => lt_ (if x8 = 0 then x7.1 + (1 : Int64) else if ¬ x4 = 0 then x7.1 else x7.1 + (1 : Int64)) fun x9 => (F_BW_floor n x7.2.1 x7.2.2.1 x7.2.2.2 (x5 + (2 : Int64)) (a2 - (2 : Int32)) x3).bind fun x10 => lt_ (F_BW_isExact x10.2.2.1) fun x11 => lt_ (if x11 = 0 then x10.1 else if ¬ x4 = 0 then x10.1 else x10.1 - (1 : Int64)) fun x12 => (F_BW_floor n x10.2.1 x10.2.2.1 x10.2.2.2 x5 (a2 - (2 : Int32)) x3).bind fun x13 => lt_ (F_BW_isExact x13.2.2.1) fun x14 => (F_SD_fewestDigits n x13.1 x14 x9 x12).bind fun x15 => lt_ (-x3) fun x16 => (F_SD_dropZeros n x15 x16).bind fun x17 => some (x17.1, x17.2, x13.2.1, x13.2.2.1, x13.2.2.2)) = some r := h
  refine lv_bipush hx hb d_SD_find_0 bp_63 ?_
  refine lv_lload_n hx hb d_SD_find_2 rfl (lv_at hl 1 rfl) ?_
  obtain ⟨x1, e_x1, h⟩ := bd_o h
  refine q_SN (As := [.long a1]) (rest := [.int (63 : Int32)]) (n := 1) hx hb hml hown hts (c_PB_leadingZeros l n a1 _ e_x1) rfl rfl m_49 (hNB_SD hNB) m_50 m_3 (by decide +kernel) ⟨Nat.le_of_ble_eq_true rfl, Nat.le_of_ble_eq_true rfl⟩ (p0_bl) (fun U hU hW => p0_mv hU hW hNB) rfl hl.1 rfl (Nat.le_of_ble_eq_true rfl) d_SD_find_3 ⟨Nat.zero_le _, Nat.zero_le _⟩ ?_
  refine lv_isub hx hb d_SD_find_6 ?_
  refine lv_iload_n hx hb d_SD_find_7 rfl (lv_at hl 2 rfl) ?_
  refine lv_iadd hx hb d_SD_find_8 ?_
  refine lv_topi (fun x2 e_x2 => ?_)
  have h := lt_h e_x2 h
  refine lv_istore hx hb d_SD_find_9 hl (by decide) rfl (fun ls hl => ?_)
  have hl : lv_has ls 16 [(5, .int x2), (0, .ref (ad 3)), (1, .long a1), (3, .int a2), (4, .int a3)] := hl
  refine lv_bipush hx hb d_SD_find_11 bp_17 ?_
  refine lv_iload hx hb d_SD_find_13 (lv_at hl 0 rfl) ?_
  refine lv_i2l hx hb d_SD_find_15 rfl ?_
  refine lv_ldc2 hx hb hown (hT _ m_229) d_SD_find_16 ?_
  refine lv_lmul hx hb d_SD_find_19 ?_
  refine lv_bipush hx hb d_SD_find_20 bp_41 ?_
  refine lv_lshr hx hb d_SD_find_22 rfl ?_
  refine lv_l2i hx hb d_SD_find_23 rfl ?_
  refine lv_isub hx hb d_SD_find_24 ?_
  refine lv_topi (fun x3 e_x3 => ?_)
  have h := lt_h e_x3 h
  refine lv_istore hx hb d_SD_find_25 hl (by decide) rfl (fun ls hl => ?_)
  have hl : lv_has ls 16 [(6, .int x3), (5, .int x2), (0, .ref (ad 3)), (1, .long a1), (3, .int a2), (4, .int a3)] := hl
  refine lv_lload_n hx hb d_SD_find_27 rfl (lv_at hl 3 rfl) ?_
  refine lv_lconst hx hb d_SD_find_28 lc_1 ?_
  refine lv_land hx hb d_SD_find_29 ?_
  refine lv_lconst hx hb d_SD_find_30 lc_0 ?_
  refine W.lcmp hx hb d_SD_find_31 ?_
  obtain ⟨x4, e_x4, h⟩ := lt_o h
  have hJ40 : ∀ (x4' : Int32) (ls : Array Slot), x4 = x4' → lv_has ls 16 [(0, .ref (ad 3)), (1, .long a1), (3, .int a2), (4, .int a3), (6, .int x3)] → W p l e ({ frames := 3, cells := 0, slots := 0, locals := 73 } : Room) s m args below meth c s.heap [] 0 0 Q (F0 m 40 ls [.int x4']) := by
    intro x4' ls q_x4 hl
    subst q_x4
    refine lv_istore hx hb d_SD_find_40 hl (by decide) rfl (fun ls hl => ?_)
    have hl : lv_has ls 16 [(7, .int x4), (0, .ref (ad 3)), (1, .long a1), (3, .int a2), (4, .int a3), (6, .int x3)] := hl
    refine lv_lload_n hx hb d_SD_find_42 rfl (lv_at hl 2 rfl) ?_
    refine lv_ldc2 hx hb hown (hT _ m_230) d_SD_find_43 ?_
    refine lv_lmul hx hb d_SD_find_46 ?_
    refine lv_topl (fun x5 e_x5 => ?_)
    have h := lt_h e_x5 h
    refine lv_lstore hx hb d_SD_find_47 hl (by decide) rfl (fun ls hl => ?_)
    have hl : lv_has ls 16 [(8, .long x5), (7, .int x4), (0, .ref (ad 3)), (1, .long a1), (3, .int a2), (4, .int a3), (6, .int x3)] := hl
    refine lv_aload_n hx hb d_SD_find_49 rfl (lv_at hl 2 rfl) ?_
    refine va_get (D := D) (ci := 2) (C := R_SD) (T := T_SD) (N := 3) hx hb hT in_SD hown hK hP 3 rfl rfl 0 (by decide) (hT _ m_231) (fun _ h9 => h9) rfl d_SD_find_50 ?_
    refine lv_lload hx hb d_SD_find_53 (lv_at hl 0 rfl) ?_
    refine lv_iload hx hb d_SD_find_55 (lv_at hl 5 rfl) ?_
    obtain ⟨x6, e_x6, h⟩ := lt_o h
    have hJ65 : ∀ (x6' : Int32) (ls : Array Slot), x6 = x6' → lv_has ls 16 [(0, .ref (ad 3)), (3, .int a2), (6, .int x3), (7, .int x4), (8, .long x5)] → W p l e ({ frames := 3, cells := 0, slots := 0, locals := 73 } : Room) s m args below meth c s.heap [] 0 0 Q (F0 m 65 ls [.int x6', .long x5, .ref (ad 4)]) := by
      intro x6' ls q_x6 hl
      subst q_x6
      refine lv_i2l hx hb d_SD_find_65 rfl ?_
      refine lv_lsub hx hb d_SD_find_66 ?_
      refine lv_iload_n hx hb d_SD_find_67 rfl (lv_at hl 1 rfl) ?_
      refine lv_iconst hx hb d_SD_find_68 ic_2 ?_
      refine lv_isub hx hb d_SD_find_69 ?_
      refine lv_iload hx hb d_SD_find_70 (lv_at hl 2 rfl) ?_
      obtain ⟨x7, e_x7, h⟩ := bd_o h
      refine q_GV (D := D) (A := A) (C := R_BW) (b := ad 4) (As := [.long (x5 - ((x6).toInt64)), .int (a2 - (2 : Int32)), .int x3]) (rest := []) (n := 3) hx hb hml hown hts (c_BW_floor l D A cI cL cC ad X len tk row dig pw used lost lim n (x5 - ((x6).toInt64)) (a2 - (2 : Int32)) x3 x7 e_x7) rfl rfl m_232 m_233 m_234 m_235 m_205 (by decide +kernel) ⟨Nat.le_of_ble_eq_true rfl, Nat.le_of_ble_eq_true rfl⟩ (va_recv hK hP (ci := 3) rfl (q0 := 4) rfl) hNB hK hP hD hS rfl hl.1 rfl (Nat.le_of_ble_eq_true rfl) d_SD_find_72 ⟨Nat.zero_le _, Nat.zero_le _⟩ (fun H locs hP hD hS => ?_)
      have hP : va_P D cls (gC cI cL cC ad X len tk row dig pw x7.2.1 x7.2.2.1 x7.2.2.2) H := hP
      have hD : va_D A (gC cI cL cC ad X len tk row dig pw x7.2.1 x7.2.2.1 x7.2.2.2) := hD
      refine lv_lstore hx hb d_SD_find_75 hl (by decide) rfl (fun ls hl => ?_)
      have hl : lv_has ls 16 [(10, .long x7.1), (0, .ref (ad 3)), (3, .int a2), (6, .int x3), (7, .int x4), (8, .long x5)] := hl
      refine lv_aload_n hx hb d_SD_find_77 rfl (lv_at hl 1 rfl) ?_
      refine va_get (D := D) (ci := 2) (C := R_SD) (T := T_SD) (N := 3) hx hb hT in_SD hown hK hP 3 rfl rfl 0 (by decide) (hT _ m_231) (fun _ h9 => h9) rfl d_SD_find_78 ?_
      obtain ⟨x8, e_x8, h⟩ := lt_o h
      refine q_GV (D := D) (A := A) (C := R_BW) (b := ad 4) (As := []) (rest := []) (n := 0) hx hb hml hown hts (c_BW_isExact l D A cI cL cC ad X len tk row dig pw x7.2.1 x7.2.2.1 x7.2.2.2 x8 e_x8.symm) rfl rfl m_236 m_237 m_238 m_239 m_205 (by decide +kernel) ⟨Nat.le_of_ble_eq_true rfl, Nat.le_of_ble_eq_true rfl⟩ (va_recv hK hP (ci := 3) rfl (q0 := 4) rfl) hNB hK hP hD hS rfl hl.1 rfl (Nat.le_of_ble_eq_true rfl) d_SD_find_81 ⟨Nat.zero_le _, Nat.zero_le _⟩ (fun H locs hP hD hS => ?_)
      have hP : va_P D cls (gC cI cL cC ad X len tk row dig pw x7.2.1 x7.2.2.1 x7.2.2.2) H := hP
      have hD : va_D A (gC cI cL cC ad X len tk row dig pw x7.2.1 x7.2.2.1 x7.2.2.2) := hD
      obtain ⟨x9, e_x9, h⟩ := lt_o h
      have hJ98 : ∀ (x9' : Int64) (ls : Array Slot), x9 = x9' → lv_has ls 16 [(0, .ref (ad 3)), (3, .int a2), (6, .int x3), (7, .int x4), (8, .long x5), (10, .long x9')] → W p l e ({ frames := 3, cells := 0, slots := 0, locals := 73 } : Room) s m args below meth c H locs 0 0 Q (F0 m 98 ls []) := by
        intro x9' ls q_x9 hl
        subst q_x9
        refine lv_aload_n hx hb d_SD_find_98 rfl (lv_at hl 0 rfl) ?_
        refine va_get (D := D) (ci := 2) (C := R_SD) (T := T_SD) (N := 3) hx hb hT in_SD hown hK hP 3 rfl rfl 0 (by decide) (hT _ m_231) (fun _ h9 => h9) rfl d_SD_find_99 ?_
        refine lv_lload hx hb d_SD_find_102 (lv_at hl 4 rfl) ?_
        refine lv_ldc2 hx hb hown (hT _ m_106) d_SD_find_104 ?_
        refine lv_ladd hx hb d_SD_find_107 ?_
        refine lv_iload_n hx hb d_SD_find_108 rfl (lv_at hl 1 rfl) ?_
        refine lv_iconst hx hb d_SD_find_109 ic_2 ?_
        refine lv_isub hx hb d_SD_find_110 ?_
        refine lv_iload hx hb d_SD_find_111 (lv_at hl 2 rfl) ?_
        obtain ⟨x10, e_x10, h⟩ := bd_o h
        refine q_GV (D := D) (A := A) (C := R_BW) (b := ad 4) (As := [.long (x5 + (2 : Int64)), .int (a2 - (2 : Int32)), .int x3]) (rest := []) (n := 3) hx hb hml hown hts (c_BW_floor l D A cI cL cC ad X len tk row dig pw x7.2.1 x7.2.2.1 x7.2.2.2 n (x5 + (2 : Int64)) (a2 - (2 : Int32)) x3 x10 e_x10) rfl rfl m_232 m_233 m_234 m_235 m_205 (by decide +kernel) ⟨Nat.le_of_ble_eq_true rfl, Nat.le_of_ble_eq_true rfl⟩ (va_recv hK hP (ci := 3) rfl (q0 := 4) rfl) hNB hK hP hD hS rfl hl.1 rfl (Nat.le_of_ble_eq_true rfl) d_SD_find_113 ⟨Nat.zero_le _, Nat.zero_le _⟩ (fun H locs hP hD hS => ?_)
        have hP : va_P D cls (gC cI cL cC ad X len tk row dig pw x10.2.1 x10.2.2.1 x10.2.2.2) H := hP
        have hD : va_D A (gC cI cL cC ad X len tk row dig pw x10.2.1 x10.2.2.1 x10.2.2.2) := hD
        refine lv_lstore hx hb d_SD_find_116 hl (by decide) rfl (fun ls hl => ?_)
        have hl : lv_has ls 16 [(12, .long x10.1), (0, .ref (ad 3)), (3, .int a2), (6, .int x3), (7, .int x4), (8, .long x5), (10, .long x9)] := hl
        refine lv_aload_n hx hb d_SD_find_118 rfl (lv_at hl 1 rfl) ?_
        refine va_get (D := D) (ci := 2) (C := R_SD) (T := T_SD) (N := 3) hx hb hT in_SD hown hK hP 3 rfl rfl 0 (by decide) (hT _ m_231) (fun _ h9 => h9) rfl d_SD_find_119 ?_
        obtain ⟨x11, e_x11, h⟩ := lt_o h
        refine q_GV (D := D) (A := A) (C := R_BW) (b := ad 4) (As := []) (rest := []) (n := 0) hx hb hml hown hts (c_BW_isExact l D A cI cL cC ad X len tk row dig pw x10.2.1 x10.2.2.1 x10.2.2.2 x11 e_x11.symm) rfl rfl m_236 m_237 m_238 m_239 m_205 (by decide +kernel) ⟨Nat.le_of_ble_eq_true rfl, Nat.le_of_ble_eq_true rfl⟩ (va_recv hK hP (ci := 3) rfl (q0 := 4) rfl) hNB hK hP hD hS rfl hl.1 rfl (Nat.le_of_ble_eq_true rfl) d_SD_find_122 ⟨Nat.zero_le _, Nat.zero_le _⟩ (fun H locs hP hD hS => ?_)
        have hP : va_P D cls (gC cI cL cC ad X len tk row dig pw x10.2.1 x10.2.2.1 x10.2.2.2) H := hP
        have hD : va_D A (gC cI cL cC ad X len tk row dig pw x10.2.1 x10.2.2.1 x10.2.2.2) := hD
        obtain ⟨x12, e_x12, h⟩ := lt_o h
        have hJ139 : ∀ (x12' : Int64) (ls : Array Slot), x12 = x12' → lv_has ls 16 [(0, .ref (ad 3)), (3, .int a2), (6, .int x3), (8, .long x5), (10, .long x9), (12, .long x12')] → W p l e ({ frames := 3, cells := 0, slots := 0, locals := 73 } : Room) s m args below meth c H locs 0 0 Q (F0 m 139 ls []) := by
          intro x12' ls q_x12 hl
          subst q_x12
          refine lv_aload_n hx hb d_SD_find_139 rfl (lv_at hl 0 rfl) ?_
          refine va_get (D := D) (ci := 2) (C := R_SD) (T := T_SD) (N := 3) hx hb hT in_SD hown hK hP 3 rfl rfl 0 (by decide) (hT _ m_231) (fun _ h9 => h9) rfl d_SD_find_140 ?_
          refine lv_lload hx hb d_SD_find_143 (lv_at hl 3 rfl) ?_
          refine lv_iload_n hx hb d_SD_find_145 rfl (lv_at hl 1 rfl) ?_
          refine lv_iconst hx hb d_SD_find_146 ic_2 ?_
          refine lv_isub hx hb d_SD_find_147 ?_
          refine lv_iload hx hb d_SD_find_148 (lv_at hl 2 rfl) ?_
          obtain ⟨x13, e_x13, h⟩ := bd_o h
          refine q_GV (D := D) (A := A) (C := R_BW) (b := ad 4) (As := [.long x5, .int (a2 - (2 : Int32)), .int x3]) (rest := []) (n := 3) hx hb hml hown hts (c_BW_floor l D A cI cL cC ad X len tk row dig pw x10.2.1 x10.2.2.1 x10.2.2.2 n x5 (a2 - (2 : Int32)) x3 x13 e_x13) rfl rfl m_232 m_233 m_234 m_235 m_205 (by decide +kernel) ⟨Nat.le_of_ble_eq_true rfl, Nat.le_of_ble_eq_true rfl⟩ (va_recv hK hP (ci := 3) rfl (q0 := 4) rfl) hNB hK hP hD hS rfl hl.1 rfl (Nat.le_of_ble_eq_true rfl) d_SD_find_150 ⟨Nat.zero_le _, Nat.zero_le _⟩ (fun H locs hP hD hS => ?_)
          have hP : va_P D cls (gC cI cL cC ad X len tk row dig pw x13.2.1 x13.2.2.1 x13.2.2.2) H := hP
          have hD : va_D A (gC cI cL cC ad X len tk row dig pw x13.2.1 x13.2.2.1 x13.2.2.2) := hD
          refine lv_lstore hx hb d_SD_find_153 hl (by decide) rfl (fun ls hl => ?_)
          have hl : lv_has ls 16 [(14, .long x13.1), (0, .ref (ad 3)), (3, .int a2), (6, .int x3), (8, .long x5), (10, .long x9), (12, .long x12)] := hl
          refine lv_aload_n hx hb d_SD_find_155 rfl (lv_at hl 1 rfl) ?_
          refine lv_lload hx hb d_SD_find_156 (lv_at hl 0 rfl) ?_
          refine lv_aload_n hx hb d_SD_find_158 rfl (lv_at hl 1 rfl) ?_
          refine va_get (D := D) (ci := 2) (C := R_SD) (T := T_SD) (N := 3) hx hb hT in_SD hown hK hP 3 rfl rfl 0 (by decide) (hT _ m_231) (fun _ h9 => h9) rfl d_SD_find_159 ?_
          obtain ⟨x14, e_x14, h⟩ := lt_o h
          refine q_GV (D := D) (A := A) (C := R_BW) (b := ad 4) (As := []) (rest := [.long x13.1, .ref (ad 3)]) (n := 0) hx hb hml hown hts (c_BW_isExact l D A cI cL cC ad X len tk row dig pw x13.2.1 x13.2.2.1 x13.2.2.2 x14 e_x14.symm) rfl rfl m_236 m_237 m_238 m_239 m_205 (by decide +kernel) ⟨Nat.le_of_ble_eq_true rfl, Nat.le_of_ble_eq_true rfl⟩ (va_recv hK hP (ci := 3) rfl (q0 := 4) rfl) hNB hK hP hD hS rfl hl.1 rfl (Nat.le_of_ble_eq_true rfl) d_SD_find_162 ⟨Nat.zero_le _, Nat.zero_le _⟩ (fun H locs hP hD hS => ?_)
          have hP : va_P D cls (gC cI cL cC ad X len tk row dig pw x13.2.1 x13.2.2.1 x13.2.2.2) H := hP
          have hD : va_D A (gC cI cL cC ad X len tk row dig pw x13.2.1 x13.2.2.1 x13.2.2.2) := hD
          refine lv_lload hx hb d_SD_find_165 (lv_at hl 5 rfl) ?_
          refine lv_lload hx hb d_SD_find_167 (lv_at hl 6 rfl) ?_
          obtain ⟨x15, e_x15, h⟩ := bd_o h
          refine q_S (As := [.long x13.1, .int x14, .long x9, .long x12]) (rest := [.ref (ad 3)]) (n := 4) hx hb hml hown hts (c_SD_fewestDigits l n x13.1 x14 x9 x12 _ e_x15) rfl rfl m_240 m_241 m_242 m_113 (by decide +kernel) ⟨Nat.le_of_ble_eq_true rfl, Nat.le_of_ble_eq_true rfl⟩ (p0_bl) (fun U hU hW => p0_mv hU hW hNB) rfl hl.1 rfl (Nat.le_of_ble_eq_true rfl) d_SD_find_169 ⟨Nat.zero_le _, Nat.zero_le _⟩ ?_
          refine va_put (D := D) (ci := 2) (C := R_SD) (T := T_SD) (N := 3) hx hb hT in_SD ty_SD tyok_SD nm_SD hown hK hP hD hS 3 rfl rfl 1 (by decide) (hT _ m_227) (fun _ h9 => h9) rfl (ty := .long) (by decide +kernel) rfl rfl (by decide : 1 < 3) d_SD_find_172 (fun H locs hP hD hS => ?_)
          have hP : va_P D cls (gC cI cL cC ad X len tk row x15 pw x13.2.1 x13.2.2.1 x13.2.2.2) H := hP
          have hD : va_D A (gC cI cL cC ad X len tk row x15 pw x13.2.1 x13.2.2.1 x13.2.2.2) := hD
          refine lv_aload_n hx hb d_SD_find_175 rfl (lv_at hl 1 rfl) ?_
          refine lv_iload hx hb d_SD_find_176 (lv_at hl 3 rfl) ?_
          refine lv_ineg hx hb d_SD_find_178 ?_
          refine lv_topi (fun x16 e_x16 => ?_)
          have h := lt_h e_x16 h
          refine va_put (D := D) (ci := 2) (C := R_SD) (T := T_SD) (N := 3) hx hb hT in_SD ty_SD tyok_SD nm_SD hown hK hP hD hS 3 rfl rfl 2 (by decide) (hT _ m_228) (fun _ h9 => h9) rfl (ty := .int) (by decide +kernel) rfl rfl (by decide : 2 < 3) d_SD_find_179 (fun H locs hP hD hS => ?_)
          have hP : va_P D cls (gC cI cL cC ad X len tk row x15 x16 x13.2.1 x13.2.2.1 x13.2.2.2) H := hP
          have hD : va_D A (gC cI cL cC ad X len tk row x15 x16 x13.2.1 x13.2.2.1 x13.2.2.2) := hD
          refine lv_aload_n hx hb d_SD_find_182 rfl (lv_at hl 1 rfl) ?_
          obtain ⟨x17, e_x17, h⟩ := bd_o h
          refine q_GV (D := D) (A := A) (C := R_SD) (b := ad 3) (As := []) (rest := []) (n := 0) hx hb hml hown hts (c_SD_dropZeros l D A cI cL cC ad X len tk row x15 x16 x13.2.1 x13.2.2.1 x13.2.2.2 n x17 e_x17) rfl rfl m_243 m_244 m_245 m_246 m_113 (by decide +kernel) ⟨Nat.le_of_ble_eq_true rfl, Nat.le_of_ble_eq_true rfl⟩ (va_recv hK hP (ci := 2) rfl (q0 := 3) rfl) hNB hK hP hD hS rfl hl.1 rfl (Nat.le_of_ble_eq_true rfl) d_SD_find_183 ⟨Nat.zero_le _, Nat.zero_le _⟩ (fun H locs hP hD hS => ?_)
          have hP : va_P D cls (gC cI cL cC ad X len tk row x17.1 x17.2 x13.2.1 x13.2.2.1 x13.2.2.2) H := hP
          have hD : va_D A (gC cI cL cC ad X len tk row x17.1 x17.2 x13.2.1 x13.2.2.1 x13.2.2.2) := hD
          obtain rfl := Option.some.inj h
          exact hret 186 ls _ _ hP hD hS d_SD_find_186
        refine lv_if_eq (tgt := 139) hx hb d_SD_find_125 rfl (fun hc => ?_) (fun hc => ?_)
        · have e_x12 := e_x12.trans (if_pos hc)
          exact hJ139 _ ls e_x12 (lv_sub hl [1, 2, 3, 5, 6, 0] rfl)
        · have e_x12 := e_x12.trans (if_neg hc)
          refine lv_iload hx hb d_SD_find_128 (lv_at hl 4 rfl) ?_
          refine lv_if_ne (tgt := 139) hx hb d_SD_find_130 rfl (fun hc => ?_) (fun hc => ?_)
          · have e_x12 := e_x12.trans (if_pos hc)
            exact hJ139 _ ls e_x12 (lv_sub hl [1, 2, 3, 5, 6, 0] rfl)
          · have hc := not_not_intro hc
            have e_x12 := e_x12.trans (if_neg hc)
            refine lv_lload hx hb d_SD_find_133 (lv_at hl 0 rfl) ?_
            refine lv_lconst hx hb d_SD_find_135 lc_1 ?_
            refine lv_lsub hx hb d_SD_find_136 ?_
            refine lv_lstore hx hb d_SD_find_137 hl (by decide) rfl (fun ls hl => ?_)
            have hl : lv_has ls 16 [(12, .long (x10.1 - (1 : Int64))), (0, .ref (ad 3)), (3, .int a2), (6, .int x3), (7, .int x4), (8, .long x5), (10, .long x9)] := hl
            exact hJ139 _ ls e_x12 (lv_sub hl [1, 2, 3, 5, 6, 0] rfl)
      refine lv_if_eq (tgt := 92) hx hb d_SD_find_84 rfl (fun hc => ?_) (fun hc => ?_)
      · have e_x9 := e_x9.trans (if_pos hc)
        refine lv_lload hx hb d_SD_find_92 (lv_at hl 0 rfl) ?_
        refine lv_lconst hx hb d_SD_find_94 lc_1 ?_
        refine lv_ladd hx hb d_SD_find_95 ?_
        refine lv_lstore hx hb d_SD_find_96 hl (by decide) rfl (fun ls hl => ?_)
        have hl : lv_has ls 16 [(10, .long (x7.1 + (1 : Int64))), (0, .ref (ad 3)), (3, .int a2), (6, .int x3), (7, .int x4), (8, .long x5)] := hl
        exact hJ98 _ ls e_x9 (lv_sub hl [1, 2, 3, 4, 5, 0] rfl)
      · have e_x9 := e_x9.trans (if_neg hc)
        refine lv_iload hx hb d_SD_find_87 (lv_at hl 4 rfl) ?_
        refine lv_if_ne (tgt := 98) hx hb d_SD_find_89 rfl (fun hc => ?_) (fun hc => ?_)
        · have e_x9 := e_x9.trans (if_pos hc)
          exact hJ98 _ ls e_x9 (lv_sub hl [1, 2, 3, 4, 5, 0] rfl)
        · have hc := not_not_intro hc
          have e_x9 := e_x9.trans (if_neg hc)
          refine lv_lload hx hb d_SD_find_92 (lv_at hl 0 rfl) ?_
          refine lv_lconst hx hb d_SD_find_94 lc_1 ?_
          refine lv_ladd hx hb d_SD_find_95 ?_
          refine lv_lstore hx hb d_SD_find_96 hl (by decide) rfl (fun ls hl => ?_)
          have hl : lv_has ls 16 [(10, .long (x7.1 + (1 : Int64))), (0, .ref (ad 3)), (3, .int a2), (6, .int x3), (7, .int x4), (8, .long x5)] := hl
          exact hJ98 _ ls e_x9 (lv_sub hl [1, 2, 3, 4, 5, 0] rfl)
    refine lv_if_eq (tgt := 64) hx hb d_SD_find_57 rfl (fun hc => ?_) (fun hc => ?_)
    · have e_x6 := e_x6.trans (if_pos hc)
      refine lv_iconst hx hb d_SD_find_64 ic_2 ?_
      exact hJ65 _ ls e_x6 (lv_sub hl [2, 4, 6, 1, 0] rfl)
    · have e_x6 := e_x6.trans (if_neg hc)
      refine lv_iconst hx hb d_SD_find_60 ic_1 ?_
      refine lv_goto (tgt := 65) hx hb d_SD_find_61 rfl ?_
      exact hJ65 _ ls e_x6 (lv_sub hl [2, 4, 6, 1, 0] rfl)
  refine lv_if_ne (tgt := 39) hx hb d_SD_find_32 rfl (fun hc => ?_) (fun hc => ?_)
  · have hc := mt (lg_cmp_eq _ _).mpr hc
    have e_x4 := e_x4.trans (if_pos hc)
    refine lv_iconst hx hb d_SD_find_39 ic_0 ?_
    exact hJ40 _ ls e_x4 (lv_sub hl [2, 3, 4, 5, 0] rfl)
  · have hc := not_not_intro ((lg_cmp_eq _ _).mp hc)
    have e_x4 := e_x4.trans (if_neg hc)
    refine lv_iconst hx hb d_SD_find_35 ic_1 ?_
    refine lv_goto (tgt := 40) hx hb d_SD_find_36 rfl ?_
    exact hJ40 _ ls e_x4 (lv_sub hl [2, 3, 4, 5, 0] rfl)
-- Md_thrown
theorem d_Md_thrown_0 : decode b_Md_thrown 0 = .ok (.aload_n 0, 1) := by decide +kernel
theorem d_Md_thrown_1 : decode b_Md_thrown 1 = .ok (.getfield 20, 3) := by decide +kernel
theorem d_Md_thrown_4 : decode b_Md_thrown 4 = .ok (.ireturn, 1) := by decide +kernel
def F_Md_thrown (thr : Int32) : Int32 := thr
set_option maxHeartbeats 4000000 in
set_option maxRecDepth 100000 in
theorem c_Md_thrown (l : Launch) (D : va_G) (A : Nat → Prop) (cI cL cC : ClassId) (ad : Nat → Nat) (X : va_W) (laid : Int32) (gone : Int32) (thr : Int32) (m1 : Int64) (m2 : Int64) (e1 : Int32) (e2 : Int32) (mi1 : Int32) (mi2 : Int32) (na1 : Int32) (na2 : Int32) (fa1 : Int32) (fa2 : Int32) (lets : Nat → Int32) (rlen : Int32) (rlaid : Int32) (rgone : Int32) (rthr : Int32) (were : Int32) (none_ : Int32) (beyo : Int32) (aN : Int32) (bN : Int32) (fN : Int32) (lN_ : Int32) (rN : Int32) (pN : Int32) (twos : Int32) (at_ : Int32) (rdig : Int32) (rpow : Int32) (good : Int32) (txt : Nat → Int32) (wri : Nat → Int32) (ra : Nat → Int32) (rb : Nat → Int32) (rfive : Nat → Int32) (rleft : Nat → Int32) (rright : Nat → Int32) (rpart : Nat → Int32) (r : Int32) (h : F_Md_thrown thr = r) : Met l y_Md_thrown (.code y_Md_thrown b_Md_thrown 1 (some .int) :: BIG) ({ frames := 0, cells := 0, slots := 0, locals := 0 } : Room) (va_Pc [.ref (ad 0)] (gPre D A (tysV cI cL cC) (gM cI cL cC ad X laid gone thr m1 m2 e1 e2 mi1 mi2 na1 na2 fa1 fa2 lets rlen rlaid rgone rthr were none_ beyo aN bN fN lN_ rN pN twos at_ rdig rpow good txt wri ra rb rfive rleft rright rpart))) (gQ D A (some (.int r)) (gM cI cL cC ad X laid gone thr m1 m2 e1 e2 mi1 mi2 na1 na2 fa1 fa2 lets rlen rlaid rgone rthr were none_ beyo aN bN fN lN_ rN pN twos at_ rdig rpow good txt wri ra rb rfive rleft rright rpart)) 0 0 A := by
  refine gOpen_i rfl (Nat.le_of_ble_eq_true rfl) ?_
  intro p e s m args below meth c Q ls hx hb hml hown hts hT hNB hP hK hD hl hret
  have hown : s.vm.findClass R_Md = some m.cls := hown
  have hS : va_S A s.heap s.heap [] := va_S.rf
  have hl : lv_has ls 1 [(0, .ref (ad 0))] := hl
  have h : (thr) = r := h
  refine lv_aload_n hx hb d_Md_thrown_0 rfl (lv_at hl 0 rfl) ?_
  refine va_get (D := D) (ci := 4) (C := R_Md) (T := T_Md) (N := 15) hx hb hT in_Md hown hK hP 0 rfl rfl 4 (by decide) (hT _ m_247) (fun _ h9 => h9) rfl d_Md_thrown_1 ?_
  subst h
  exact hret 4 ls _ _ _ rfl hP hD hS d_Md_thrown_4
-- Md_fails
theorem d_Md_fails_0 : decode b_Md_fails 0 = .ok (.aload_n 0, 1) := by decide +kernel
theorem d_Md_fails_1 : decode b_Md_fails 1 = .ok (.iload_n 1, 1) := by decide +kernel
theorem d_Md_fails_2 : decode b_Md_fails 2 = .ok (.putfield 20, 3) := by decide +kernel
theorem d_Md_fails_5 : decode b_Md_fails 5 = .ok (.lconst 0, 1) := by decide +kernel
theorem d_Md_fails_6 : decode b_Md_fails 6 = .ok (.lreturn, 1) := by decide +kernel
def F_Md_fails (thr : Int32) (a1 : Int32) : Int64 × Int32 := ((0 : Int64), a1)
set_option maxHeartbeats 4000000 in
set_option maxRecDepth 100000 in
theorem c_Md_fails (l : Launch) (D : va_G) (A : Nat → Prop) (cI cL cC : ClassId) (ad : Nat → Nat) (X : va_W) (laid : Int32) (gone : Int32) (thr : Int32) (m1 : Int64) (m2 : Int64) (e1 : Int32) (e2 : Int32) (mi1 : Int32) (mi2 : Int32) (na1 : Int32) (na2 : Int32) (fa1 : Int32) (fa2 : Int32) (lets : Nat → Int32) (rlen : Int32) (rlaid : Int32) (rgone : Int32) (rthr : Int32) (were : Int32) (none_ : Int32) (beyo : Int32) (aN : Int32) (bN : Int32) (fN : Int32) (lN_ : Int32) (rN : Int32) (pN : Int32) (twos : Int32) (at_ : Int32) (rdig : Int32) (rpow : Int32) (good : Int32) (txt : Nat → Int32) (wri : Nat → Int32) (ra : Nat → Int32) (rb : Nat → Int32) (rfive : Nat → Int32) (rleft : Nat → Int32) (rright : Nat → Int32) (rpart : Nat → Int32) (a1 : Int32) (r : Int64 × Int32) (h : F_Md_fails thr a1 = r) : Met l y_Md_fails (.code y_Md_fails b_Md_fails 2 (some .long) :: BIG) ({ frames := 0, cells := 0, slots := 0, locals := 0 } : Room) (va_Pc [.ref (ad 0), .int a1] (gPre D A (tysV cI cL cC) (gM cI cL cC ad X laid gone thr m1 m2 e1 e2 mi1 mi2 na1 na2 fa1 fa2 lets rlen rlaid rgone rthr were none_ beyo aN bN fN lN_ rN pN twos at_ rdig rpow good txt wri ra rb rfive rleft rright rpart))) (gQ D A (some (.long r.1)) (gM cI cL cC ad X laid gone r.2 m1 m2 e1 e2 mi1 mi2 na1 na2 fa1 fa2 lets rlen rlaid rgone rthr were none_ beyo aN bN fN lN_ rN pN twos at_ rdig rpow good txt wri ra rb rfive rleft rright rpart)) 0 0 A := by
  refine gOpen_l rfl (Nat.le_of_ble_eq_true rfl) ?_
  intro p e s m args below meth c Q ls hx hb hml hown hts hT hNB hP hK hD hl hret
  have hown : s.vm.findClass R_Md = some m.cls := hown
  have hS : va_S A s.heap s.heap [] := va_S.rf
  have hl : lv_has ls 2 [(0, .ref (ad 0)), (1, .int a1)] := hl
  have h : (((0 : Int64), a1)) = r := h
  refine lv_aload_n hx hb d_Md_fails_0 rfl (lv_at hl 0 rfl) ?_
  refine lv_iload_n hx hb d_Md_fails_1 rfl (lv_at hl 1 rfl) ?_
  refine va_put (D := D) (ci := 4) (C := R_Md) (T := T_Md) (N := 15) hx hb hT in_Md ty_Md tyok_Md nm_Md hown hK hP hD hS 0 rfl rfl 4 (by decide) (hT _ m_247) (fun _ h9 => h9) rfl (ty := .int) (by decide +kernel) rfl rfl (by decide : 4 < 15) d_Md_fails_2 (fun H locs hP hD hS => ?_)
  have hP : va_P D cls (gM cI cL cC ad X laid gone a1 m1 m2 e1 e2 mi1 mi2 na1 na2 fa1 fa2 lets rlen rlaid rgone rthr were none_ beyo aN bN fN lN_ rN pN twos at_ rdig rpow good txt wri ra rb rfive rleft rright rpart) H := hP
  have hD : va_D A (gM cI cL cC ad X laid gone a1 m1 m2 e1 e2 mi1 mi2 na1 na2 fa1 fa2 lets rlen rlaid rgone rthr were none_ beyo aN bN fN lN_ rN pN twos at_ rdig rpow good txt wri ra rb rfive rleft rright rpart) := hD
  refine lv_lconst hx hb d_Md_fails_5 lc_0 ?_
  subst h
  exact hret 6 ls _ _ _ rfl hP hD hS d_Md_fails_6
-- Md_apart
theorem d_Md_apart_0 : decode b_Md_apart 0 = .ok (.iload_n 3, 1) := by decide +kernel
theorem d_Md_apart_1 : decode b_Md_apart 1 = .ok (.ifCond .eq 8, 3) := by decide +kernel
theorem d_Md_apart_4 : decode b_Md_apart 4 = .ok (.bipush 23, 2) := by decide +kernel
theorem d_Md_apart_6 : decode b_Md_apart 6 = .ok (.goto 5, 3) := by decide +kernel
theorem d_Md_apart_9 : decode b_Md_apart 9 = .ok (.bipush 52, 2) := by decide +kernel
theorem d_Md_apart_11 : decode b_Md_apart 11 = .ok (.istore 5, 2) := by decide +kernel
theorem d_Md_apart_13 : decode b_Md_apart 13 = .ok (.iload_n 3, 1) := by decide +kernel
theorem d_Md_apart_14 : decode b_Md_apart 14 = .ok (.ifCond .eq 11, 3) := by decide +kernel
theorem d_Md_apart_17 : decode b_Md_apart 17 = .ok (.lload_n 1, 1) := by decide +kernel
theorem d_Md_apart_18 : decode b_Md_apart 18 = .ok (.ldc2_w 42, 3) := by decide +kernel
theorem d_Md_apart_21 : decode b_Md_apart 21 = .ok (.land, 1) := by decide +kernel
theorem d_Md_apart_22 : decode b_Md_apart 22 = .ok (.goto 4, 3) := by decide +kernel
theorem d_Md_apart_25 : decode b_Md_apart 25 = .ok (.lload_n 1, 1) := by decide +kernel
theorem d_Md_apart_26 : decode b_Md_apart 26 = .ok (.lstore 6, 2) := by decide +kernel
theorem d_Md_apart_28 : decode b_Md_apart 28 = .ok (.lload 6, 2) := by decide +kernel
theorem d_Md_apart_30 : decode b_Md_apart 30 = .ok (.iload 5, 2) := by decide +kernel
theorem d_Md_apart_32 : decode b_Md_apart 32 = .ok (.lushr, 1) := by decide +kernel
theorem d_Md_apart_33 : decode b_Md_apart 33 = .ok (.l2i, 1) := by decide +kernel
theorem d_Md_apart_34 : decode b_Md_apart 34 = .ok (.iload_n 3, 1) := by decide +kernel
theorem d_Md_apart_35 : decode b_Md_apart 35 = .ok (.ifCond .eq 9, 3) := by decide +kernel
theorem d_Md_apart_38 : decode b_Md_apart 38 = .ok (.sipush 255, 3) := by decide +kernel
theorem d_Md_apart_41 : decode b_Md_apart 41 = .ok (.goto 6, 3) := by decide +kernel
theorem d_Md_apart_44 : decode b_Md_apart 44 = .ok (.sipush 2047, 3) := by decide +kernel
theorem d_Md_apart_47 : decode b_Md_apart 47 = .ok (.iand, 1) := by decide +kernel
theorem d_Md_apart_48 : decode b_Md_apart 48 = .ok (.istore 8, 2) := by decide +kernel
theorem d_Md_apart_50 : decode b_Md_apart 50 = .ok (.lload 6, 2) := by decide +kernel
theorem d_Md_apart_52 : decode b_Md_apart 52 = .ok (.lconst 1, 1) := by decide +kernel
theorem d_Md_apart_53 : decode b_Md_apart 53 = .ok (.iload 5, 2) := by decide +kernel
theorem d_Md_apart_55 : decode b_Md_apart 55 = .ok (.lshl, 1) := by decide +kernel
theorem d_Md_apart_56 : decode b_Md_apart 56 = .ok (.lconst 1, 1) := by decide +kernel
theorem d_Md_apart_57 : decode b_Md_apart 57 = .ok (.lsub, 1) := by decide +kernel
theorem d_Md_apart_58 : decode b_Md_apart 58 = .ok (.land, 1) := by decide +kernel
theorem d_Md_apart_59 : decode b_Md_apart 59 = .ok (.lstore 9, 2) := by decide +kernel
theorem d_Md_apart_61 : decode b_Md_apart 61 = .ok (.iload 8, 2) := by decide +kernel
theorem d_Md_apart_63 : decode b_Md_apart 63 = .ok (.iload_n 3, 1) := by decide +kernel
theorem d_Md_apart_64 : decode b_Md_apart 64 = .ok (.ifCond .eq 9, 3) := by decide +kernel
theorem d_Md_apart_67 : decode b_Md_apart 67 = .ok (.sipush 255, 3) := by decide +kernel
theorem d_Md_apart_70 : decode b_Md_apart 70 = .ok (.goto 6, 3) := by decide +kernel
theorem d_Md_apart_73 : decode b_Md_apart 73 = .ok (.sipush 2047, 3) := by decide +kernel
theorem d_Md_apart_76 : decode b_Md_apart 76 = .ok (.if_icmp .ne 7, 3) := by decide +kernel
theorem d_Md_apart_79 : decode b_Md_apart 79 = .ok (.iconst 1, 1) := by decide +kernel
theorem d_Md_apart_80 : decode b_Md_apart 80 = .ok (.goto 4, 3) := by decide +kernel
theorem d_Md_apart_83 : decode b_Md_apart 83 = .ok (.iconst 0, 1) := by decide +kernel
theorem d_Md_apart_84 : decode b_Md_apart 84 = .ok (.istore 11, 2) := by decide +kernel
theorem d_Md_apart_86 : decode b_Md_apart 86 = .ok (.iload_n 3, 1) := by decide +kernel
theorem d_Md_apart_87 : decode b_Md_apart 87 = .ok (.ifCond .eq 21, 3) := by decide +kernel
theorem d_Md_apart_90 : decode b_Md_apart 90 = .ok (.lload 6, 2) := by decide +kernel
theorem d_Md_apart_92 : decode b_Md_apart 92 = .ok (.bipush 31, 2) := by decide +kernel
theorem d_Md_apart_94 : decode b_Md_apart 94 = .ok (.lshr, 1) := by decide +kernel
theorem d_Md_apart_95 : decode b_Md_apart 95 = .ok (.lconst 0, 1) := by decide +kernel
theorem d_Md_apart_96 : decode b_Md_apart 96 = .ok (.lcmp, 1) := by decide +kernel
theorem d_Md_apart_97 : decode b_Md_apart 97 = .ok (.ifCond .eq 7, 3) := by decide +kernel
theorem d_Md_apart_100 : decode b_Md_apart 100 = .ok (.iconst 1, 1) := by decide +kernel
theorem d_Md_apart_101 : decode b_Md_apart 101 = .ok (.goto 19, 3) := by decide +kernel
theorem d_Md_apart_104 : decode b_Md_apart 104 = .ok (.iconst 0, 1) := by decide +kernel
theorem d_Md_apart_105 : decode b_Md_apart 105 = .ok (.goto 15, 3) := by decide +kernel
theorem d_Md_apart_108 : decode b_Md_apart 108 = .ok (.lload 6, 2) := by decide +kernel
theorem d_Md_apart_110 : decode b_Md_apart 110 = .ok (.lconst 0, 1) := by decide +kernel
theorem d_Md_apart_111 : decode b_Md_apart 111 = .ok (.lcmp, 1) := by decide +kernel
theorem d_Md_apart_112 : decode b_Md_apart 112 = .ok (.ifCond .ge 7, 3) := by decide +kernel
theorem d_Md_apart_115 : decode b_Md_apart 115 = .ok (.iconst 1, 1) := by decide +kernel
theorem d_Md_apart_116 : decode b_Md_apart 116 = .ok (.goto 4, 3) := by decide +kernel
theorem d_Md_apart_119 : decode b_Md_apart 119 = .ok (.iconst 0, 1) := by decide +kernel
theorem d_Md_apart_120 : decode b_Md_apart 120 = .ok (.istore 12, 2) := by decide +kernel
theorem d_Md_apart_122 : decode b_Md_apart 122 = .ok (.iload 8, 2) := by decide +kernel
theorem d_Md_apart_124 : decode b_Md_apart 124 = .ok (.ifCond .ne 8, 3) := by decide +kernel
theorem d_Md_apart_127 : decode b_Md_apart 127 = .ok (.lload 9, 2) := by decide +kernel
theorem d_Md_apart_129 : decode b_Md_apart 129 = .ok (.goto 10, 3) := by decide +kernel
theorem d_Md_apart_132 : decode b_Md_apart 132 = .ok (.lload 9, 2) := by decide +kernel
theorem d_Md_apart_134 : decode b_Md_apart 134 = .ok (.lconst 1, 1) := by decide +kernel
theorem d_Md_apart_135 : decode b_Md_apart 135 = .ok (.iload 5, 2) := by decide +kernel
theorem d_Md_apart_137 : decode b_Md_apart 137 = .ok (.lshl, 1) := by decide +kernel
theorem d_Md_apart_138 : decode b_Md_apart 138 = .ok (.lor, 1) := by decide +kernel
theorem d_Md_apart_139 : decode b_Md_apart 139 = .ok (.lstore 13, 2) := by decide +kernel
theorem d_Md_apart_141 : decode b_Md_apart 141 = .ok (.iload 8, 2) := by decide +kernel
theorem d_Md_apart_143 : decode b_Md_apart 143 = .ok (.ifCond .ne 7, 3) := by decide +kernel
theorem d_Md_apart_146 : decode b_Md_apart 146 = .ok (.iconst 1, 1) := by decide +kernel
theorem d_Md_apart_147 : decode b_Md_apart 147 = .ok (.goto 5, 3) := by decide +kernel
theorem d_Md_apart_150 : decode b_Md_apart 150 = .ok (.iload 8, 2) := by decide +kernel
theorem d_Md_apart_152 : decode b_Md_apart 152 = .ok (.iload_n 3, 1) := by decide +kernel
theorem d_Md_apart_153 : decode b_Md_apart 153 = .ok (.ifCond .eq 9, 3) := by decide +kernel
theorem d_Md_apart_156 : decode b_Md_apart 156 = .ok (.sipush 150, 3) := by decide +kernel
theorem d_Md_apart_159 : decode b_Md_apart 159 = .ok (.goto 6, 3) := by decide +kernel
theorem d_Md_apart_162 : decode b_Md_apart 162 = .ok (.sipush 1075, 3) := by decide +kernel
theorem d_Md_apart_165 : decode b_Md_apart 165 = .ok (.isub, 1) := by decide +kernel
theorem d_Md_apart_166 : decode b_Md_apart 166 = .ok (.istore 15, 2) := by decide +kernel
theorem d_Md_apart_168 : decode b_Md_apart 168 = .ok (.iload 4, 2) := by decide +kernel
theorem d_Md_apart_170 : decode b_Md_apart 170 = .ok (.ifCond .eq 66, 3) := by decide +kernel
theorem d_Md_apart_173 : decode b_Md_apart 173 = .ok (.aload_n 0, 1) := by decide +kernel
theorem d_Md_apart_174 : decode b_Md_apart 174 = .ok (.lload 13, 2) := by decide +kernel
theorem d_Md_apart_176 : decode b_Md_apart 176 = .ok (.putfield 44, 3) := by decide +kernel
theorem d_Md_apart_179 : decode b_Md_apart 179 = .ok (.aload_n 0, 1) := by decide +kernel
theorem d_Md_apart_180 : decode b_Md_apart 180 = .ok (.iload 15, 2) := by decide +kernel
theorem d_Md_apart_182 : decode b_Md_apart 182 = .ok (.putfield 48, 3) := by decide +kernel
theorem d_Md_apart_185 : decode b_Md_apart 185 = .ok (.aload_n 0, 1) := by decide +kernel
theorem d_Md_apart_186 : decode b_Md_apart 186 = .ok (.iload 12, 2) := by decide +kernel
theorem d_Md_apart_188 : decode b_Md_apart 188 = .ok (.putfield 51, 3) := by decide +kernel
theorem d_Md_apart_191 : decode b_Md_apart 191 = .ok (.aload_n 0, 1) := by decide +kernel
theorem d_Md_apart_192 : decode b_Md_apart 192 = .ok (.iload 11, 2) := by decide +kernel
theorem d_Md_apart_194 : decode b_Md_apart 194 = .ok (.ifCond .eq 14, 3) := by decide +kernel
theorem d_Md_apart_197 : decode b_Md_apart 197 = .ok (.lload 9, 2) := by decide +kernel
theorem d_Md_apart_199 : decode b_Md_apart 199 = .ok (.lconst 0, 1) := by decide +kernel
theorem d_Md_apart_200 : decode b_Md_apart 200 = .ok (.lcmp, 1) := by decide +kernel
theorem d_Md_apart_201 : decode b_Md_apart 201 = .ok (.ifCond .eq 7, 3) := by decide +kernel
theorem d_Md_apart_204 : decode b_Md_apart 204 = .ok (.iconst 1, 1) := by decide +kernel
theorem d_Md_apart_205 : decode b_Md_apart 205 = .ok (.goto 4, 3) := by decide +kernel
theorem d_Md_apart_208 : decode b_Md_apart 208 = .ok (.iconst 0, 1) := by decide +kernel
theorem d_Md_apart_209 : decode b_Md_apart 209 = .ok (.putfield 55, 3) := by decide +kernel
theorem d_Md_apart_212 : decode b_Md_apart 212 = .ok (.aload_n 0, 1) := by decide +kernel
theorem d_Md_apart_213 : decode b_Md_apart 213 = .ok (.iload 11, 2) := by decide +kernel
theorem d_Md_apart_215 : decode b_Md_apart 215 = .ok (.ifCond .eq 14, 3) := by decide +kernel
theorem d_Md_apart_218 : decode b_Md_apart 218 = .ok (.lload 9, 2) := by decide +kernel
theorem d_Md_apart_220 : decode b_Md_apart 220 = .ok (.lconst 0, 1) := by decide +kernel
theorem d_Md_apart_221 : decode b_Md_apart 221 = .ok (.lcmp, 1) := by decide +kernel
theorem d_Md_apart_222 : decode b_Md_apart 222 = .ok (.ifCond .ne 7, 3) := by decide +kernel
theorem d_Md_apart_225 : decode b_Md_apart 225 = .ok (.iconst 1, 1) := by decide +kernel
theorem d_Md_apart_226 : decode b_Md_apart 226 = .ok (.goto 4, 3) := by decide +kernel
theorem d_Md_apart_229 : decode b_Md_apart 229 = .ok (.iconst 0, 1) := by decide +kernel
theorem d_Md_apart_230 : decode b_Md_apart 230 = .ok (.putfield 58, 3) := by decide +kernel
theorem d_Md_apart_233 : decode b_Md_apart 233 = .ok (.goto 63, 3) := by decide +kernel
theorem d_Md_apart_236 : decode b_Md_apart 236 = .ok (.aload_n 0, 1) := by decide +kernel
theorem d_Md_apart_237 : decode b_Md_apart 237 = .ok (.lload 13, 2) := by decide +kernel
theorem d_Md_apart_239 : decode b_Md_apart 239 = .ok (.putfield 61, 3) := by decide +kernel
theorem d_Md_apart_242 : decode b_Md_apart 242 = .ok (.aload_n 0, 1) := by decide +kernel
theorem d_Md_apart_243 : decode b_Md_apart 243 = .ok (.iload 15, 2) := by decide +kernel
theorem d_Md_apart_245 : decode b_Md_apart 245 = .ok (.putfield 64, 3) := by decide +kernel
theorem d_Md_apart_248 : decode b_Md_apart 248 = .ok (.aload_n 0, 1) := by decide +kernel
theorem d_Md_apart_249 : decode b_Md_apart 249 = .ok (.iload 12, 2) := by decide +kernel
theorem d_Md_apart_251 : decode b_Md_apart 251 = .ok (.putfield 67, 3) := by decide +kernel
theorem d_Md_apart_254 : decode b_Md_apart 254 = .ok (.aload_n 0, 1) := by decide +kernel
theorem d_Md_apart_255 : decode b_Md_apart 255 = .ok (.iload 11, 2) := by decide +kernel
theorem d_Md_apart_257 : decode b_Md_apart 257 = .ok (.ifCond .eq 14, 3) := by decide +kernel
theorem d_Md_apart_260 : decode b_Md_apart 260 = .ok (.lload 9, 2) := by decide +kernel
theorem d_Md_apart_262 : decode b_Md_apart 262 = .ok (.lconst 0, 1) := by decide +kernel
theorem d_Md_apart_263 : decode b_Md_apart 263 = .ok (.lcmp, 1) := by decide +kernel
theorem d_Md_apart_264 : decode b_Md_apart 264 = .ok (.ifCond .eq 7, 3) := by decide +kernel
theorem d_Md_apart_267 : decode b_Md_apart 267 = .ok (.iconst 1, 1) := by decide +kernel
theorem d_Md_apart_268 : decode b_Md_apart 268 = .ok (.goto 4, 3) := by decide +kernel
theorem d_Md_apart_271 : decode b_Md_apart 271 = .ok (.iconst 0, 1) := by decide +kernel
theorem d_Md_apart_272 : decode b_Md_apart 272 = .ok (.putfield 70, 3) := by decide +kernel
theorem d_Md_apart_275 : decode b_Md_apart 275 = .ok (.aload_n 0, 1) := by decide +kernel
theorem d_Md_apart_276 : decode b_Md_apart 276 = .ok (.iload 11, 2) := by decide +kernel
theorem d_Md_apart_278 : decode b_Md_apart 278 = .ok (.ifCond .eq 14, 3) := by decide +kernel
theorem d_Md_apart_281 : decode b_Md_apart 281 = .ok (.lload 9, 2) := by decide +kernel
theorem d_Md_apart_283 : decode b_Md_apart 283 = .ok (.lconst 0, 1) := by decide +kernel
theorem d_Md_apart_284 : decode b_Md_apart 284 = .ok (.lcmp, 1) := by decide +kernel
theorem d_Md_apart_285 : decode b_Md_apart 285 = .ok (.ifCond .ne 7, 3) := by decide +kernel
theorem d_Md_apart_288 : decode b_Md_apart 288 = .ok (.iconst 1, 1) := by decide +kernel
theorem d_Md_apart_289 : decode b_Md_apart 289 = .ok (.goto 4, 3) := by decide +kernel
theorem d_Md_apart_292 : decode b_Md_apart 292 = .ok (.iconst 0, 1) := by decide +kernel
theorem d_Md_apart_293 : decode b_Md_apart 293 = .ok (.putfield 73, 3) := by decide +kernel
theorem d_Md_apart_296 : decode b_Md_apart 296 = .ok (.return_, 1) := by decide +kernel
def F_Md_apart (m1 : Int64) (m2 : Int64) (e1 : Int32) (e2 : Int32) (mi1 : Int32) (mi2 : Int32) (na1 : Int32) (na2 : Int32) (fa1 : Int32) (fa2 : Int32) (a1 : Int64) (a2 : Int32) (a3 : Int32) : Int64 × Int64 × Int32 × Int32 × Int32 × Int32 × Int32 × Int32 × Int32 × Int32 := lt_ (if a2 = 0 then (52 : Int32) else (23 : Int32)) fun x1 => lt_ (if a2 = 0 then a1 else a1 &&& (4294967295 : Int64)) fun x2 => lt_ (if a2 = 0 then (2047 : Int32) else (255 : Int32)) fun x3 => lt_ (((((x2).toUInt64 >>> ((x1).toInt64.toUInt64 &&& Int64.toUInt64 63)).toInt64).toInt32) &&& x3) fun x4 => lt_ (x2 &&& (((1 : Int64) <<< ((x1).toInt64 &&& 63)) - (1 : Int64))) fun x5 => lt_ (if a2 = 0 then (2047 : Int32) else (255 : Int32)) fun x6 => lt_ (if ¬ x4 = x6 then (0 : Int32) else (1 : Int32)) fun x7 => lt_ (if a2 = 0 then if (0 : Int64) ≤ x2 then (0 : Int32) else (1 : Int32) else if (x2 >>> (((31 : Int32)).toInt64 &&& 63)) = (0 : Int64) then (0 : Int32) else (1 : Int32)) fun x8 => lt_ (if ¬ x4 = 0 then x5 ||| ((1 : Int64) <<< ((x1).toInt64 &&& 63)) else x5) fun x9 => lt_ (if ¬ x4 = 0 then x4 else (1 : Int32)) fun x10 => lt_ (if a2 = 0 then (1075 : Int32) else (150 : Int32)) fun x11 => lt_ (x10 - x11) fun x12 => lt_ (fun (m1_13 : Int64) (m2_14 : Int64) (e1_15 : Int32) (e2_16 : Int32) (mi1_17 : Int32) (mi2_18 : Int32) (na1_19 : Int32) (na2_20 : Int32) (fa1_21 : Int32) (fa2_22 : Int32) => (m1_13, m2_14, e1_15, e2_16, mi1_17, mi2_18, na1_19, na2_20, fa1_21, fa2_22)) fun j296 => if a3 = 0 then (lt_ (if x7 = 0 then (0 : Int32) else if x5 = (0 : Int64) then (0 : Int32) else (1 : Int32)) fun x23 => lt_ (if x7 = 0 then (0 : Int32) else if ¬ x5 = (0 : Int64) then (0 : Int32) else (1 : Int32)) fun x24 => j296 m1 x9 e1 x12 mi1 x8 na1 x23 fa1 x24) else (lt_ (if x7 = 0 then (0 : Int32) else if x5 = (0 : Int64) then (0 : Int32) else (1 : Int32)) fun x25 => lt_ (if x7 = 0 then (0 : Int32) else if ¬ x5 = (0 : Int64) then (0 : Int32) else (1 : Int32)) fun x26 => j296 x9 m2 x12 e2 x8 mi2 x25 na2 x26 fa2)
set_option maxHeartbeats 4000000 in
set_option maxRecDepth 100000 in
theorem c_Md_apart (l : Launch) (D : va_G) (A : Nat → Prop) (cI cL cC : ClassId) (ad : Nat → Nat) (X : va_W) (laid : Int32) (gone : Int32) (thr : Int32) (m1 : Int64) (m2 : Int64) (e1 : Int32) (e2 : Int32) (mi1 : Int32) (mi2 : Int32) (na1 : Int32) (na2 : Int32) (fa1 : Int32) (fa2 : Int32) (lets : Nat → Int32) (rlen : Int32) (rlaid : Int32) (rgone : Int32) (rthr : Int32) (were : Int32) (none_ : Int32) (beyo : Int32) (aN : Int32) (bN : Int32) (fN : Int32) (lN_ : Int32) (rN : Int32) (pN : Int32) (twos : Int32) (at_ : Int32) (rdig : Int32) (rpow : Int32) (good : Int32) (txt : Nat → Int32) (wri : Nat → Int32) (ra : Nat → Int32) (rb : Nat → Int32) (rfive : Nat → Int32) (rleft : Nat → Int32) (rright : Nat → Int32) (rpart : Nat → Int32) (a1 : Int64) (a2 : Int32) (a3 : Int32) (r : Int64 × Int64 × Int32 × Int32 × Int32 × Int32 × Int32 × Int32 × Int32 × Int32) (h : F_Md_apart m1 m2 e1 e2 mi1 mi2 na1 na2 fa1 fa2 a1 a2 a3 = r) : Met l y_Md_apart (.code y_Md_apart b_Md_apart 16 none :: BIG) ({ frames := 0, cells := 0, slots := 0, locals := 0 } : Room) (va_Pc [.ref (ad 0), .long a1, .int a2, .int a3] (gPre D A (tysV cI cL cC) (gM cI cL cC ad X laid gone thr m1 m2 e1 e2 mi1 mi2 na1 na2 fa1 fa2 lets rlen rlaid rgone rthr were none_ beyo aN bN fN lN_ rN pN twos at_ rdig rpow good txt wri ra rb rfive rleft rright rpart))) (gQ D A none (gM cI cL cC ad X laid gone thr r.1 r.2.1 r.2.2.1 r.2.2.2.1 r.2.2.2.2.1 r.2.2.2.2.2.1 r.2.2.2.2.2.2.1 r.2.2.2.2.2.2.2.1 r.2.2.2.2.2.2.2.2.1 r.2.2.2.2.2.2.2.2.2 lets rlen rlaid rgone rthr were none_ beyo aN bN fN lN_ rN pN twos at_ rdig rpow good txt wri ra rb rfive rleft rright rpart)) 0 0 A := by
  refine gOpen_v rfl (Nat.le_of_ble_eq_true rfl) ?_
  intro p e s m args below meth c Q ls hx hb hml hown hts hT hNB hP hK hD hl hret
  have hown : s.vm.findClass R_Md = some m.cls := hown
  have hS : va_S A s.heap s.heap [] := va_S.rf
  have hl : lv_has ls 16 [(0, .ref (ad 0)), (1, .long a1), (3, .int a2), (4, .int a3)] := hl
  have h : (lt_ (if a2 = 0 then (52 : Int32) else (23 : Int32)) fun x1 => lt_ (if a2 = 0 then a1 else a1 &&& (4294967295 : Int64)) fun x2 => lt_ (if a2 = 0 then (2047 : Int32) else (255 : Int32)) fun x3 => lt_ (((((x2).toUInt64 >>> ((x1).toInt64.toUInt64 &&& Int64.toUInt64 63)).toInt64).toInt32) &&& x3) fun x4 => lt_ (x2 &&& (((1 : Int64) <<< ((x1).toInt64 &&& 63)) - (1 : Int64))) fun x5 => lt_ (if a2 = 0 then (2047 : Int32) else (255 : Int32)) fun x6 => lt_ (if ¬ x4 = x6 then (0 : Int32) else (1 : Int32)) fun x7 => lt_ (if a2 = 0 then if (0 : Int64) ≤ x2 then (0 : Int32) else (1 : Int32) else if (x2 >>> (((31 : Int32)).toInt64 &&& 63)) = (0 : Int64) then (0 : Int32) else (1 : Int32)) fun x8 => lt_ (if ¬ x4 = 0 then x5 ||| ((1 : Int64) <<< ((x1).toInt64 &&& 63)) else x5) fun x9 => lt_ (if ¬ x4 = 0 then x4 else (1 : Int32)) fun x10 => lt_ (if a2 = 0 then (1075 : Int32) else (150 : Int32)) fun x11 => lt_ (x10 - x11) fun x12 => lt_ (fun (m1_13 : Int64) (m2_14 : Int64) (e1_15 : Int32) (e2_16 : Int32) (mi1_17 : Int32) (mi2_18 : Int32) (na1_19 : Int32) (na2_20 : Int32) (fa1_21 : Int32) (fa2_22 : Int32) => (m1_13, m2_14, e1_15, e2_16, mi1_17, mi2_18, na1_19, na2_20, fa1_21, fa2_22)) fun j296 => if a3 = 0 then (lt_ (if x7 = 0 then (0 : Int32) else if x5 = (0 : Int64) then (0 : Int32) else (1 : Int32)) fun x23 => lt_ (if x7 = 0 then (0 : Int32) else if ¬ x5 = (0 : Int64) then (0 : Int32) else (1 : Int32)) fun x24 => j296 m1 x9 e1 x12 mi1 x8 na1 x23 fa1 x24) else (lt_ (if x7 = 0 then (0 : Int32) else if x5 = (0 : Int64) then (0 : Int32) else (1 : Int32)) fun x25 => lt_ (if x7 = 0 then (0 : Int32) else if ¬ x5 = (0 : Int64) then (0 : Int32) else (1 : Int32)) fun x26 => j296 x9 m2 x12 e2 x8 mi2 x25 na2 x26 fa2)) = r := h
  refine lv_iload_n hx hb d_Md_apart_0 rfl (lv_at hl 2 rfl) ?_
  obtain ⟨x1, e_x1, h⟩ := lt_o h
  have hJ11 : ∀ (x1' : Int32) (ls : Array Slot), x1 = x1' → lv_has ls 16 [(0, .ref (ad 0)), (1, .long a1), (3, .int a2), (4, .int a3)] → W p l e ({ frames := 0, cells := 0, slots := 0, locals := 0 } : Room) s m args below meth c s.heap [] 0 0 Q (F0 m 11 ls [.int x1']) := by
    intro x1' ls q_x1 hl
    subst q_x1
    refine lv_istore hx hb d_Md_apart_11 hl (by decide) rfl (fun ls hl => ?_)
    have hl : lv_has ls 16 [(5, .int x1), (0, .ref (ad 0)), (1, .long a1), (3, .int a2), (4, .int a3)] := hl
    refine lv_iload_n hx hb d_Md_apart_13 rfl (lv_at hl 3 rfl) ?_
    obtain ⟨x2, e_x2, h⟩ := lt_o h
    have hJ26 : ∀ (x2' : Int64) (ls : Array Slot), x2 = x2' → lv_has ls 16 [(0, .ref (ad 0)), (3, .int a2), (4, .int a3), (5, .int x1)] → W p l e ({ frames := 0, cells := 0, slots := 0, locals := 0 } : Room) s m args below meth c s.heap [] 0 0 Q (F0 m 26 ls [.long x2']) := by
      intro x2' ls q_x2 hl
      subst q_x2
      refine lv_lstore hx hb d_Md_apart_26 hl (by decide) rfl (fun ls hl => ?_)
      have hl : lv_has ls 16 [(6, .long x2), (0, .ref (ad 0)), (3, .int a2), (4, .int a3), (5, .int x1)] := hl
      refine lv_lload hx hb d_Md_apart_28 (lv_at hl 0 rfl) ?_
      refine lv_iload hx hb d_Md_apart_30 (lv_at hl 4 rfl) ?_
      refine lv_lushr hx hb d_Md_apart_32 rfl ?_
      refine lv_l2i hx hb d_Md_apart_33 rfl ?_
      refine lv_iload_n hx hb d_Md_apart_34 rfl (lv_at hl 2 rfl) ?_
      obtain ⟨x3, e_x3, h⟩ := lt_o h
      have hJ47 : ∀ (x3' : Int32) (ls : Array Slot), x3 = x3' → lv_has ls 16 [(0, .ref (ad 0)), (3, .int a2), (4, .int a3), (5, .int x1), (6, .long x2)] → W p l e ({ frames := 0, cells := 0, slots := 0, locals := 0 } : Room) s m args below meth c s.heap [] 0 0 Q (F0 m 47 ls [.int x3', .int ((((x2).toUInt64 >>> ((x1).toInt64.toUInt64 &&& Int64.toUInt64 63)).toInt64).toInt32)]) := by
        intro x3' ls q_x3 hl
        subst q_x3
        refine lv_iand hx hb d_Md_apart_47 ?_
        refine lv_topi (fun x4 e_x4 => ?_)
        have h := lt_h e_x4 h
        refine lv_istore hx hb d_Md_apart_48 hl (by decide) rfl (fun ls hl => ?_)
        have hl : lv_has ls 16 [(8, .int x4), (0, .ref (ad 0)), (3, .int a2), (4, .int a3), (5, .int x1), (6, .long x2)] := hl
        refine lv_lload hx hb d_Md_apart_50 (lv_at hl 5 rfl) ?_
        refine lv_lconst hx hb d_Md_apart_52 lc_1 ?_
        refine lv_iload hx hb d_Md_apart_53 (lv_at hl 4 rfl) ?_
        refine lv_lshl hx hb d_Md_apart_55 rfl ?_
        refine lv_lconst hx hb d_Md_apart_56 lc_1 ?_
        refine lv_lsub hx hb d_Md_apart_57 ?_
        refine lv_land hx hb d_Md_apart_58 ?_
        refine lv_topl (fun x5 e_x5 => ?_)
        have h := lt_h e_x5 h
        refine lv_lstore hx hb d_Md_apart_59 hl (by decide) rfl (fun ls hl => ?_)
        have hl : lv_has ls 16 [(9, .long x5), (8, .int x4), (0, .ref (ad 0)), (3, .int a2), (4, .int a3), (5, .int x1), (6, .long x2)] := hl
        refine lv_iload hx hb d_Md_apart_61 (lv_at hl 1 rfl) ?_
        refine lv_iload_n hx hb d_Md_apart_63 rfl (lv_at hl 3 rfl) ?_
        obtain ⟨x6, e_x6, h⟩ := lt_o h
        have hJ76 : ∀ (x6' : Int32) (ls : Array Slot), x6 = x6' → lv_has ls 16 [(0, .ref (ad 0)), (3, .int a2), (4, .int a3), (5, .int x1), (6, .long x2), (8, .int x4), (9, .long x5)] → W p l e ({ frames := 0, cells := 0, slots := 0, locals := 0 } : Room) s m args below meth c s.heap [] 0 0 Q (F0 m 76 ls [.int x6', .int x4]) := by
          intro x6' ls q_x6 hl
          subst q_x6
          obtain ⟨x7, e_x7, h⟩ := lt_o h
          have hJ84 : ∀ (x7' : Int32) (ls : Array Slot), x7 = x7' → lv_has ls 16 [(0, .ref (ad 0)), (3, .int a2), (4, .int a3), (5, .int x1), (6, .long x2), (8, .int x4), (9, .long x5)] → W p l e ({ frames := 0, cells := 0, slots := 0, locals := 0 } : Room) s m args below meth c s.heap [] 0 0 Q (F0 m 84 ls [.int x7']) := by
            intro x7' ls q_x7 hl
            subst q_x7
            refine lv_istore hx hb d_Md_apart_84 hl (by decide) rfl (fun ls hl => ?_)
            have hl : lv_has ls 16 [(11, .int x7), (0, .ref (ad 0)), (3, .int a2), (4, .int a3), (5, .int x1), (6, .long x2), (8, .int x4), (9, .long x5)] := hl
            refine lv_iload_n hx hb d_Md_apart_86 rfl (lv_at hl 2 rfl) ?_
            obtain ⟨x8, e_x8, h⟩ := lt_o h
            have hJ120 : ∀ (x8' : Int32) (ls : Array Slot), x8 = x8' → lv_has ls 16 [(0, .ref (ad 0)), (3, .int a2), (4, .int a3), (5, .int x1), (8, .int x4), (9, .long x5), (11, .int x7)] → W p l e ({ frames := 0, cells := 0, slots := 0, locals := 0 } : Room) s m args below meth c s.heap [] 0 0 Q (F0 m 120 ls [.int x8']) := by
              intro x8' ls q_x8 hl
              subst q_x8
              refine lv_istore hx hb d_Md_apart_120 hl (by decide) rfl (fun ls hl => ?_)
              have hl : lv_has ls 16 [(12, .int x8), (0, .ref (ad 0)), (3, .int a2), (4, .int a3), (5, .int x1), (8, .int x4), (9, .long x5), (11, .int x7)] := hl
              refine lv_iload hx hb d_Md_apart_122 (lv_at hl 5 rfl) ?_
              obtain ⟨x9, e_x9, h⟩ := lt_o h
              have hJ139 : ∀ (x9' : Int64) (ls : Array Slot), x9 = x9' → lv_has ls 16 [(0, .ref (ad 0)), (3, .int a2), (4, .int a3), (8, .int x4), (9, .long x5), (11, .int x7), (12, .int x8)] → W p l e ({ frames := 0, cells := 0, slots := 0, locals := 0 } : Room) s m args below meth c s.heap [] 0 0 Q (F0 m 139 ls [.long x9']) := by
                intro x9' ls q_x9 hl
                subst q_x9
                refine lv_lstore hx hb d_Md_apart_139 hl (by decide) rfl (fun ls hl => ?_)
                have hl : lv_has ls 16 [(13, .long x9), (0, .ref (ad 0)), (3, .int a2), (4, .int a3), (8, .int x4), (9, .long x5), (11, .int x7), (12, .int x8)] := hl
                refine lv_iload hx hb d_Md_apart_141 (lv_at hl 4 rfl) ?_
                obtain ⟨x10, e_x10, h⟩ := lt_o h
                have hJ152 : ∀ (x10' : Int32) (ls : Array Slot), x10 = x10' → lv_has ls 16 [(0, .ref (ad 0)), (3, .int a2), (4, .int a3), (9, .long x5), (11, .int x7), (12, .int x8), (13, .long x9)] → W p l e ({ frames := 0, cells := 0, slots := 0, locals := 0 } : Room) s m args below meth c s.heap [] 0 0 Q (F0 m 152 ls [.int x10']) := by
                  intro x10' ls q_x10 hl
                  subst q_x10
                  refine lv_iload_n hx hb d_Md_apart_152 rfl (lv_at hl 1 rfl) ?_
                  obtain ⟨x11, e_x11, h⟩ := lt_o h
                  have hJ165 : ∀ (x11' : Int32) (ls : Array Slot), x11 = x11' → lv_has ls 16 [(0, .ref (ad 0)), (4, .int a3), (9, .long x5), (11, .int x7), (12, .int x8), (13, .long x9)] → W p l e ({ frames := 0, cells := 0, slots := 0, locals := 0 } : Room) s m args below meth c s.heap [] 0 0 Q (F0 m 165 ls [.int x11', .int x10]) := by
                    intro x11' ls q_x11 hl
                    subst q_x11
                    refine lv_isub hx hb d_Md_apart_165 ?_
                    refine lv_topi (fun x12 e_x12 => ?_)
                    have h := lt_h e_x12 h
                    refine lv_istore hx hb d_Md_apart_166 hl (by decide) rfl (fun ls hl => ?_)
                    have hl : lv_has ls 16 [(15, .int x12), (0, .ref (ad 0)), (4, .int a3), (9, .long x5), (11, .int x7), (12, .int x8), (13, .long x9)] := hl
                    refine lv_iload hx hb d_Md_apart_168 (lv_at hl 2 rfl) ?_
                    obtain ⟨j296, e_j296, h⟩ := lt_o h
                    have hJ296 : ∀ (m1_13 : Int64) (m2_14 : Int64) (e1_15 : Int32) (e2_16 : Int32) (mi1_17 : Int32) (mi2_18 : Int32) (na1_19 : Int32) (na2_20 : Int32) (fa1_21 : Int32) (fa2_22 : Int32) (ls : Array Slot) (H : Heap) (locs : List Loc), lv_has ls 16 [] → va_P D cls (gM cI cL cC ad X laid gone thr m1_13 m2_14 e1_15 e2_16 mi1_17 mi2_18 na1_19 na2_20 fa1_21 fa2_22 lets rlen rlaid rgone rthr were none_ beyo aN bN fN lN_ rN pN twos at_ rdig rpow good txt wri ra rb rfive rleft rright rpart) H → va_D A (gM cI cL cC ad X laid gone thr m1_13 m2_14 e1_15 e2_16 mi1_17 mi2_18 na1_19 na2_20 fa1_21 fa2_22 lets rlen rlaid rgone rthr were none_ beyo aN bN fN lN_ rN pN twos at_ rdig rpow good txt wri ra rb rfive rleft rright rpart) → va_S A s.heap H locs → j296 m1_13 m2_14 e1_15 e2_16 mi1_17 mi2_18 na1_19 na2_20 fa1_21 fa2_22 = r → W p l e ({ frames := 0, cells := 0, slots := 0, locals := 0 } : Room) s m args below meth c H locs 0 0 Q (F0 m 296 ls []) := by
                      intro m1_13 m2_14 e1_15 e2_16 mi1_17 mi2_18 na1_19 na2_20 fa1_21 fa2_22 ls H locs hl hP hD hS h
                      rw [e_j296] at h
                      subst h
                      exact hret 296 ls _ _ hP hD hS d_Md_apart_296
                    refine lv_if_eq (tgt := 236) hx hb d_Md_apart_170 rfl (fun hc => ?_) (fun hc => ?_)
                    · have h := ite_t hc h
                      refine lv_aload_n hx hb d_Md_apart_236 rfl (lv_at hl 1 rfl) ?_
                      refine lv_lload hx hb d_Md_apart_237 (lv_at hl 6 rfl) ?_
                      refine va_put (D := D) (ci := 4) (C := R_Md) (T := T_Md) (N := 15) hx hb hT in_Md ty_Md tyok_Md nm_Md hown hK hP hD hS 0 rfl rfl 6 (by decide) (hT _ m_249) (fun _ h9 => h9) rfl (ty := .long) (by decide +kernel) rfl rfl (by decide : 6 < 15) d_Md_apart_239 (fun H locs hP hD hS => ?_)
                      have hP : va_P D cls (gM cI cL cC ad X laid gone thr m1 x9 e1 e2 mi1 mi2 na1 na2 fa1 fa2 lets rlen rlaid rgone rthr were none_ beyo aN bN fN lN_ rN pN twos at_ rdig rpow good txt wri ra rb rfive rleft rright rpart) H := hP
                      have hD : va_D A (gM cI cL cC ad X laid gone thr m1 x9 e1 e2 mi1 mi2 na1 na2 fa1 fa2 lets rlen rlaid rgone rthr were none_ beyo aN bN fN lN_ rN pN twos at_ rdig rpow good txt wri ra rb rfive rleft rright rpart) := hD
                      refine lv_aload_n hx hb d_Md_apart_242 rfl (lv_at hl 1 rfl) ?_
                      refine lv_iload hx hb d_Md_apart_243 (lv_at hl 0 rfl) ?_
                      refine va_put (D := D) (ci := 4) (C := R_Md) (T := T_Md) (N := 15) hx hb hT in_Md ty_Md tyok_Md nm_Md hown hK hP hD hS 0 rfl rfl 8 (by decide) (hT _ m_250) (fun _ h9 => h9) rfl (ty := .int) (by decide +kernel) rfl rfl (by decide : 8 < 15) d_Md_apart_245 (fun H locs hP hD hS => ?_)
                      have hP : va_P D cls (gM cI cL cC ad X laid gone thr m1 x9 e1 x12 mi1 mi2 na1 na2 fa1 fa2 lets rlen rlaid rgone rthr were none_ beyo aN bN fN lN_ rN pN twos at_ rdig rpow good txt wri ra rb rfive rleft rright rpart) H := hP
                      have hD : va_D A (gM cI cL cC ad X laid gone thr m1 x9 e1 x12 mi1 mi2 na1 na2 fa1 fa2 lets rlen rlaid rgone rthr were none_ beyo aN bN fN lN_ rN pN twos at_ rdig rpow good txt wri ra rb rfive rleft rright rpart) := hD
                      refine lv_aload_n hx hb d_Md_apart_248 rfl (lv_at hl 1 rfl) ?_
                      refine lv_iload hx hb d_Md_apart_249 (lv_at hl 5 rfl) ?_
                      refine va_put (D := D) (ci := 4) (C := R_Md) (T := T_Md) (N := 15) hx hb hT in_Md ty_Md tyok_Md nm_Md hown hK hP hD hS 0 rfl rfl 10 (by decide) (hT _ m_251) (fun _ h9 => h9) rfl (ty := .boolean) (by decide +kernel) (nb_1 ((by rw [e_x8]; exact ite01 (ite01 (Or.inl rfl) (Or.inr rfl)) (ite01 (Or.inl rfl) (Or.inr rfl))))) (nb_2 ((by rw [e_x8]; exact ite01 (ite01 (Or.inl rfl) (Or.inr rfl)) (ite01 (Or.inl rfl) (Or.inr rfl))))) (by decide : 10 < 15) d_Md_apart_251 (fun H locs hP hD hS => ?_)
                      have hP : va_P D cls (gM cI cL cC ad X laid gone thr m1 x9 e1 x12 mi1 x8 na1 na2 fa1 fa2 lets rlen rlaid rgone rthr were none_ beyo aN bN fN lN_ rN pN twos at_ rdig rpow good txt wri ra rb rfive rleft rright rpart) H := hP
                      have hD : va_D A (gM cI cL cC ad X laid gone thr m1 x9 e1 x12 mi1 x8 na1 na2 fa1 fa2 lets rlen rlaid rgone rthr were none_ beyo aN bN fN lN_ rN pN twos at_ rdig rpow good txt wri ra rb rfive rleft rright rpart) := hD
                      refine lv_aload_n hx hb d_Md_apart_254 rfl (lv_at hl 1 rfl) ?_
                      refine lv_iload hx hb d_Md_apart_255 (lv_at hl 4 rfl) ?_
                      obtain ⟨x23, e_x23, h⟩ := lt_o h
                      have hJ272 : ∀ (x23' : Int32) (ls : Array Slot), x23 = x23' → lv_has ls 16 [(0, .ref (ad 0)), (9, .long x5), (11, .int x7)] → W p l e ({ frames := 0, cells := 0, slots := 0, locals := 0 } : Room) s m args below meth c H locs 0 0 Q (F0 m 272 ls [.int x23', .ref (ad 0)]) := by
                        intro x23' ls q_x23 hl
                        subst q_x23
                        refine va_put (D := D) (ci := 4) (C := R_Md) (T := T_Md) (N := 15) hx hb hT in_Md ty_Md tyok_Md nm_Md hown hK hP hD hS 0 rfl rfl 12 (by decide) (hT _ m_252) (fun _ h9 => h9) rfl (ty := .boolean) (by decide +kernel) (nb_1 ((by rw [e_x23]; exact ite01 (Or.inl rfl) (ite01 (Or.inl rfl) (Or.inr rfl))))) (nb_2 ((by rw [e_x23]; exact ite01 (Or.inl rfl) (ite01 (Or.inl rfl) (Or.inr rfl))))) (by decide : 12 < 15) d_Md_apart_272 (fun H locs hP hD hS => ?_)
                        have hP : va_P D cls (gM cI cL cC ad X laid gone thr m1 x9 e1 x12 mi1 x8 na1 x23 fa1 fa2 lets rlen rlaid rgone rthr were none_ beyo aN bN fN lN_ rN pN twos at_ rdig rpow good txt wri ra rb rfive rleft rright rpart) H := hP
                        have hD : va_D A (gM cI cL cC ad X laid gone thr m1 x9 e1 x12 mi1 x8 na1 x23 fa1 fa2 lets rlen rlaid rgone rthr were none_ beyo aN bN fN lN_ rN pN twos at_ rdig rpow good txt wri ra rb rfive rleft rright rpart) := hD
                        refine lv_aload_n hx hb d_Md_apart_275 rfl (lv_at hl 0 rfl) ?_
                        refine lv_iload hx hb d_Md_apart_276 (lv_at hl 2 rfl) ?_
                        obtain ⟨x24, e_x24, h⟩ := lt_o h
                        have hJ293 : ∀ (x24' : Int32) (ls : Array Slot), x24 = x24' → lv_has ls 16 [] → W p l e ({ frames := 0, cells := 0, slots := 0, locals := 0 } : Room) s m args below meth c H locs 0 0 Q (F0 m 293 ls [.int x24', .ref (ad 0)]) := by
                          intro x24' ls q_x24 hl
                          subst q_x24
                          refine va_put (D := D) (ci := 4) (C := R_Md) (T := T_Md) (N := 15) hx hb hT in_Md ty_Md tyok_Md nm_Md hown hK hP hD hS 0 rfl rfl 14 (by decide) (hT _ m_253) (fun _ h9 => h9) rfl (ty := .boolean) (by decide +kernel) (nb_1 ((by rw [e_x24]; exact ite01 (Or.inl rfl) (ite01 (Or.inl rfl) (Or.inr rfl))))) (nb_2 ((by rw [e_x24]; exact ite01 (Or.inl rfl) (ite01 (Or.inl rfl) (Or.inr rfl))))) (by decide : 14 < 15) d_Md_apart_293 (fun H locs hP hD hS => ?_)
                          have hP : va_P D cls (gM cI cL cC ad X laid gone thr m1 x9 e1 x12 mi1 x8 na1 x23 fa1 x24 lets rlen rlaid rgone rthr were none_ beyo aN bN fN lN_ rN pN twos at_ rdig rpow good txt wri ra rb rfive rleft rright rpart) H := hP
                          have hD : va_D A (gM cI cL cC ad X laid gone thr m1 x9 e1 x12 mi1 x8 na1 x23 fa1 x24 lets rlen rlaid rgone rthr were none_ beyo aN bN fN lN_ rN pN twos at_ rdig rpow good txt wri ra rb rfive rleft rright rpart) := hD
                          exact hJ296 _ _ _ _ _ _ _ _ _ _ ls _ _ (lv_sub hl [] rfl) hP hD hS h
                        refine lv_if_eq (tgt := 292) hx hb d_Md_apart_278 rfl (fun hc => ?_) (fun hc => ?_)
                        · have e_x24 := e_x24.trans (if_pos hc)
                          refine lv_iconst hx hb d_Md_apart_292 ic_0 ?_
                          exact hJ293 _ ls e_x24 (lv_sub hl [] rfl)
                        · have e_x24 := e_x24.trans (if_neg hc)
                          refine lv_lload hx hb d_Md_apart_281 (lv_at hl 1 rfl) ?_
                          refine lv_lconst hx hb d_Md_apart_283 lc_0 ?_
                          refine W.lcmp hx hb d_Md_apart_284 ?_
                          refine lv_if_ne (tgt := 292) hx hb d_Md_apart_285 rfl (fun hc => ?_) (fun hc => ?_)
                          · have hc := mt (lg_cmp_eq _ _).mpr hc
                            have e_x24 := e_x24.trans (if_pos hc)
                            refine lv_iconst hx hb d_Md_apart_292 ic_0 ?_
                            exact hJ293 _ ls e_x24 (lv_sub hl [] rfl)
                          · have hc := not_not_intro ((lg_cmp_eq _ _).mp hc)
                            have e_x24 := e_x24.trans (if_neg hc)
                            refine lv_iconst hx hb d_Md_apart_288 ic_1 ?_
                            refine lv_goto (tgt := 293) hx hb d_Md_apart_289 rfl ?_
                            exact hJ293 _ ls e_x24 (lv_sub hl [] rfl)
                      refine lv_if_eq (tgt := 271) hx hb d_Md_apart_257 rfl (fun hc => ?_) (fun hc => ?_)
                      · have e_x23 := e_x23.trans (if_pos hc)
                        refine lv_iconst hx hb d_Md_apart_271 ic_0 ?_
                        exact hJ272 _ ls e_x23 (lv_sub hl [1, 3, 4] rfl)
                      · have e_x23 := e_x23.trans (if_neg hc)
                        refine lv_lload hx hb d_Md_apart_260 (lv_at hl 3 rfl) ?_
                        refine lv_lconst hx hb d_Md_apart_262 lc_0 ?_
                        refine W.lcmp hx hb d_Md_apart_263 ?_
                        refine lv_if_eq (tgt := 271) hx hb d_Md_apart_264 rfl (fun hc => ?_) (fun hc => ?_)
                        · have hc := (lg_cmp_eq _ _).mp hc
                          have e_x23 := e_x23.trans (if_pos hc)
                          refine lv_iconst hx hb d_Md_apart_271 ic_0 ?_
                          exact hJ272 _ ls e_x23 (lv_sub hl [1, 3, 4] rfl)
                        · have hc := mt (lg_cmp_eq _ _).mpr hc
                          have e_x23 := e_x23.trans (if_neg hc)
                          refine lv_iconst hx hb d_Md_apart_267 ic_1 ?_
                          refine lv_goto (tgt := 272) hx hb d_Md_apart_268 rfl ?_
                          exact hJ272 _ ls e_x23 (lv_sub hl [1, 3, 4] rfl)
                    · have h := ite_f hc h
                      refine lv_aload_n hx hb d_Md_apart_173 rfl (lv_at hl 1 rfl) ?_
                      refine lv_lload hx hb d_Md_apart_174 (lv_at hl 6 rfl) ?_
                      refine va_put (D := D) (ci := 4) (C := R_Md) (T := T_Md) (N := 15) hx hb hT in_Md ty_Md tyok_Md nm_Md hown hK hP hD hS 0 rfl rfl 5 (by decide) (hT _ m_254) (fun _ h9 => h9) rfl (ty := .long) (by decide +kernel) rfl rfl (by decide : 5 < 15) d_Md_apart_176 (fun H locs hP hD hS => ?_)
                      have hP : va_P D cls (gM cI cL cC ad X laid gone thr x9 m2 e1 e2 mi1 mi2 na1 na2 fa1 fa2 lets rlen rlaid rgone rthr were none_ beyo aN bN fN lN_ rN pN twos at_ rdig rpow good txt wri ra rb rfive rleft rright rpart) H := hP
                      have hD : va_D A (gM cI cL cC ad X laid gone thr x9 m2 e1 e2 mi1 mi2 na1 na2 fa1 fa2 lets rlen rlaid rgone rthr were none_ beyo aN bN fN lN_ rN pN twos at_ rdig rpow good txt wri ra rb rfive rleft rright rpart) := hD
                      refine lv_aload_n hx hb d_Md_apart_179 rfl (lv_at hl 1 rfl) ?_
                      refine lv_iload hx hb d_Md_apart_180 (lv_at hl 0 rfl) ?_
                      refine va_put (D := D) (ci := 4) (C := R_Md) (T := T_Md) (N := 15) hx hb hT in_Md ty_Md tyok_Md nm_Md hown hK hP hD hS 0 rfl rfl 7 (by decide) (hT _ m_255) (fun _ h9 => h9) rfl (ty := .int) (by decide +kernel) rfl rfl (by decide : 7 < 15) d_Md_apart_182 (fun H locs hP hD hS => ?_)
                      have hP : va_P D cls (gM cI cL cC ad X laid gone thr x9 m2 x12 e2 mi1 mi2 na1 na2 fa1 fa2 lets rlen rlaid rgone rthr were none_ beyo aN bN fN lN_ rN pN twos at_ rdig rpow good txt wri ra rb rfive rleft rright rpart) H := hP
                      have hD : va_D A (gM cI cL cC ad X laid gone thr x9 m2 x12 e2 mi1 mi2 na1 na2 fa1 fa2 lets rlen rlaid rgone rthr were none_ beyo aN bN fN lN_ rN pN twos at_ rdig rpow good txt wri ra rb rfive rleft rright rpart) := hD
                      refine lv_aload_n hx hb d_Md_apart_185 rfl (lv_at hl 1 rfl) ?_
                      refine lv_iload hx hb d_Md_apart_186 (lv_at hl 5 rfl) ?_
                      refine va_put (D := D) (ci := 4) (C := R_Md) (T := T_Md) (N := 15) hx hb hT in_Md ty_Md tyok_Md nm_Md hown hK hP hD hS 0 rfl rfl 9 (by decide) (hT _ m_256) (fun _ h9 => h9) rfl (ty := .boolean) (by decide +kernel) (nb_1 ((by rw [e_x8]; exact ite01 (ite01 (Or.inl rfl) (Or.inr rfl)) (ite01 (Or.inl rfl) (Or.inr rfl))))) (nb_2 ((by rw [e_x8]; exact ite01 (ite01 (Or.inl rfl) (Or.inr rfl)) (ite01 (Or.inl rfl) (Or.inr rfl))))) (by decide : 9 < 15) d_Md_apart_188 (fun H locs hP hD hS => ?_)
                      have hP : va_P D cls (gM cI cL cC ad X laid gone thr x9 m2 x12 e2 x8 mi2 na1 na2 fa1 fa2 lets rlen rlaid rgone rthr were none_ beyo aN bN fN lN_ rN pN twos at_ rdig rpow good txt wri ra rb rfive rleft rright rpart) H := hP
                      have hD : va_D A (gM cI cL cC ad X laid gone thr x9 m2 x12 e2 x8 mi2 na1 na2 fa1 fa2 lets rlen rlaid rgone rthr were none_ beyo aN bN fN lN_ rN pN twos at_ rdig rpow good txt wri ra rb rfive rleft rright rpart) := hD
                      refine lv_aload_n hx hb d_Md_apart_191 rfl (lv_at hl 1 rfl) ?_
                      refine lv_iload hx hb d_Md_apart_192 (lv_at hl 4 rfl) ?_
                      obtain ⟨x25, e_x25, h⟩ := lt_o h
                      have hJ209 : ∀ (x25' : Int32) (ls : Array Slot), x25 = x25' → lv_has ls 16 [(0, .ref (ad 0)), (9, .long x5), (11, .int x7)] → W p l e ({ frames := 0, cells := 0, slots := 0, locals := 0 } : Room) s m args below meth c H locs 0 0 Q (F0 m 209 ls [.int x25', .ref (ad 0)]) := by
                        intro x25' ls q_x25 hl
                        subst q_x25
                        refine va_put (D := D) (ci := 4) (C := R_Md) (T := T_Md) (N := 15) hx hb hT in_Md ty_Md tyok_Md nm_Md hown hK hP hD hS 0 rfl rfl 11 (by decide) (hT _ m_257) (fun _ h9 => h9) rfl (ty := .boolean) (by decide +kernel) (nb_1 ((by rw [e_x25]; exact ite01 (Or.inl rfl) (ite01 (Or.inl rfl) (Or.inr rfl))))) (nb_2 ((by rw [e_x25]; exact ite01 (Or.inl rfl) (ite01 (Or.inl rfl) (Or.inr rfl))))) (by decide : 11 < 15) d_Md_apart_209 (fun H locs hP hD hS => ?_)
                        have hP : va_P D cls (gM cI cL cC ad X laid gone thr x9 m2 x12 e2 x8 mi2 x25 na2 fa1 fa2 lets rlen rlaid rgone rthr were none_ beyo aN bN fN lN_ rN pN twos at_ rdig rpow good txt wri ra rb rfive rleft rright rpart) H := hP
                        have hD : va_D A (gM cI cL cC ad X laid gone thr x9 m2 x12 e2 x8 mi2 x25 na2 fa1 fa2 lets rlen rlaid rgone rthr were none_ beyo aN bN fN lN_ rN pN twos at_ rdig rpow good txt wri ra rb rfive rleft rright rpart) := hD
                        refine lv_aload_n hx hb d_Md_apart_212 rfl (lv_at hl 0 rfl) ?_
                        refine lv_iload hx hb d_Md_apart_213 (lv_at hl 2 rfl) ?_
                        obtain ⟨x26, e_x26, h⟩ := lt_o h
                        have hJ230 : ∀ (x26' : Int32) (ls : Array Slot), x26 = x26' → lv_has ls 16 [] → W p l e ({ frames := 0, cells := 0, slots := 0, locals := 0 } : Room) s m args below meth c H locs 0 0 Q (F0 m 230 ls [.int x26', .ref (ad 0)]) := by
                          intro x26' ls q_x26 hl
                          subst q_x26
                          refine va_put (D := D) (ci := 4) (C := R_Md) (T := T_Md) (N := 15) hx hb hT in_Md ty_Md tyok_Md nm_Md hown hK hP hD hS 0 rfl rfl 13 (by decide) (hT _ m_258) (fun _ h9 => h9) rfl (ty := .boolean) (by decide +kernel) (nb_1 ((by rw [e_x26]; exact ite01 (Or.inl rfl) (ite01 (Or.inl rfl) (Or.inr rfl))))) (nb_2 ((by rw [e_x26]; exact ite01 (Or.inl rfl) (ite01 (Or.inl rfl) (Or.inr rfl))))) (by decide : 13 < 15) d_Md_apart_230 (fun H locs hP hD hS => ?_)
                          have hP : va_P D cls (gM cI cL cC ad X laid gone thr x9 m2 x12 e2 x8 mi2 x25 na2 x26 fa2 lets rlen rlaid rgone rthr were none_ beyo aN bN fN lN_ rN pN twos at_ rdig rpow good txt wri ra rb rfive rleft rright rpart) H := hP
                          have hD : va_D A (gM cI cL cC ad X laid gone thr x9 m2 x12 e2 x8 mi2 x25 na2 x26 fa2 lets rlen rlaid rgone rthr were none_ beyo aN bN fN lN_ rN pN twos at_ rdig rpow good txt wri ra rb rfive rleft rright rpart) := hD
                          refine lv_goto (tgt := 296) hx hb d_Md_apart_233 rfl ?_
                          exact hJ296 _ _ _ _ _ _ _ _ _ _ ls _ _ (lv_sub hl [] rfl) hP hD hS h
                        refine lv_if_eq (tgt := 229) hx hb d_Md_apart_215 rfl (fun hc => ?_) (fun hc => ?_)
                        · have e_x26 := e_x26.trans (if_pos hc)
                          refine lv_iconst hx hb d_Md_apart_229 ic_0 ?_
                          exact hJ230 _ ls e_x26 (lv_sub hl [] rfl)
                        · have e_x26 := e_x26.trans (if_neg hc)
                          refine lv_lload hx hb d_Md_apart_218 (lv_at hl 1 rfl) ?_
                          refine lv_lconst hx hb d_Md_apart_220 lc_0 ?_
                          refine W.lcmp hx hb d_Md_apart_221 ?_
                          refine lv_if_ne (tgt := 229) hx hb d_Md_apart_222 rfl (fun hc => ?_) (fun hc => ?_)
                          · have hc := mt (lg_cmp_eq _ _).mpr hc
                            have e_x26 := e_x26.trans (if_pos hc)
                            refine lv_iconst hx hb d_Md_apart_229 ic_0 ?_
                            exact hJ230 _ ls e_x26 (lv_sub hl [] rfl)
                          · have hc := not_not_intro ((lg_cmp_eq _ _).mp hc)
                            have e_x26 := e_x26.trans (if_neg hc)
                            refine lv_iconst hx hb d_Md_apart_225 ic_1 ?_
                            refine lv_goto (tgt := 230) hx hb d_Md_apart_226 rfl ?_
                            exact hJ230 _ ls e_x26 (lv_sub hl [] rfl)
                      refine lv_if_eq (tgt := 208) hx hb d_Md_apart_194 rfl (fun hc => ?_) (fun hc => ?_)
                      · have e_x25 := e_x25.trans (if_pos hc)
                        refine lv_iconst hx hb d_Md_apart_208 ic_0 ?_
                        exact hJ209 _ ls e_x25 (lv_sub hl [1, 3, 4] rfl)
                      · have e_x25 := e_x25.trans (if_neg hc)
                        refine lv_lload hx hb d_Md_apart_197 (lv_at hl 3 rfl) ?_
                        refine lv_lconst hx hb d_Md_apart_199 lc_0 ?_
                        refine W.lcmp hx hb d_Md_apart_200 ?_
                        refine lv_if_eq (tgt := 208) hx hb d_Md_apart_201 rfl (fun hc => ?_) (fun hc => ?_)
                        · have hc := (lg_cmp_eq _ _).mp hc
                          have e_x25 := e_x25.trans (if_pos hc)
                          refine lv_iconst hx hb d_Md_apart_208 ic_0 ?_
                          exact hJ209 _ ls e_x25 (lv_sub hl [1, 3, 4] rfl)
                        · have hc := mt (lg_cmp_eq _ _).mpr hc
                          have e_x25 := e_x25.trans (if_neg hc)
                          refine lv_iconst hx hb d_Md_apart_204 ic_1 ?_
                          refine lv_goto (tgt := 209) hx hb d_Md_apart_205 rfl ?_
                          exact hJ209 _ ls e_x25 (lv_sub hl [1, 3, 4] rfl)
                  refine lv_if_eq (tgt := 162) hx hb d_Md_apart_153 rfl (fun hc => ?_) (fun hc => ?_)
                  · have e_x11 := e_x11.trans (if_pos hc)
                    refine lv_sipush hx hb d_Md_apart_162 sp_1075 ?_
                    exact hJ165 _ ls e_x11 (lv_sub hl [0, 2, 3, 4, 5, 6] rfl)
                  · have e_x11 := e_x11.trans (if_neg hc)
                    refine lv_sipush hx hb d_Md_apart_156 sp_150 ?_
                    refine lv_goto (tgt := 165) hx hb d_Md_apart_159 rfl ?_
                    exact hJ165 _ ls e_x11 (lv_sub hl [0, 2, 3, 4, 5, 6] rfl)
                refine lv_if_ne (tgt := 150) hx hb d_Md_apart_143 rfl (fun hc => ?_) (fun hc => ?_)
                · have e_x10 := e_x10.trans (if_pos hc)
                  refine lv_iload hx hb d_Md_apart_150 (lv_at hl 4 rfl) ?_
                  exact hJ152 _ ls e_x10 (lv_sub hl [1, 2, 3, 5, 6, 7, 0] rfl)
                · have hc := not_not_intro hc
                  have e_x10 := e_x10.trans (if_neg hc)
                  refine lv_iconst hx hb d_Md_apart_146 ic_1 ?_
                  refine lv_goto (tgt := 152) hx hb d_Md_apart_147 rfl ?_
                  exact hJ152 _ ls e_x10 (lv_sub hl [1, 2, 3, 5, 6, 7, 0] rfl)
              refine lv_if_ne (tgt := 132) hx hb d_Md_apart_124 rfl (fun hc => ?_) (fun hc => ?_)
              · have e_x9 := e_x9.trans (if_pos hc)
                refine lv_lload hx hb d_Md_apart_132 (lv_at hl 6 rfl) ?_
                refine lv_lconst hx hb d_Md_apart_134 lc_1 ?_
                refine lv_iload hx hb d_Md_apart_135 (lv_at hl 4 rfl) ?_
                refine lv_lshl hx hb d_Md_apart_137 rfl ?_
                refine lv_lor hx hb d_Md_apart_138 ?_
                exact hJ139 _ ls e_x9 (lv_sub hl [1, 2, 3, 5, 6, 7, 0] rfl)
              · have hc := not_not_intro hc
                have e_x9 := e_x9.trans (if_neg hc)
                refine lv_lload hx hb d_Md_apart_127 (lv_at hl 6 rfl) ?_
                refine lv_goto (tgt := 139) hx hb d_Md_apart_129 rfl ?_
                exact hJ139 _ ls e_x9 (lv_sub hl [1, 2, 3, 5, 6, 7, 0] rfl)
            refine lv_if_eq (tgt := 108) hx hb d_Md_apart_87 rfl (fun hc => ?_) (fun hc => ?_)
            · have e_x8 := e_x8.trans (if_pos hc)
              refine lv_lload hx hb d_Md_apart_108 (lv_at hl 5 rfl) ?_
              refine lv_lconst hx hb d_Md_apart_110 lc_0 ?_
              refine W.lcmp hx hb d_Md_apart_111 ?_
              refine lv_if_ge (tgt := 119) hx hb d_Md_apart_112 rfl (fun hc => ?_) (fun hc => ?_)
              · have hc := (lg_cmp_ge _ _).mp hc
                have e_x8 := e_x8.trans (if_pos hc)
                refine lv_iconst hx hb d_Md_apart_119 ic_0 ?_
                exact hJ120 _ ls e_x8 (lv_sub hl [1, 2, 3, 4, 6, 7, 0] rfl)
              · have hc := mt (lg_cmp_ge _ _).mpr hc
                have e_x8 := e_x8.trans (if_neg hc)
                refine lv_iconst hx hb d_Md_apart_115 ic_1 ?_
                refine lv_goto (tgt := 120) hx hb d_Md_apart_116 rfl ?_
                exact hJ120 _ ls e_x8 (lv_sub hl [1, 2, 3, 4, 6, 7, 0] rfl)
            · have e_x8 := e_x8.trans (if_neg hc)
              refine lv_lload hx hb d_Md_apart_90 (lv_at hl 5 rfl) ?_
              refine lv_bipush hx hb d_Md_apart_92 bp_31 ?_
              refine lv_lshr hx hb d_Md_apart_94 rfl ?_
              refine lv_lconst hx hb d_Md_apart_95 lc_0 ?_
              refine W.lcmp hx hb d_Md_apart_96 ?_
              refine lv_if_eq (tgt := 104) hx hb d_Md_apart_97 rfl (fun hc => ?_) (fun hc => ?_)
              · have hc := (lg_cmp_eq _ _).mp hc
                have e_x8 := e_x8.trans (if_pos hc)
                refine lv_iconst hx hb d_Md_apart_104 ic_0 ?_
                refine lv_goto (tgt := 120) hx hb d_Md_apart_105 rfl ?_
                exact hJ120 _ ls e_x8 (lv_sub hl [1, 2, 3, 4, 6, 7, 0] rfl)
              · have hc := mt (lg_cmp_eq _ _).mpr hc
                have e_x8 := e_x8.trans (if_neg hc)
                refine lv_iconst hx hb d_Md_apart_100 ic_1 ?_
                refine lv_goto (tgt := 120) hx hb d_Md_apart_101 rfl ?_
                exact hJ120 _ ls e_x8 (lv_sub hl [1, 2, 3, 4, 6, 7, 0] rfl)
          refine lv_icmp_ne (tgt := 83) hx hb d_Md_apart_76 rfl (fun hc => ?_) (fun hc => ?_)
          · have e_x7 := e_x7.trans (if_pos hc)
            refine lv_iconst hx hb d_Md_apart_83 ic_0 ?_
            exact hJ84 _ ls e_x7 (lv_sub hl [0, 1, 2, 3, 4, 5, 6] rfl)
          · have hc := not_not_intro hc
            have e_x7 := e_x7.trans (if_neg hc)
            refine lv_iconst hx hb d_Md_apart_79 ic_1 ?_
            refine lv_goto (tgt := 84) hx hb d_Md_apart_80 rfl ?_
            exact hJ84 _ ls e_x7 (lv_sub hl [0, 1, 2, 3, 4, 5, 6] rfl)
        refine lv_if_eq (tgt := 73) hx hb d_Md_apart_64 rfl (fun hc => ?_) (fun hc => ?_)
        · have e_x6 := e_x6.trans (if_pos hc)
          refine lv_sipush hx hb d_Md_apart_73 sp_2047 ?_
          exact hJ76 _ ls e_x6 (lv_sub hl [2, 3, 4, 5, 6, 1, 0] rfl)
        · have e_x6 := e_x6.trans (if_neg hc)
          refine lv_sipush hx hb d_Md_apart_67 sp_255 ?_
          refine lv_goto (tgt := 76) hx hb d_Md_apart_70 rfl ?_
          exact hJ76 _ ls e_x6 (lv_sub hl [2, 3, 4, 5, 6, 1, 0] rfl)
      refine lv_if_eq (tgt := 44) hx hb d_Md_apart_35 rfl (fun hc => ?_) (fun hc => ?_)
      · have e_x3 := e_x3.trans (if_pos hc)
        refine lv_sipush hx hb d_Md_apart_44 sp_2047 ?_
        exact hJ47 _ ls e_x3 (lv_sub hl [1, 2, 3, 4, 0] rfl)
      · have e_x3 := e_x3.trans (if_neg hc)
        refine lv_sipush hx hb d_Md_apart_38 sp_255 ?_
        refine lv_goto (tgt := 47) hx hb d_Md_apart_41 rfl ?_
        exact hJ47 _ ls e_x3 (lv_sub hl [1, 2, 3, 4, 0] rfl)
    refine lv_if_eq (tgt := 25) hx hb d_Md_apart_14 rfl (fun hc => ?_) (fun hc => ?_)
    · have e_x2 := e_x2.trans (if_pos hc)
      refine lv_lload_n hx hb d_Md_apart_25 rfl (lv_at hl 2 rfl) ?_
      exact hJ26 _ ls e_x2 (lv_sub hl [1, 3, 4, 0] rfl)
    · have e_x2 := e_x2.trans (if_neg hc)
      refine lv_lload_n hx hb d_Md_apart_17 rfl (lv_at hl 2 rfl) ?_
      refine lv_ldc2 hx hb hown (hT _ m_248) d_Md_apart_18 ?_
      refine lv_land hx hb d_Md_apart_21 ?_
      refine lv_goto (tgt := 26) hx hb d_Md_apart_22 rfl ?_
      exact hJ26 _ ls e_x2 (lv_sub hl [1, 3, 4, 0] rfl)
  refine lv_if_eq (tgt := 9) hx hb d_Md_apart_1 rfl (fun hc => ?_) (fun hc => ?_)
  · have e_x1 := e_x1.trans (if_pos hc)
    refine lv_bipush hx hb d_Md_apart_9 bp_52 ?_
    exact hJ11 _ ls e_x1 (lv_sub hl [0, 1, 2, 3] rfl)
  · have e_x1 := e_x1.trans (if_neg hc)
    refine lv_bipush hx hb d_Md_apart_4 bp_23 ?_
    refine lv_goto (tgt := 11) hx hb d_Md_apart_6 rfl ?_
    exact hJ11 _ ls e_x1 (lv_sub hl [0, 1, 2, 3] rfl)
