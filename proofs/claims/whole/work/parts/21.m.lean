-- Rs_write
theorem d_Rs_write_0 : decode b_Rs_write 0 = .ok (.aload_n 0, 1) := by decide +kernel
theorem d_Rs_write_1 : decode b_Rs_write 1 = .ok (.iconst 0, 1) := by decide +kernel
theorem d_Rs_write_2 : decode b_Rs_write 2 = .ok (.putfield 34, 3) := by decide +kernel
theorem d_Rs_write_5 : decode b_Rs_write 5 = .ok (.aload_n 0, 1) := by decide +kernel
theorem d_Rs_write_6 : decode b_Rs_write 6 = .ok (.iconst 0, 1) := by decide +kernel
theorem d_Rs_write_7 : decode b_Rs_write 7 = .ok (.putfield 168, 3) := by decide +kernel
theorem d_Rs_write_10 : decode b_Rs_write 10 = .ok (.aload_n 0, 1) := by decide +kernel
theorem d_Rs_write_11 : decode b_Rs_write 11 = .ok (.iconst 0, 1) := by decide +kernel
theorem d_Rs_write_12 : decode b_Rs_write 12 = .ok (.putfield 214, 3) := by decide +kernel
theorem d_Rs_write_15 : decode b_Rs_write 15 = .ok (.iload_n 3, 1) := by decide +kernel
theorem d_Rs_write_16 : decode b_Rs_write 16 = .ok (.ifCond .eq 11, 3) := by decide +kernel
theorem d_Rs_write_19 : decode b_Rs_write 19 = .ok (.lload_n 1, 1) := by decide +kernel
theorem d_Rs_write_20 : decode b_Rs_write 20 = .ok (.ldc2_w 217, 3) := by decide +kernel
theorem d_Rs_write_23 : decode b_Rs_write 23 = .ok (.land, 1) := by decide +kernel
theorem d_Rs_write_24 : decode b_Rs_write 24 = .ok (.goto 8, 3) := by decide +kernel
theorem d_Rs_write_27 : decode b_Rs_write 27 = .ok (.lload_n 1, 1) := by decide +kernel
theorem d_Rs_write_28 : decode b_Rs_write 28 = .ok (.ldc2_w 219, 3) := by decide +kernel
theorem d_Rs_write_31 : decode b_Rs_write 31 = .ok (.land, 1) := by decide +kernel
theorem d_Rs_write_32 : decode b_Rs_write 32 = .ok (.lstore 4, 2) := by decide +kernel
theorem d_Rs_write_34 : decode b_Rs_write 34 = .ok (.iload_n 3, 1) := by decide +kernel
theorem d_Rs_write_35 : decode b_Rs_write 35 = .ok (.ifCond .eq 22, 3) := by decide +kernel
theorem d_Rs_write_38 : decode b_Rs_write 38 = .ok (.lload_n 1, 1) := by decide +kernel
theorem d_Rs_write_39 : decode b_Rs_write 39 = .ok (.bipush 31, 2) := by decide +kernel
theorem d_Rs_write_41 : decode b_Rs_write 41 = .ok (.lshr, 1) := by decide +kernel
theorem d_Rs_write_42 : decode b_Rs_write 42 = .ok (.lconst 1, 1) := by decide +kernel
theorem d_Rs_write_43 : decode b_Rs_write 43 = .ok (.land, 1) := by decide +kernel
theorem d_Rs_write_44 : decode b_Rs_write 44 = .ok (.lconst 1, 1) := by decide +kernel
theorem d_Rs_write_45 : decode b_Rs_write 45 = .ok (.lcmp, 1) := by decide +kernel
theorem d_Rs_write_46 : decode b_Rs_write 46 = .ok (.ifCond .ne 7, 3) := by decide +kernel
theorem d_Rs_write_49 : decode b_Rs_write 49 = .ok (.iconst 1, 1) := by decide +kernel
theorem d_Rs_write_50 : decode b_Rs_write 50 = .ok (.goto 18, 3) := by decide +kernel
theorem d_Rs_write_53 : decode b_Rs_write 53 = .ok (.iconst 0, 1) := by decide +kernel
theorem d_Rs_write_54 : decode b_Rs_write 54 = .ok (.goto 14, 3) := by decide +kernel
theorem d_Rs_write_57 : decode b_Rs_write 57 = .ok (.lload_n 1, 1) := by decide +kernel
theorem d_Rs_write_58 : decode b_Rs_write 58 = .ok (.lconst 0, 1) := by decide +kernel
theorem d_Rs_write_59 : decode b_Rs_write 59 = .ok (.lcmp, 1) := by decide +kernel
theorem d_Rs_write_60 : decode b_Rs_write 60 = .ok (.ifCond .ge 7, 3) := by decide +kernel
theorem d_Rs_write_63 : decode b_Rs_write 63 = .ok (.iconst 1, 1) := by decide +kernel
theorem d_Rs_write_64 : decode b_Rs_write 64 = .ok (.goto 4, 3) := by decide +kernel
theorem d_Rs_write_67 : decode b_Rs_write 67 = .ok (.iconst 0, 1) := by decide +kernel
theorem d_Rs_write_68 : decode b_Rs_write 68 = .ok (.istore 6, 2) := by decide +kernel
theorem d_Rs_write_70 : decode b_Rs_write 70 = .ok (.lload 4, 2) := by decide +kernel
theorem d_Rs_write_72 : decode b_Rs_write 72 = .ok (.iload_n 3, 1) := by decide +kernel
theorem d_Rs_write_73 : decode b_Rs_write 73 = .ok (.invokestatic 100, 3) := by decide +kernel
theorem d_Rs_write_76 : decode b_Rs_write 76 = .ok (.lconst 1, 1) := by decide +kernel
theorem d_Rs_write_77 : decode b_Rs_write 77 = .ok (.ladd, 1) := by decide +kernel
theorem d_Rs_write_78 : decode b_Rs_write 78 = .ok (.lcmp, 1) := by decide +kernel
theorem d_Rs_write_79 : decode b_Rs_write 79 = .ok (.ifCond .le 16, 3) := by decide +kernel
theorem d_Rs_write_82 : decode b_Rs_write 82 = .ok (.aload_n 0, 1) := by decide +kernel
theorem d_Rs_write_83 : decode b_Rs_write 83 = .ok (.ldc2_w 221, 3) := by decide +kernel
theorem d_Rs_write_86 : decode b_Rs_write 86 = .ok (.iconst 3, 1) := by decide +kernel
theorem d_Rs_write_87 : decode b_Rs_write 87 = .ok (.invokevirtual 223, 3) := by decide +kernel
theorem d_Rs_write_90 : decode b_Rs_write 90 = .ok (.aload_n 0, 1) := by decide +kernel
theorem d_Rs_write_91 : decode b_Rs_write 91 = .ok (.getfield 168, 3) := by decide +kernel
theorem d_Rs_write_94 : decode b_Rs_write 94 = .ok (.ireturn, 1) := by decide +kernel
theorem d_Rs_write_95 : decode b_Rs_write 95 = .ok (.iload 6, 2) := by decide +kernel
theorem d_Rs_write_97 : decode b_Rs_write 97 = .ok (.ifCond .eq 9, 3) := by decide +kernel
theorem d_Rs_write_100 : decode b_Rs_write 100 = .ok (.aload_n 0, 1) := by decide +kernel
theorem d_Rs_write_101 : decode b_Rs_write 101 = .ok (.bipush 45, 2) := by decide +kernel
theorem d_Rs_write_103 : decode b_Rs_write 103 = .ok (.invokevirtual 197, 3) := by decide +kernel
theorem d_Rs_write_106 : decode b_Rs_write 106 = .ok (.lload 4, 2) := by decide +kernel
theorem d_Rs_write_108 : decode b_Rs_write 108 = .ok (.iload_n 3, 1) := by decide +kernel
theorem d_Rs_write_109 : decode b_Rs_write 109 = .ok (.invokestatic 100, 3) := by decide +kernel
theorem d_Rs_write_112 : decode b_Rs_write 112 = .ok (.lcmp, 1) := by decide +kernel
theorem d_Rs_write_113 : decode b_Rs_write 113 = .ok (.ifCond .le 15, 3) := by decide +kernel
theorem d_Rs_write_116 : decode b_Rs_write 116 = .ok (.aload_n 0, 1) := by decide +kernel
theorem d_Rs_write_117 : decode b_Rs_write 117 = .ok (.ldc2_w 227, 3) := by decide +kernel
theorem d_Rs_write_120 : decode b_Rs_write 120 = .ok (.bipush 8, 2) := by decide +kernel
theorem d_Rs_write_122 : decode b_Rs_write 122 = .ok (.invokevirtual 223, 3) := by decide +kernel
theorem d_Rs_write_125 : decode b_Rs_write 125 = .ok (.goto 28, 3) := by decide +kernel
theorem d_Rs_write_128 : decode b_Rs_write 128 = .ok (.lload 4, 2) := by decide +kernel
theorem d_Rs_write_130 : decode b_Rs_write 130 = .ok (.lconst 0, 1) := by decide +kernel
theorem d_Rs_write_131 : decode b_Rs_write 131 = .ok (.lcmp, 1) := by decide +kernel
theorem d_Rs_write_132 : decode b_Rs_write 132 = .ok (.ifCond .ne 14, 3) := by decide +kernel
theorem d_Rs_write_135 : decode b_Rs_write 135 = .ok (.aload_n 0, 1) := by decide +kernel
theorem d_Rs_write_136 : decode b_Rs_write 136 = .ok (.ldc2_w 229, 3) := by decide +kernel
theorem d_Rs_write_139 : decode b_Rs_write 139 = .ok (.iconst 3, 1) := by decide +kernel
theorem d_Rs_write_140 : decode b_Rs_write 140 = .ok (.invokevirtual 223, 3) := by decide +kernel
theorem d_Rs_write_143 : decode b_Rs_write 143 = .ok (.goto 10, 3) := by decide +kernel
theorem d_Rs_write_146 : decode b_Rs_write 146 = .ok (.aload_n 0, 1) := by decide +kernel
theorem d_Rs_write_147 : decode b_Rs_write 147 = .ok (.lload 4, 2) := by decide +kernel
theorem d_Rs_write_149 : decode b_Rs_write 149 = .ok (.iload_n 3, 1) := by decide +kernel
theorem d_Rs_write_150 : decode b_Rs_write 150 = .ok (.invokevirtual 231, 3) := by decide +kernel
theorem d_Rs_write_153 : decode b_Rs_write 153 = .ok (.aload_n 0, 1) := by decide +kernel
theorem d_Rs_write_154 : decode b_Rs_write 154 = .ok (.getfield 168, 3) := by decide +kernel
theorem d_Rs_write_157 : decode b_Rs_write 157 = .ok (.ireturn, 1) := by decide +kernel
def F_Rs_write (n : Nat) (rlaid : Int32) (rgone : Int32) (rthr : Int32) (aN : Int32) (bN : Int32) (fN : Int32) (lN_ : Int32) (rN : Int32) (twos : Int32) (rpow : Int32) (wri : Nat → Int32) (ra : Nat → Int32) (rb : Nat → Int32) (rfive : Nat → Int32) (rleft : Nat → Int32) (rright : Nat → Int32) (a1 : Int64) (a2 : Int32) : Option (Int32 × Int32 × Int32 × Int32 × Int32 × Int32 × Int32 × Int32 × Int32 × Int32 × Int32 × (Nat → Int32) × (Nat → Int32) × (Nat → Int32) × (Nat → Int32) × (Nat → Int32) × (Nat → Int32)) := lt_ (if a2 = 0 then a1 &&& (9223372036854775807 : Int64) else a1 &&& (2147483647 : Int64)) fun x1 => lt_ (if a2 = 0 then if (0 : Int64) ≤ a1 then (0 : Int32) else (1 : Int32) else if ¬ ((a1 >>> (((31 : Int32)).toInt64 &&& 63)) &&& (1 : Int64)) = (1 : Int64) then (0 : Int32) else (1 : Int32)) fun x2 => if x1 ≤ ((F_Rs_greatest a2) + (1 : Int64)) then (lt_ (fun (rlaid_3 : Int32) (rgone_4 : Int32) (rthr_5 : Int32) (aN_6 : Int32) (bN_7 : Int32) (fN_8 : Int32) (lN__9 : Int32) (rN_10 : Int32) (twos_11 : Int32) (rpow_12 : Int32) (wri_13 : (Nat → Int32)) (ra_14 : (Nat → Int32)) (rb_15 : (Nat → Int32)) (rfive_16 : (Nat → Int32)) (rleft_17 : (Nat → Int32)) (rright_18 : (Nat → Int32)) => lt_ (fun (rlaid_19 : Int32) (rgone_20 : Int32) (rthr_21 : Int32) (aN_22 : Int32) (bN_23 : Int32) (fN_24 : Int32) (lN__25 : Int32) (rN_26 : Int32) (twos_27 : Int32) (rpow_28 : Int32) (wri_29 : (Nat → Int32)) (ra_30 : (Nat → Int32)) (rb_31 : (Nat → Int32)) (rfive_32 : (Nat → Int32)) (rleft_33 : (Nat → Int32)) (rright_34 : (Nat → Int32)) => some (rlaid_19, rlaid_19, rgone_20, rthr_21, aN_22, bN_23, fN_24, lN__25, rN_26, twos_27, rpow_28, wri_29, ra_30, rb_31, rfive_32, rleft_33, rright_34)) fun j153 => if x1 ≤ (F_Rs_greatest a2) then (if ¬ x1 = (0 : Int64) then ((F_Rs_layDecimal n rlaid_3 aN_6 bN_7 fN_8 lN__9 rN_10 twos_11 rpow_12 wri_13 ra_14 rb_15 rfive_16 rleft_17 rright_18 x1 a2).bind fun x35 => j153 x35.1 rgone_4 rthr_5 x35.2.1 x35.2.2.1 x35.2.2.2.1 x35.2.2.2.2.1 x35.2.2.2.2.2.1 x35.2.2.2.2.2.2.1 x35.2.2.2.2.2.2.2.1 x35.2.2.2.2.2.2.2.2.1 x35.2.2.2.2.2.2.2.2.2.1 x35.2.2.2.2.2.2.2.2.2.2.1 x35.2.2.2.2.2.2.2.2.2.2.2.1 x35.2.2.2.2.2.2.2.2.2.2.2.2.1 x35.2.2.2.2.2.2.2.2.2.2.2.2.2) else ((F_Rs_layWord n rlaid_3 wri_13 (3157552 : Int64) (3 : Int32)).bind fun x36 => j153 x36.1 rgone_4 rthr_5 aN_6 bN_7 fN_8 lN__9 rN_10 twos_11 rpow_12 x36.2 ra_14 rb_15 rfive_16 rleft_17 rright_18)) else ((F_Rs_layWord n rlaid_3 wri_13 (5291279215216915577 : Int64) (8 : Int32)).bind fun x37 => j153 x37.1 rgone_4 rthr_5 aN_6 bN_7 fN_8 lN__9 rN_10 twos_11 rpow_12 x37.2 ra_14 rb_15 rfive_16 rleft_17 rright_18)) fun j106 => if x2 = 0 then (j106 (0 : Int32) (0 : Int32) (0 : Int32) aN bN fN lN_ rN twos rpow wri ra rb rfive rleft rright) else ((F_Rs_lay n (0 : Int32) wri (45 : Int32)).bind fun x38 => j106 x38.1 (0 : Int32) (0 : Int32) aN bN fN lN_ rN twos rpow x38.2 ra rb rfive rleft rright)) else ((F_Rs_layWord n (0 : Int32) wri (5136718 : Int64) (3 : Int32)).bind fun x39 => some (x39.1, x39.1, (0 : Int32), (0 : Int32), aN, bN, fN, lN_, rN, twos, rpow, x39.2, ra, rb, rfive, rleft, rright))
set_option maxHeartbeats 4000000 in
set_option maxRecDepth 100000 in
theorem c_Rs_write (l : Launch) (D : va_G) (A : Nat → Prop) (cI cL cC : ClassId) (ad : Nat → Nat) (X : va_W) (laid : Int32) (gone : Int32) (thr : Int32) (m1 : Int64) (m2 : Int64) (e1 : Int32) (e2 : Int32) (mi1 : Int32) (mi2 : Int32) (na1 : Int32) (na2 : Int32) (fa1 : Int32) (fa2 : Int32) (lets : Nat → Int32) (rlen : Int32) (rlaid : Int32) (rgone : Int32) (rthr : Int32) (were : Int32) (none_ : Int32) (beyo : Int32) (aN : Int32) (bN : Int32) (fN : Int32) (lN_ : Int32) (rN : Int32) (pN : Int32) (twos : Int32) (at_ : Int32) (rdig : Int32) (rpow : Int32) (good : Int32) (txt : Nat → Int32) (wri : Nat → Int32) (ra : Nat → Int32) (rb : Nat → Int32) (rfive : Nat → Int32) (rleft : Nat → Int32) (rright : Nat → Int32) (rpart : Nat → Int32) (n : Nat) (a1 : Int64) (a2 : Int32) (r : Int32 × Int32 × Int32 × Int32 × Int32 × Int32 × Int32 × Int32 × Int32 × Int32 × Int32 × (Nat → Int32) × (Nat → Int32) × (Nat → Int32) × (Nat → Int32) × (Nat → Int32) × (Nat → Int32)) (h : F_Rs_write n rlaid rgone rthr aN bN fN lN_ rN twos rpow wri ra rb rfive rleft rright a1 a2 = some r) : Met l y_Rs_write (.code y_Rs_write b_Rs_write 7 (some .int) :: BIG) ({ frames := 8, cells := 0, slots := 0, locals := 220 } : Room) (va_Pc [.ref (ad 2), .long a1, .int a2] (gPre D A (tysV cI cL cC) (gM cI cL cC ad X laid gone thr m1 m2 e1 e2 mi1 mi2 na1 na2 fa1 fa2 lets rlen rlaid rgone rthr were none_ beyo aN bN fN lN_ rN pN twos at_ rdig rpow good txt wri ra rb rfive rleft rright rpart))) (gQ D A (some (.int r.1)) (gM cI cL cC ad X laid gone thr m1 m2 e1 e2 mi1 mi2 na1 na2 fa1 fa2 lets rlen r.2.1 r.2.2.1 r.2.2.2.1 were none_ beyo r.2.2.2.2.1 r.2.2.2.2.2.1 r.2.2.2.2.2.2.1 r.2.2.2.2.2.2.2.1 r.2.2.2.2.2.2.2.2.1 pN r.2.2.2.2.2.2.2.2.2.1 at_ rdig r.2.2.2.2.2.2.2.2.2.2.1 good txt r.2.2.2.2.2.2.2.2.2.2.2.1 r.2.2.2.2.2.2.2.2.2.2.2.2.1 r.2.2.2.2.2.2.2.2.2.2.2.2.2.1 r.2.2.2.2.2.2.2.2.2.2.2.2.2.2.1 r.2.2.2.2.2.2.2.2.2.2.2.2.2.2.2.1 r.2.2.2.2.2.2.2.2.2.2.2.2.2.2.2.2 rpart)) 0 0 A := by
  refine gOpen_i rfl (Nat.le_of_ble_eq_true rfl) ?_
  intro p e s m args below meth c Q ls hx hb hml hown hts hT hNB hP hK hD hl hret
  have hown : s.vm.findClass R_Rs = some m.cls := hown
  have hS : va_S A s.heap s.heap [] := va_S.rf
  have hl : lv_has ls 7 [(0, .ref (ad 2)), (1, .long a1), (3, .int a2)] := hl
  have h : (lt_ (if a2 = 0 then a1 &&& (9223372036854775807 : Int64) else a1 &&& (2147483647 : Int64)) fun x1 => lt_ (if a2 = 0 then if (0 : Int64) ≤ a1 then (0 : Int32) else (1 : Int32) else if ¬ ((a1 >>> (((31 : Int32)).toInt64 &&& 63)) &&& (1 : Int64)) = (1 : Int64) then (0 : Int32) else (1 : Int32)) fun x2 => if x1 ≤ ((F_Rs_greatest a2) + (1 : Int64)) then (lt_ (fun (rlaid_3 : Int32) (rgone_4 : Int32) (rthr_5 : Int32) (aN_6 : Int32) (bN_7 : Int32) (fN_8 : Int32) (lN__9 : Int32) (rN_10 : Int32) (twos_11 : Int32) (rpow_12 : Int32) (wri_13 : (Nat → Int32)) (ra_14 : (Nat → Int32)) (rb_15 : (Nat → Int32)) (rfive_16 : (Nat → Int32)) (rleft_17 : (Nat → Int32)) (rright_18 : (Nat → Int32)) => lt_ (fun (rlaid_19 : Int32) (rgone_20 : Int32) (rthr_21 : Int32) (aN_22 : Int32) (bN_23 : Int32) (fN_24 : Int32) (lN__25 : Int32) (rN_26 : Int32) (twos_27 : Int32) (rpow_28 : Int32) (wri_29 : (Nat → Int32)) (ra_30 : (Nat → Int32)) (rb_31 : (Nat → Int32)) (rfive_32 : (Nat → Int32)) (rleft_33 : (Nat → Int32)) (rright_34 : (Nat → Int32)) => some (rlaid_19, rlaid_19, rgone_20, rthr_21, aN_22, bN_23, fN_24, lN__25, rN_26, twos_27, rpow_28, wri_29, ra_30, rb_31, rfive_32, rleft_33, rright_34)) fun j153 => if x1 ≤ (F_Rs_greatest a2) then (if ¬ x1 = (0 : Int64) then ((F_Rs_layDecimal n rlaid_3 aN_6 bN_7 fN_8 lN__9 rN_10 twos_11 rpow_12 wri_13 ra_14 rb_15 rfive_16 rleft_17 rright_18 x1 a2).bind fun x35 => j153 x35.1 rgone_4 rthr_5 x35.2.1 x35.2.2.1 x35.2.2.2.1 x35.2.2.2.2.1 x35.2.2.2.2.2.1 x35.2.2.2.2.2.2.1 x35.2.2.2.2.2.2.2.1 x35.2.2.2.2.2.2.2.2.1 x35.2.2.2.2.2.2.2.2.2.1 x35.2.2.2.2.2.2.2.2.2.2.1 x35.2.2.2.2.2.2.2.2.2.2.2.1 x35.2.2.2.2.2.2.2.2.2.2.2.2.1 x35.2.2.2.2.2.2.2.2.2.2.2.2.2) else ((F_Rs_layWord n rlaid_3 wri_13 (3157552 : Int64) (3 : Int32)).bind fun x36 => j153 x36.1 rgone_4 rthr_5 aN_6 bN_7 fN_8 lN__9 rN_10 twos_11 rpow_12 x36.2 ra_14 rb_15 rfive_16 rleft_17 rright_18)) else ((F_Rs_layWord n rlaid_3 wri_13 (5291279215216915577 : Int64) (8 : Int32)).bind fun x37 => j153 x37.1 rgone_4 rthr_5 aN_6 bN_7 fN_8 lN__9 rN_10 twos_11 rpow_12 x37.2 ra_14 rb_15 rfive_16 rleft_17 rright_18)) fun j106 => if x2 = 0 then (j106 (0 : Int32) (0 : Int32) (0 : Int32) aN bN fN lN_ rN twos rpow wri ra rb rfive rleft rright) else ((F_Rs_lay n (0 : Int32) wri (45 : Int32)).bind fun x38 => j106 x38.1 (0 : Int32) (0 : Int32) aN bN fN lN_ rN twos rpow x38.2 ra rb rfive rleft rright)) else ((F_Rs_layWord n (0 : Int32) wri (5136718 : Int64) (3 : Int32)).bind fun x39 => some (x39.1, x39.1, (0 : Int32), (0 : Int32), aN, bN, fN, lN_, rN, twos, rpow, x39.2, ra, rb, rfive, rleft, rright))) = some r := h
  refine lv_aload_n hx hb d_Rs_write_0 rfl (lv_at hl 0 rfl) ?_
  refine lv_iconst hx hb d_Rs_write_1 ic_0 ?_
  refine va_put (D := D) (ci := 5) (C := R_Rs) (T := T_Rs) (N := 26) hx hb hT in_Rs ty_Rs tyok_Rs nm_Rs hown hK hP hD hS 2 rfl rfl 5 (by decide) (hT _ m_404) (fun _ h9 => h9) rfl (ty := .int) (by decide +kernel) rfl rfl (by decide : 5 < 26) d_Rs_write_2 (fun H locs hP hD hS => ?_)
  have hP : va_P D cls (gM cI cL cC ad X laid gone thr m1 m2 e1 e2 mi1 mi2 na1 na2 fa1 fa2 lets rlen rlaid rgone (0 : Int32) were none_ beyo aN bN fN lN_ rN pN twos at_ rdig rpow good txt wri ra rb rfive rleft rright rpart) H := hP
  have hD : va_D A (gM cI cL cC ad X laid gone thr m1 m2 e1 e2 mi1 mi2 na1 na2 fa1 fa2 lets rlen rlaid rgone (0 : Int32) were none_ beyo aN bN fN lN_ rN pN twos at_ rdig rpow good txt wri ra rb rfive rleft rright rpart) := hD
  refine lv_aload_n hx hb d_Rs_write_5 rfl (lv_at hl 0 rfl) ?_
  refine lv_iconst hx hb d_Rs_write_6 ic_0 ?_
  refine va_put (D := D) (ci := 5) (C := R_Rs) (T := T_Rs) (N := 26) hx hb hT in_Rs ty_Rs tyok_Rs nm_Rs hown hK hP hD hS 2 rfl rfl 3 (by decide) (hT _ m_312) (fun _ h9 => h9) rfl (ty := .int) (by decide +kernel) rfl rfl (by decide : 3 < 26) d_Rs_write_7 (fun H locs hP hD hS => ?_)
  have hP : va_P D cls (gM cI cL cC ad X laid gone thr m1 m2 e1 e2 mi1 mi2 na1 na2 fa1 fa2 lets rlen (0 : Int32) rgone (0 : Int32) were none_ beyo aN bN fN lN_ rN pN twos at_ rdig rpow good txt wri ra rb rfive rleft rright rpart) H := hP
  have hD : va_D A (gM cI cL cC ad X laid gone thr m1 m2 e1 e2 mi1 mi2 na1 na2 fa1 fa2 lets rlen (0 : Int32) rgone (0 : Int32) were none_ beyo aN bN fN lN_ rN pN twos at_ rdig rpow good txt wri ra rb rfive rleft rright rpart) := hD
  refine lv_aload_n hx hb d_Rs_write_10 rfl (lv_at hl 0 rfl) ?_
  refine lv_iconst hx hb d_Rs_write_11 ic_0 ?_
  refine va_put (D := D) (ci := 5) (C := R_Rs) (T := T_Rs) (N := 26) hx hb hT in_Rs ty_Rs tyok_Rs nm_Rs hown hK hP hD hS 2 rfl rfl 4 (by decide) (hT _ m_405) (fun _ h9 => h9) rfl (ty := .int) (by decide +kernel) rfl rfl (by decide : 4 < 26) d_Rs_write_12 (fun H locs hP hD hS => ?_)
  have hP : va_P D cls (gM cI cL cC ad X laid gone thr m1 m2 e1 e2 mi1 mi2 na1 na2 fa1 fa2 lets rlen (0 : Int32) (0 : Int32) (0 : Int32) were none_ beyo aN bN fN lN_ rN pN twos at_ rdig rpow good txt wri ra rb rfive rleft rright rpart) H := hP
  have hD : va_D A (gM cI cL cC ad X laid gone thr m1 m2 e1 e2 mi1 mi2 na1 na2 fa1 fa2 lets rlen (0 : Int32) (0 : Int32) (0 : Int32) were none_ beyo aN bN fN lN_ rN pN twos at_ rdig rpow good txt wri ra rb rfive rleft rright rpart) := hD
  refine lv_iload_n hx hb d_Rs_write_15 rfl (lv_at hl 2 rfl) ?_
  obtain ⟨x1, e_x1, h⟩ := lt_o h
  have hJ32 : ∀ (x1' : Int64) (ls : Array Slot), x1 = x1' → lv_has ls 7 [(0, .ref (ad 2)), (1, .long a1), (3, .int a2)] → W p l e ({ frames := 8, cells := 0, slots := 0, locals := 220 } : Room) s m args below meth c H locs 0 0 Q (F0 m 32 ls [.long x1']) := by
    intro x1' ls q_x1 hl
    subst q_x1
    refine lv_lstore hx hb d_Rs_write_32 hl (by decide) rfl (fun ls hl => ?_)
    have hl : lv_has ls 7 [(4, .long x1), (0, .ref (ad 2)), (1, .long a1), (3, .int a2)] := hl
    refine lv_iload_n hx hb d_Rs_write_34 rfl (lv_at hl 3 rfl) ?_
    obtain ⟨x2, e_x2, h⟩ := lt_o h
    have hJ68 : ∀ (x2' : Int32) (ls : Array Slot), x2 = x2' → lv_has ls 7 [(0, .ref (ad 2)), (3, .int a2), (4, .long x1)] → W p l e ({ frames := 8, cells := 0, slots := 0, locals := 220 } : Room) s m args below meth c H locs 0 0 Q (F0 m 68 ls [.int x2']) := by
      intro x2' ls q_x2 hl
      subst q_x2
      refine lv_istore hx hb d_Rs_write_68 hl (by decide) rfl (fun ls hl => ?_)
      have hl : lv_has ls 7 [(6, .int x2), (0, .ref (ad 2)), (3, .int a2), (4, .long x1)] := hl
      refine lv_lload hx hb d_Rs_write_70 (lv_at hl 3 rfl) ?_
      refine lv_iload_n hx hb d_Rs_write_72 rfl (lv_at hl 2 rfl) ?_
      refine q_S (As := [.int a2]) (rest := [.long x1]) (n := 1) hx hb hml hown hts (c_Rs_greatest l a2) rfl rfl m_408 m_409 m_410 m_318 (by decide +kernel) ⟨Nat.le_of_ble_eq_true rfl, Nat.le_of_ble_eq_true rfl⟩ (p0_bl) (fun U hU hW => p0_mv hU hW hNB) rfl hl.1 rfl (Nat.le_of_ble_eq_true rfl) d_Rs_write_73 ⟨Nat.zero_le _, Nat.zero_le _⟩ ?_
      refine lv_lconst hx hb d_Rs_write_76 lc_1 ?_
      refine lv_ladd hx hb d_Rs_write_77 ?_
      refine W.lcmp hx hb d_Rs_write_78 ?_
      refine lv_if_le (tgt := 95) hx hb d_Rs_write_79 rfl (fun hc => ?_) (fun hc => ?_)
      · have hc := (lg_cmp_le _ _).mp hc
        have h := ite_t hc h
        refine lv_iload hx hb d_Rs_write_95 (lv_at hl 0 rfl) ?_
        obtain ⟨j106, e_j106, h⟩ := lt_o h
        have hJ106 : ∀ (rlaid_3 : Int32) (rgone_4 : Int32) (rthr_5 : Int32) (aN_6 : Int32) (bN_7 : Int32) (fN_8 : Int32) (lN__9 : Int32) (rN_10 : Int32) (twos_11 : Int32) (rpow_12 : Int32) (wri_13 : (Nat → Int32)) (ra_14 : (Nat → Int32)) (rb_15 : (Nat → Int32)) (rfive_16 : (Nat → Int32)) (rleft_17 : (Nat → Int32)) (rright_18 : (Nat → Int32)) (ls : Array Slot) (H : Heap) (locs : List Loc), lv_has ls 7 [(0, .ref (ad 2)), (3, .int a2), (4, .long x1)] → va_P D cls (gM cI cL cC ad X laid gone thr m1 m2 e1 e2 mi1 mi2 na1 na2 fa1 fa2 lets rlen rlaid_3 rgone_4 rthr_5 were none_ beyo aN_6 bN_7 fN_8 lN__9 rN_10 pN twos_11 at_ rdig rpow_12 good txt wri_13 ra_14 rb_15 rfive_16 rleft_17 rright_18 rpart) H → va_D A (gM cI cL cC ad X laid gone thr m1 m2 e1 e2 mi1 mi2 na1 na2 fa1 fa2 lets rlen rlaid_3 rgone_4 rthr_5 were none_ beyo aN_6 bN_7 fN_8 lN__9 rN_10 pN twos_11 at_ rdig rpow_12 good txt wri_13 ra_14 rb_15 rfive_16 rleft_17 rright_18 rpart) → va_S A s.heap H locs → j106 rlaid_3 rgone_4 rthr_5 aN_6 bN_7 fN_8 lN__9 rN_10 twos_11 rpow_12 wri_13 ra_14 rb_15 rfive_16 rleft_17 rright_18 = some r → W p l e ({ frames := 8, cells := 0, slots := 0, locals := 220 } : Room) s m args below meth c H locs 0 0 Q (F0 m 106 ls []) := by
          intro rlaid_3 rgone_4 rthr_5 aN_6 bN_7 fN_8 lN__9 rN_10 twos_11 rpow_12 wri_13 ra_14 rb_15 rfive_16 rleft_17 rright_18 ls H locs hl hP hD hS h
          rw [e_j106] at h
          refine lv_lload hx hb d_Rs_write_106 (lv_at hl 2 rfl) ?_
          refine lv_iload_n hx hb d_Rs_write_108 rfl (lv_at hl 1 rfl) ?_
          refine q_S (As := [.int a2]) (rest := [.long x1]) (n := 1) hx hb hml hown hts (c_Rs_greatest l a2) rfl rfl m_408 m_409 m_410 m_318 (by decide +kernel) ⟨Nat.le_of_ble_eq_true rfl, Nat.le_of_ble_eq_true rfl⟩ (p0_bl) (fun U hU hW => p0_mv hU hW hNB) rfl hl.1 rfl (Nat.le_of_ble_eq_true rfl) d_Rs_write_109 ⟨Nat.zero_le _, Nat.zero_le _⟩ ?_
          refine W.lcmp hx hb d_Rs_write_112 ?_
          obtain ⟨j153, e_j153, h⟩ := lt_o h
          have hJ153 : ∀ (rlaid_19 : Int32) (rgone_20 : Int32) (rthr_21 : Int32) (aN_22 : Int32) (bN_23 : Int32) (fN_24 : Int32) (lN__25 : Int32) (rN_26 : Int32) (twos_27 : Int32) (rpow_28 : Int32) (wri_29 : (Nat → Int32)) (ra_30 : (Nat → Int32)) (rb_31 : (Nat → Int32)) (rfive_32 : (Nat → Int32)) (rleft_33 : (Nat → Int32)) (rright_34 : (Nat → Int32)) (ls : Array Slot) (H : Heap) (locs : List Loc), lv_has ls 7 [(0, .ref (ad 2))] → va_P D cls (gM cI cL cC ad X laid gone thr m1 m2 e1 e2 mi1 mi2 na1 na2 fa1 fa2 lets rlen rlaid_19 rgone_20 rthr_21 were none_ beyo aN_22 bN_23 fN_24 lN__25 rN_26 pN twos_27 at_ rdig rpow_28 good txt wri_29 ra_30 rb_31 rfive_32 rleft_33 rright_34 rpart) H → va_D A (gM cI cL cC ad X laid gone thr m1 m2 e1 e2 mi1 mi2 na1 na2 fa1 fa2 lets rlen rlaid_19 rgone_20 rthr_21 were none_ beyo aN_22 bN_23 fN_24 lN__25 rN_26 pN twos_27 at_ rdig rpow_28 good txt wri_29 ra_30 rb_31 rfive_32 rleft_33 rright_34 rpart) → va_S A s.heap H locs → j153 rlaid_19 rgone_20 rthr_21 aN_22 bN_23 fN_24 lN__25 rN_26 twos_27 rpow_28 wri_29 ra_30 rb_31 rfive_32 rleft_33 rright_34 = some r → W p l e ({ frames := 8, cells := 0, slots := 0, locals := 220 } : Room) s m args below meth c H locs 0 0 Q (F0 m 153 ls []) := by
            intro rlaid_19 rgone_20 rthr_21 aN_22 bN_23 fN_24 lN__25 rN_26 twos_27 rpow_28 wri_29 ra_30 rb_31 rfive_32 rleft_33 rright_34 ls H locs hl hP hD hS h
            rw [e_j153] at h
            refine lv_aload_n hx hb d_Rs_write_153 rfl (lv_at hl 0 rfl) ?_
            refine va_get (D := D) (ci := 5) (C := R_Rs) (T := T_Rs) (N := 26) hx hb hT in_Rs hown hK hP 2 rfl rfl 3 (by decide) (hT _ m_312) (fun _ h9 => h9) rfl d_Rs_write_154 ?_
            obtain rfl := Option.some.inj h
            exact hret 157 ls _ _ _ rfl hP hD hS d_Rs_write_157
          refine lv_if_le (tgt := 128) hx hb d_Rs_write_113 rfl (fun hc => ?_) (fun hc => ?_)
          · have hc := (lg_cmp_le _ _).mp hc
            have h := ite_t hc h
            refine lv_lload hx hb d_Rs_write_128 (lv_at hl 2 rfl) ?_
            refine lv_lconst hx hb d_Rs_write_130 lc_0 ?_
            refine W.lcmp hx hb d_Rs_write_131 ?_
            refine lv_if_ne (tgt := 146) hx hb d_Rs_write_132 rfl (fun hc => ?_) (fun hc => ?_)
            · have hc := mt (lg_cmp_eq _ _).mpr hc
              have h := ite_t hc h
              refine lv_aload_n hx hb d_Rs_write_146 rfl (lv_at hl 0 rfl) ?_
              refine lv_lload hx hb d_Rs_write_147 (lv_at hl 2 rfl) ?_
              refine lv_iload_n hx hb d_Rs_write_149 rfl (lv_at hl 1 rfl) ?_
              obtain ⟨x35, e_x35, h⟩ := bd_o h
              refine q_GV (D := D) (A := A) (C := R_Rs) (b := ad 2) (As := [.long x1, .int a2]) (rest := []) (n := 2) hx hb hml hown hts (c_Rs_layDecimal l D A cI cL cC ad X laid gone thr m1 m2 e1 e2 mi1 mi2 na1 na2 fa1 fa2 lets rlen rlaid_3 rgone_4 rthr_5 were none_ beyo aN_6 bN_7 fN_8 lN__9 rN_10 pN twos_11 at_ rdig rpow_12 good txt wri_13 ra_14 rb_15 rfive_16 rleft_17 rright_18 rpart n x1 a2 x35 e_x35) rfl rfl m_411 m_412 m_413 m_414 m_318 (by decide +kernel) ⟨Nat.le_of_ble_eq_true rfl, Nat.le_of_ble_eq_true rfl⟩ (va_recv hK hP (ci := 5) rfl (q0 := 2) rfl) hNB hK hP hD hS rfl hl.1 rfl (Nat.le_of_ble_eq_true rfl) d_Rs_write_150 ⟨Nat.zero_le _, Nat.zero_le _⟩ (fun H locs hP hD hS => ?_)
              have hP : va_P D cls (gM cI cL cC ad X laid gone thr m1 m2 e1 e2 mi1 mi2 na1 na2 fa1 fa2 lets rlen x35.1 rgone_4 rthr_5 were none_ beyo x35.2.1 x35.2.2.1 x35.2.2.2.1 x35.2.2.2.2.1 x35.2.2.2.2.2.1 pN x35.2.2.2.2.2.2.1 at_ rdig x35.2.2.2.2.2.2.2.1 good txt x35.2.2.2.2.2.2.2.2.1 x35.2.2.2.2.2.2.2.2.2.1 x35.2.2.2.2.2.2.2.2.2.2.1 x35.2.2.2.2.2.2.2.2.2.2.2.1 x35.2.2.2.2.2.2.2.2.2.2.2.2.1 x35.2.2.2.2.2.2.2.2.2.2.2.2.2 rpart) H := hP
              have hD : va_D A (gM cI cL cC ad X laid gone thr m1 m2 e1 e2 mi1 mi2 na1 na2 fa1 fa2 lets rlen x35.1 rgone_4 rthr_5 were none_ beyo x35.2.1 x35.2.2.1 x35.2.2.2.1 x35.2.2.2.2.1 x35.2.2.2.2.2.1 pN x35.2.2.2.2.2.2.1 at_ rdig x35.2.2.2.2.2.2.2.1 good txt x35.2.2.2.2.2.2.2.2.1 x35.2.2.2.2.2.2.2.2.2.1 x35.2.2.2.2.2.2.2.2.2.2.1 x35.2.2.2.2.2.2.2.2.2.2.2.1 x35.2.2.2.2.2.2.2.2.2.2.2.2.1 x35.2.2.2.2.2.2.2.2.2.2.2.2.2 rpart) := hD
              exact hJ153 _ _ _ _ _ _ _ _ _ _ _ _ _ _ _ _ ls _ _ (lv_sub hl [0] rfl) hP hD hS h
            · have hc := not_not_intro ((lg_cmp_eq _ _).mp hc)
              have h := ite_f hc h
              refine lv_aload_n hx hb d_Rs_write_135 rfl (lv_at hl 0 rfl) ?_
              refine lv_ldc2 hx hb hown (hT _ m_415) d_Rs_write_136 ?_
              refine lv_iconst hx hb d_Rs_write_139 ic_3 ?_
              obtain ⟨x36, e_x36, h⟩ := bd_o h
              refine q_GV (D := D) (A := A) (C := R_Rs) (b := ad 2) (As := [.long (3157552 : Int64), .int (3 : Int32)]) (rest := []) (n := 2) hx hb hml hown hts (c_Rs_layWord l D A cI cL cC ad X laid gone thr m1 m2 e1 e2 mi1 mi2 na1 na2 fa1 fa2 lets rlen rlaid_3 rgone_4 rthr_5 were none_ beyo aN_6 bN_7 fN_8 lN__9 rN_10 pN twos_11 at_ rdig rpow_12 good txt wri_13 ra_14 rb_15 rfive_16 rleft_17 rright_18 rpart n (3157552 : Int64) (3 : Int32) x36 e_x36) rfl rfl m_416 m_417 m_418 m_419 m_318 (by decide +kernel) ⟨Nat.le_of_ble_eq_true rfl, Nat.le_of_ble_eq_true rfl⟩ (va_recv hK hP (ci := 5) rfl (q0 := 2) rfl) hNB hK hP hD hS rfl hl.1 rfl (Nat.le_of_ble_eq_true rfl) d_Rs_write_140 ⟨Nat.zero_le _, Nat.zero_le _⟩ (fun H locs hP hD hS => ?_)
              have hP : va_P D cls (gM cI cL cC ad X laid gone thr m1 m2 e1 e2 mi1 mi2 na1 na2 fa1 fa2 lets rlen x36.1 rgone_4 rthr_5 were none_ beyo aN_6 bN_7 fN_8 lN__9 rN_10 pN twos_11 at_ rdig rpow_12 good txt x36.2 ra_14 rb_15 rfive_16 rleft_17 rright_18 rpart) H := hP
              have hD : va_D A (gM cI cL cC ad X laid gone thr m1 m2 e1 e2 mi1 mi2 na1 na2 fa1 fa2 lets rlen x36.1 rgone_4 rthr_5 were none_ beyo aN_6 bN_7 fN_8 lN__9 rN_10 pN twos_11 at_ rdig rpow_12 good txt x36.2 ra_14 rb_15 rfive_16 rleft_17 rright_18 rpart) := hD
              refine lv_goto (tgt := 153) hx hb d_Rs_write_143 rfl ?_
              exact hJ153 _ _ _ _ _ _ _ _ _ _ _ _ _ _ _ _ ls _ _ (lv_sub hl [0] rfl) hP hD hS h
          · have hc := mt (lg_cmp_le _ _).mpr hc
            have h := ite_f hc h
            refine lv_aload_n hx hb d_Rs_write_116 rfl (lv_at hl 0 rfl) ?_
            refine lv_ldc2 hx hb hown (hT _ m_420) d_Rs_write_117 ?_
            refine lv_bipush hx hb d_Rs_write_120 bp_8 ?_
            obtain ⟨x37, e_x37, h⟩ := bd_o h
            refine q_GV (D := D) (A := A) (C := R_Rs) (b := ad 2) (As := [.long (5291279215216915577 : Int64), .int (8 : Int32)]) (rest := []) (n := 2) hx hb hml hown hts (c_Rs_layWord l D A cI cL cC ad X laid gone thr m1 m2 e1 e2 mi1 mi2 na1 na2 fa1 fa2 lets rlen rlaid_3 rgone_4 rthr_5 were none_ beyo aN_6 bN_7 fN_8 lN__9 rN_10 pN twos_11 at_ rdig rpow_12 good txt wri_13 ra_14 rb_15 rfive_16 rleft_17 rright_18 rpart n (5291279215216915577 : Int64) (8 : Int32) x37 e_x37) rfl rfl m_416 m_417 m_418 m_419 m_318 (by decide +kernel) ⟨Nat.le_of_ble_eq_true rfl, Nat.le_of_ble_eq_true rfl⟩ (va_recv hK hP (ci := 5) rfl (q0 := 2) rfl) hNB hK hP hD hS rfl hl.1 rfl (Nat.le_of_ble_eq_true rfl) d_Rs_write_122 ⟨Nat.zero_le _, Nat.zero_le _⟩ (fun H locs hP hD hS => ?_)
            have hP : va_P D cls (gM cI cL cC ad X laid gone thr m1 m2 e1 e2 mi1 mi2 na1 na2 fa1 fa2 lets rlen x37.1 rgone_4 rthr_5 were none_ beyo aN_6 bN_7 fN_8 lN__9 rN_10 pN twos_11 at_ rdig rpow_12 good txt x37.2 ra_14 rb_15 rfive_16 rleft_17 rright_18 rpart) H := hP
            have hD : va_D A (gM cI cL cC ad X laid gone thr m1 m2 e1 e2 mi1 mi2 na1 na2 fa1 fa2 lets rlen x37.1 rgone_4 rthr_5 were none_ beyo aN_6 bN_7 fN_8 lN__9 rN_10 pN twos_11 at_ rdig rpow_12 good txt x37.2 ra_14 rb_15 rfive_16 rleft_17 rright_18 rpart) := hD
            refine lv_goto (tgt := 153) hx hb d_Rs_write_125 rfl ?_
            exact hJ153 _ _ _ _ _ _ _ _ _ _ _ _ _ _ _ _ ls _ _ (lv_sub hl [0] rfl) hP hD hS h
        refine lv_if_eq (tgt := 106) hx hb d_Rs_write_97 rfl (fun hc => ?_) (fun hc => ?_)
        · have h := ite_t hc h
          exact hJ106 _ _ _ _ _ _ _ _ _ _ _ _ _ _ _ _ ls _ _ (lv_sub hl [1, 2, 3] rfl) hP hD hS h
        · have h := ite_f hc h
          refine lv_aload_n hx hb d_Rs_write_100 rfl (lv_at hl 1 rfl) ?_
          refine lv_bipush hx hb d_Rs_write_101 bp_45 ?_
          obtain ⟨x38, e_x38, h⟩ := bd_o h
          refine q_GV (D := D) (A := A) (C := R_Rs) (b := ad 2) (As := [.int (45 : Int32)]) (rest := []) (n := 1) hx hb hml hown hts (c_Rs_lay l D A cI cL cC ad X laid gone thr m1 m2 e1 e2 mi1 mi2 na1 na2 fa1 fa2 lets rlen (0 : Int32) (0 : Int32) (0 : Int32) were none_ beyo aN bN fN lN_ rN pN twos at_ rdig rpow good txt wri ra rb rfive rleft rright rpart n (45 : Int32) x38 e_x38) rfl rfl m_314 m_315 m_316 m_317 m_318 (by decide +kernel) ⟨Nat.le_of_ble_eq_true rfl, Nat.le_of_ble_eq_true rfl⟩ (va_recv hK hP (ci := 5) rfl (q0 := 2) rfl) hNB hK hP hD hS rfl hl.1 rfl (Nat.le_of_ble_eq_true rfl) d_Rs_write_103 ⟨Nat.zero_le _, Nat.zero_le _⟩ (fun H locs hP hD hS => ?_)
          have hP : va_P D cls (gM cI cL cC ad X laid gone thr m1 m2 e1 e2 mi1 mi2 na1 na2 fa1 fa2 lets rlen x38.1 (0 : Int32) (0 : Int32) were none_ beyo aN bN fN lN_ rN pN twos at_ rdig rpow good txt x38.2 ra rb rfive rleft rright rpart) H := hP
          have hD : va_D A (gM cI cL cC ad X laid gone thr m1 m2 e1 e2 mi1 mi2 na1 na2 fa1 fa2 lets rlen x38.1 (0 : Int32) (0 : Int32) were none_ beyo aN bN fN lN_ rN pN twos at_ rdig rpow good txt x38.2 ra rb rfive rleft rright rpart) := hD
          exact hJ106 _ _ _ _ _ _ _ _ _ _ _ _ _ _ _ _ ls _ _ (lv_sub hl [1, 2, 3] rfl) hP hD hS h
      · have hc := mt (lg_cmp_le _ _).mpr hc
        have h := ite_f hc h
        refine lv_aload_n hx hb d_Rs_write_82 rfl (lv_at hl 1 rfl) ?_
        refine lv_ldc2 hx hb hown (hT _ m_421) d_Rs_write_83 ?_
        refine lv_iconst hx hb d_Rs_write_86 ic_3 ?_
        obtain ⟨x39, e_x39, h⟩ := bd_o h
        refine q_GV (D := D) (A := A) (C := R_Rs) (b := ad 2) (As := [.long (5136718 : Int64), .int (3 : Int32)]) (rest := []) (n := 2) hx hb hml hown hts (c_Rs_layWord l D A cI cL cC ad X laid gone thr m1 m2 e1 e2 mi1 mi2 na1 na2 fa1 fa2 lets rlen (0 : Int32) (0 : Int32) (0 : Int32) were none_ beyo aN bN fN lN_ rN pN twos at_ rdig rpow good txt wri ra rb rfive rleft rright rpart n (5136718 : Int64) (3 : Int32) x39 e_x39) rfl rfl m_416 m_417 m_418 m_419 m_318 (by decide +kernel) ⟨Nat.le_of_ble_eq_true rfl, Nat.le_of_ble_eq_true rfl⟩ (va_recv hK hP (ci := 5) rfl (q0 := 2) rfl) hNB hK hP hD hS rfl hl.1 rfl (Nat.le_of_ble_eq_true rfl) d_Rs_write_87 ⟨Nat.zero_le _, Nat.zero_le _⟩ (fun H locs hP hD hS => ?_)
        have hP : va_P D cls (gM cI cL cC ad X laid gone thr m1 m2 e1 e2 mi1 mi2 na1 na2 fa1 fa2 lets rlen x39.1 (0 : Int32) (0 : Int32) were none_ beyo aN bN fN lN_ rN pN twos at_ rdig rpow good txt x39.2 ra rb rfive rleft rright rpart) H := hP
        have hD : va_D A (gM cI cL cC ad X laid gone thr m1 m2 e1 e2 mi1 mi2 na1 na2 fa1 fa2 lets rlen x39.1 (0 : Int32) (0 : Int32) were none_ beyo aN bN fN lN_ rN pN twos at_ rdig rpow good txt x39.2 ra rb rfive rleft rright rpart) := hD
        refine lv_aload_n hx hb d_Rs_write_90 rfl (lv_at hl 1 rfl) ?_
        refine va_get (D := D) (ci := 5) (C := R_Rs) (T := T_Rs) (N := 26) hx hb hT in_Rs hown hK hP 2 rfl rfl 3 (by decide) (hT _ m_312) (fun _ h9 => h9) rfl d_Rs_write_91 ?_
        obtain rfl := Option.some.inj h
        exact hret 94 ls _ _ _ rfl hP hD hS d_Rs_write_94
    refine lv_if_eq (tgt := 57) hx hb d_Rs_write_35 rfl (fun hc => ?_) (fun hc => ?_)
    · have e_x2 := e_x2.trans (if_pos hc)
      refine lv_lload_n hx hb d_Rs_write_57 rfl (lv_at hl 2 rfl) ?_
      refine lv_lconst hx hb d_Rs_write_58 lc_0 ?_
      refine W.lcmp hx hb d_Rs_write_59 ?_
      refine lv_if_ge (tgt := 67) hx hb d_Rs_write_60 rfl (fun hc => ?_) (fun hc => ?_)
      · have hc := (lg_cmp_ge _ _).mp hc
        have e_x2 := e_x2.trans (if_pos hc)
        refine lv_iconst hx hb d_Rs_write_67 ic_0 ?_
        exact hJ68 _ ls e_x2 (lv_sub hl [1, 3, 0] rfl)
      · have hc := mt (lg_cmp_ge _ _).mpr hc
        have e_x2 := e_x2.trans (if_neg hc)
        refine lv_iconst hx hb d_Rs_write_63 ic_1 ?_
        refine lv_goto (tgt := 68) hx hb d_Rs_write_64 rfl ?_
        exact hJ68 _ ls e_x2 (lv_sub hl [1, 3, 0] rfl)
    · have e_x2 := e_x2.trans (if_neg hc)
      refine lv_lload_n hx hb d_Rs_write_38 rfl (lv_at hl 2 rfl) ?_
      refine lv_bipush hx hb d_Rs_write_39 bp_31 ?_
      refine lv_lshr hx hb d_Rs_write_41 rfl ?_
      refine lv_lconst hx hb d_Rs_write_42 lc_1 ?_
      refine lv_land hx hb d_Rs_write_43 ?_
      refine lv_lconst hx hb d_Rs_write_44 lc_1 ?_
      refine W.lcmp hx hb d_Rs_write_45 ?_
      refine lv_if_ne (tgt := 53) hx hb d_Rs_write_46 rfl (fun hc => ?_) (fun hc => ?_)
      · have hc := mt (lg_cmp_eq _ _).mpr hc
        have e_x2 := e_x2.trans (if_pos hc)
        refine lv_iconst hx hb d_Rs_write_53 ic_0 ?_
        refine lv_goto (tgt := 68) hx hb d_Rs_write_54 rfl ?_
        exact hJ68 _ ls e_x2 (lv_sub hl [1, 3, 0] rfl)
      · have hc := not_not_intro ((lg_cmp_eq _ _).mp hc)
        have e_x2 := e_x2.trans (if_neg hc)
        refine lv_iconst hx hb d_Rs_write_49 ic_1 ?_
        refine lv_goto (tgt := 68) hx hb d_Rs_write_50 rfl ?_
        exact hJ68 _ ls e_x2 (lv_sub hl [1, 3, 0] rfl)
  refine lv_if_eq (tgt := 27) hx hb d_Rs_write_16 rfl (fun hc => ?_) (fun hc => ?_)
  · have e_x1 := e_x1.trans (if_pos hc)
    refine lv_lload_n hx hb d_Rs_write_27 rfl (lv_at hl 1 rfl) ?_
    refine lv_ldc2 hx hb hown (hT _ m_406) d_Rs_write_28 ?_
    refine lv_land hx hb d_Rs_write_31 ?_
    exact hJ32 _ ls e_x1 (lv_sub hl [0, 1, 2] rfl)
  · have e_x1 := e_x1.trans (if_neg hc)
    refine lv_lload_n hx hb d_Rs_write_19 rfl (lv_at hl 1 rfl) ?_
    refine lv_ldc2 hx hb hown (hT _ m_407) d_Rs_write_20 ?_
    refine lv_land hx hb d_Rs_write_23 ?_
    refine lv_goto (tgt := 32) hx hb d_Rs_write_24 rfl ?_
    exact hJ32 _ ls e_x1 (lv_sub hl [0, 1, 2] rfl)
-- Rs_letter
theorem d_Rs_letter_0 : decode b_Rs_letter 0 = .ok (.aload_n 0, 1) := by decide +kernel
theorem d_Rs_letter_1 : decode b_Rs_letter 1 = .ok (.getfield 13, 3) := by decide +kernel
theorem d_Rs_letter_4 : decode b_Rs_letter 4 = .ok (.iload_n 1, 1) := by decide +kernel
theorem d_Rs_letter_5 : decode b_Rs_letter 5 = .ok (.iaload, 1) := by decide +kernel
theorem d_Rs_letter_6 : decode b_Rs_letter 6 = .ok (.ireturn, 1) := by decide +kernel
def F_Rs_letter (n : Nat) (wri : Nat → Int32) (a1 : Int32) : Option (Int32) := gz_ (a1 < 0 ∨ 40 ≤ (a1).toNatClampNeg) <| some (wri (a1).toNatClampNeg)
set_option maxHeartbeats 4000000 in
set_option maxRecDepth 100000 in
theorem c_Rs_letter (l : Launch) (D : va_G) (A : Nat → Prop) (cI cL cC : ClassId) (ad : Nat → Nat) (X : va_W) (laid : Int32) (gone : Int32) (thr : Int32) (m1 : Int64) (m2 : Int64) (e1 : Int32) (e2 : Int32) (mi1 : Int32) (mi2 : Int32) (na1 : Int32) (na2 : Int32) (fa1 : Int32) (fa2 : Int32) (lets : Nat → Int32) (rlen : Int32) (rlaid : Int32) (rgone : Int32) (rthr : Int32) (were : Int32) (none_ : Int32) (beyo : Int32) (aN : Int32) (bN : Int32) (fN : Int32) (lN_ : Int32) (rN : Int32) (pN : Int32) (twos : Int32) (at_ : Int32) (rdig : Int32) (rpow : Int32) (good : Int32) (txt : Nat → Int32) (wri : Nat → Int32) (ra : Nat → Int32) (rb : Nat → Int32) (rfive : Nat → Int32) (rleft : Nat → Int32) (rright : Nat → Int32) (rpart : Nat → Int32) (n : Nat) (a1 : Int32) (r : Int32) (h : F_Rs_letter n wri a1 = some r) : Met l y_Rs_letter (.code y_Rs_letter b_Rs_letter 2 (some .int) :: BIG) ({ frames := 0, cells := 0, slots := 0, locals := 0 } : Room) (va_Pc [.ref (ad 2), .int a1] (gPre D A (tysV cI cL cC) (gM cI cL cC ad X laid gone thr m1 m2 e1 e2 mi1 mi2 na1 na2 fa1 fa2 lets rlen rlaid rgone rthr were none_ beyo aN bN fN lN_ rN pN twos at_ rdig rpow good txt wri ra rb rfive rleft rright rpart))) (gQ D A (some (.int r)) (gM cI cL cC ad X laid gone thr m1 m2 e1 e2 mi1 mi2 na1 na2 fa1 fa2 lets rlen rlaid rgone rthr were none_ beyo aN bN fN lN_ rN pN twos at_ rdig rpow good txt wri ra rb rfive rleft rright rpart)) 0 0 A := by
  refine gOpen_i rfl (Nat.le_of_ble_eq_true rfl) ?_
  intro p e s m args below meth c Q ls hx hb hml hown hts hT hNB hP hK hD hl hret
  have hown : s.vm.findClass R_Rs = some m.cls := hown
  have hS : va_S A s.heap s.heap [] := va_S.rf
  have hl : lv_has ls 2 [(0, .ref (ad 2)), (1, .int a1)] := hl
  have h : (gz_ (a1 < 0 ∨ 40 ≤ (a1).toNatClampNeg) <| some (wri (a1).toNatClampNeg)) = some r := h
  refine lv_aload_n hx hb d_Rs_letter_0 rfl (lv_at hl 0 rfl) ?_
  refine va_get (D := D) (ci := 5) (C := R_Rs) (T := T_Rs) (N := 26) hx hb hT in_Rs hown hK hP 2 rfl rfl 1 (by decide) (hT _ m_311) (fun _ h9 => h9) rfl d_Rs_letter_1 ?_
  refine lv_iload_n hx hb d_Rs_letter_4 rfl (lv_at hl 1 rfl) ?_
  have hi := gz_n h
  have h := gz_h h
  refine va_iald hx hb hK hP 4 0 rfl rfl hi d_Rs_letter_5 ?_
  obtain rfl := Option.some.inj h
  exact hret 6 ls _ _ _ rfl hP hD hS d_Rs_letter_6
-- Md_text
theorem d_Md_text_0 : decode b_Md_text 0 = .ok (.iload_n 3, 1) := by decide +kernel
theorem d_Md_text_1 : decode b_Md_text 1 = .ok (.iconst 1, 1) := by decide +kernel
theorem d_Md_text_2 : decode b_Md_text 2 = .ok (.if_icmp .lt 9, 3) := by decide +kernel
theorem d_Md_text_5 : decode b_Md_text 5 = .ok (.iload_n 3, 1) := by decide +kernel
theorem d_Md_text_6 : decode b_Md_text 6 = .ok (.bipush 6, 2) := by decide +kernel
theorem d_Md_text_8 : decode b_Md_text 8 = .ok (.if_icmp .le 10, 3) := by decide +kernel
theorem d_Md_text_11 : decode b_Md_text 11 = .ok (.aload_n 0, 1) := by decide +kernel
theorem d_Md_text_12 : decode b_Md_text 12 = .ok (.iconst 1, 1) := by decide +kernel
theorem d_Md_text_13 : decode b_Md_text 13 = .ok (.invokevirtual 123, 3) := by decide +kernel
theorem d_Md_text_16 : decode b_Md_text 16 = .ok (.l2i, 1) := by decide +kernel
theorem d_Md_text_17 : decode b_Md_text 17 = .ok (.ireturn, 1) := by decide +kernel
theorem d_Md_text_18 : decode b_Md_text 18 = .ok (.aload_n 0, 1) := by decide +kernel
theorem d_Md_text_19 : decode b_Md_text 19 = .ok (.iconst 0, 1) := by decide +kernel
theorem d_Md_text_20 : decode b_Md_text 20 = .ok (.putfield 20, 3) := by decide +kernel
theorem d_Md_text_23 : decode b_Md_text 23 = .ok (.aload_n 0, 1) := by decide +kernel
theorem d_Md_text_24 : decode b_Md_text 24 = .ok (.iconst 0, 1) := by decide +kernel
theorem d_Md_text_25 : decode b_Md_text 25 = .ok (.putfield 146, 3) := by decide +kernel
theorem d_Md_text_28 : decode b_Md_text 28 = .ok (.aload_n 0, 1) := by decide +kernel
theorem d_Md_text_29 : decode b_Md_text 29 = .ok (.iconst 0, 1) := by decide +kernel
theorem d_Md_text_30 : decode b_Md_text 30 = .ok (.putfield 149, 3) := by decide +kernel
theorem d_Md_text_33 : decode b_Md_text 33 = .ok (.iload_n 3, 1) := by decide +kernel
theorem d_Md_text_34 : decode b_Md_text 34 = .ok (.iconst 4, 1) := by decide +kernel
theorem d_Md_text_35 : decode b_Md_text 35 = .ok (.if_icmp .le 57, 3) := by decide +kernel
theorem d_Md_text_38 : decode b_Md_text 38 = .ok (.aload_n 0, 1) := by decide +kernel
theorem d_Md_text_39 : decode b_Md_text 39 = .ok (.getfield 10, 3) := by decide +kernel
theorem d_Md_text_42 : decode b_Md_text 42 = .ok (.lload_n 1, 1) := by decide +kernel
theorem d_Md_text_43 : decode b_Md_text 43 = .ok (.iload_n 3, 1) := by decide +kernel
theorem d_Md_text_44 : decode b_Md_text 44 = .ok (.iconst 5, 1) := by decide +kernel
theorem d_Md_text_45 : decode b_Md_text 45 = .ok (.if_icmp .ne 7, 3) := by decide +kernel
theorem d_Md_text_48 : decode b_Md_text 48 = .ok (.iconst 1, 1) := by decide +kernel
theorem d_Md_text_49 : decode b_Md_text 49 = .ok (.goto 4, 3) := by decide +kernel
theorem d_Md_text_52 : decode b_Md_text 52 = .ok (.iconst 0, 1) := by decide +kernel
theorem d_Md_text_53 : decode b_Md_text 53 = .ok (.invokevirtual 152, 3) := by decide +kernel
theorem d_Md_text_56 : decode b_Md_text 56 = .ok (.istore 4, 2) := by decide +kernel
theorem d_Md_text_58 : decode b_Md_text 58 = .ok (.iconst 0, 1) := by decide +kernel
theorem d_Md_text_59 : decode b_Md_text 59 = .ok (.istore 5, 2) := by decide +kernel
theorem d_Md_text_61 : decode b_Md_text 61 = .ok (.iload 5, 2) := by decide +kernel
theorem d_Md_text_63 : decode b_Md_text 63 = .ok (.iload 4, 2) := by decide +kernel
theorem d_Md_text_65 : decode b_Md_text 65 = .ok (.if_icmp .ge 22, 3) := by decide +kernel
theorem d_Md_text_68 : decode b_Md_text 68 = .ok (.aload_n 0, 1) := by decide +kernel
theorem d_Md_text_69 : decode b_Md_text 69 = .ok (.aload_n 0, 1) := by decide +kernel
theorem d_Md_text_70 : decode b_Md_text 70 = .ok (.getfield 10, 3) := by decide +kernel
theorem d_Md_text_73 : decode b_Md_text 73 = .ok (.iload 5, 2) := by decide +kernel
theorem d_Md_text_75 : decode b_Md_text 75 = .ok (.invokevirtual 156, 3) := by decide +kernel
theorem d_Md_text_78 : decode b_Md_text 78 = .ok (.invokevirtual 160, 3) := by decide +kernel
theorem d_Md_text_81 : decode b_Md_text 81 = .ok (.iinc 5 1, 3) := by decide +kernel
theorem d_Md_text_84 : decode b_Md_text 84 = .ok (.goto (-23), 3) := by decide +kernel
theorem d_Md_text_87 : decode b_Md_text 87 = .ok (.aload_n 0, 1) := by decide +kernel
theorem d_Md_text_88 : decode b_Md_text 88 = .ok (.getfield 146, 3) := by decide +kernel
theorem d_Md_text_91 : decode b_Md_text 91 = .ok (.ireturn, 1) := by decide +kernel
theorem d_Md_text_92 : decode b_Md_text 92 = .ok (.lload_n 1, 1) := by decide +kernel
theorem d_Md_text_93 : decode b_Md_text 93 = .ok (.iload_n 3, 1) := by decide +kernel
theorem d_Md_text_94 : decode b_Md_text 94 = .ok (.invokestatic 119, 3) := by decide +kernel
theorem d_Md_text_97 : decode b_Md_text 97 = .ok (.lstore 4, 2) := by decide +kernel
theorem d_Md_text_99 : decode b_Md_text 99 = .ok (.lconst 1, 1) := by decide +kernel
theorem d_Md_text_100 : decode b_Md_text 100 = .ok (.lstore 6, 2) := by decide +kernel
theorem d_Md_text_102 : decode b_Md_text 102 = .ok (.lload 4, 2) := by decide +kernel
theorem d_Md_text_104 : decode b_Md_text 104 = .ok (.lconst 0, 1) := by decide +kernel
theorem d_Md_text_105 : decode b_Md_text 105 = .ok (.lcmp, 1) := by decide +kernel
theorem d_Md_text_106 : decode b_Md_text 106 = .ok (.ifCond .ge 9, 3) := by decide +kernel
theorem d_Md_text_109 : decode b_Md_text 109 = .ok (.aload_n 0, 1) := by decide +kernel
theorem d_Md_text_110 : decode b_Md_text 110 = .ok (.bipush 45, 2) := by decide +kernel
theorem d_Md_text_112 : decode b_Md_text 112 = .ok (.invokevirtual 160, 3) := by decide +kernel
theorem d_Md_text_115 : decode b_Md_text 115 = .ok (.lload 4, 2) := by decide +kernel
theorem d_Md_text_117 : decode b_Md_text 117 = .ok (.lload 6, 2) := by decide +kernel
theorem d_Md_text_119 : decode b_Md_text 119 = .ok (.ldiv, 1) := by decide +kernel
theorem d_Md_text_120 : decode b_Md_text 120 = .ok (.ldc2_w 164, 3) := by decide +kernel
theorem d_Md_text_123 : decode b_Md_text 123 = .ok (.lcmp, 1) := by decide +kernel
theorem d_Md_text_124 : decode b_Md_text 124 = .ok (.ifCond .gt 15, 3) := by decide +kernel
theorem d_Md_text_127 : decode b_Md_text 127 = .ok (.lload 4, 2) := by decide +kernel
theorem d_Md_text_129 : decode b_Md_text 129 = .ok (.lload 6, 2) := by decide +kernel
theorem d_Md_text_131 : decode b_Md_text 131 = .ok (.ldiv, 1) := by decide +kernel
theorem d_Md_text_132 : decode b_Md_text 132 = .ok (.ldc2_w 166, 3) := by decide +kernel
theorem d_Md_text_135 : decode b_Md_text 135 = .ok (.lcmp, 1) := by decide +kernel
theorem d_Md_text_136 : decode b_Md_text 136 = .ok (.ifCond .ge 14, 3) := by decide +kernel
theorem d_Md_text_139 : decode b_Md_text 139 = .ok (.lload 6, 2) := by decide +kernel
theorem d_Md_text_141 : decode b_Md_text 141 = .ok (.ldc2_w 168, 3) := by decide +kernel
theorem d_Md_text_144 : decode b_Md_text 144 = .ok (.lmul, 1) := by decide +kernel
theorem d_Md_text_145 : decode b_Md_text 145 = .ok (.lstore 6, 2) := by decide +kernel
theorem d_Md_text_147 : decode b_Md_text 147 = .ok (.goto (-32), 3) := by decide +kernel
theorem d_Md_text_150 : decode b_Md_text 150 = .ok (.lload 6, 2) := by decide +kernel
theorem d_Md_text_152 : decode b_Md_text 152 = .ok (.lconst 0, 1) := by decide +kernel
theorem d_Md_text_153 : decode b_Md_text 153 = .ok (.lcmp, 1) := by decide +kernel
theorem d_Md_text_154 : decode b_Md_text 154 = .ok (.ifCond .le 49, 3) := by decide +kernel
theorem d_Md_text_157 : decode b_Md_text 157 = .ok (.lload 4, 2) := by decide +kernel
theorem d_Md_text_159 : decode b_Md_text 159 = .ok (.lload 6, 2) := by decide +kernel
theorem d_Md_text_161 : decode b_Md_text 161 = .ok (.ldiv, 1) := by decide +kernel
theorem d_Md_text_162 : decode b_Md_text 162 = .ok (.ldc2_w 168, 3) := by decide +kernel
theorem d_Md_text_165 : decode b_Md_text 165 = .ok (.lrem, 1) := by decide +kernel
theorem d_Md_text_166 : decode b_Md_text 166 = .ok (.lstore 8, 2) := by decide +kernel
theorem d_Md_text_168 : decode b_Md_text 168 = .ok (.aload_n 0, 1) := by decide +kernel
theorem d_Md_text_169 : decode b_Md_text 169 = .ok (.ldc2_w 170, 3) := by decide +kernel
theorem d_Md_text_172 : decode b_Md_text 172 = .ok (.lload 8, 2) := by decide +kernel
theorem d_Md_text_174 : decode b_Md_text 174 = .ok (.lconst 0, 1) := by decide +kernel
theorem d_Md_text_175 : decode b_Md_text 175 = .ok (.lcmp, 1) := by decide +kernel
theorem d_Md_text_176 : decode b_Md_text 176 = .ok (.ifCond .ge 9, 3) := by decide +kernel
theorem d_Md_text_179 : decode b_Md_text 179 = .ok (.lload 8, 2) := by decide +kernel
theorem d_Md_text_181 : decode b_Md_text 181 = .ok (.lneg, 1) := by decide +kernel
theorem d_Md_text_182 : decode b_Md_text 182 = .ok (.goto 5, 3) := by decide +kernel
theorem d_Md_text_185 : decode b_Md_text 185 = .ok (.lload 8, 2) := by decide +kernel
theorem d_Md_text_187 : decode b_Md_text 187 = .ok (.ladd, 1) := by decide +kernel
theorem d_Md_text_188 : decode b_Md_text 188 = .ok (.l2i, 1) := by decide +kernel
theorem d_Md_text_189 : decode b_Md_text 189 = .ok (.invokevirtual 160, 3) := by decide +kernel
theorem d_Md_text_192 : decode b_Md_text 192 = .ok (.lload 6, 2) := by decide +kernel
theorem d_Md_text_194 : decode b_Md_text 194 = .ok (.ldc2_w 168, 3) := by decide +kernel
theorem d_Md_text_197 : decode b_Md_text 197 = .ok (.ldiv, 1) := by decide +kernel
theorem d_Md_text_198 : decode b_Md_text 198 = .ok (.lstore 6, 2) := by decide +kernel
theorem d_Md_text_200 : decode b_Md_text 200 = .ok (.goto (-50), 3) := by decide +kernel
theorem d_Md_text_203 : decode b_Md_text 203 = .ok (.aload_n 0, 1) := by decide +kernel
theorem d_Md_text_204 : decode b_Md_text 204 = .ok (.getfield 146, 3) := by decide +kernel
theorem d_Md_text_207 : decode b_Md_text 207 = .ok (.ireturn, 1) := by decide +kernel
def F_Md_text_L150 (x22 : Int64) (j203 : (Int32 → Int32 → Int32 → (Nat → Int32) → Int32 → Int32 → Int32 → Int32 → Int32 → Int32 → Int32 → Int32 → Int32 → Int32 → (Nat → Int32) → (Nat → Int32) → (Nat → Int32) → (Nat → Int32) → (Nat → Int32) → (Nat → Int32) → Option (Int32 × Int32 × Int32 × Int32 × (Nat → Int32) × Int32 × Int32 × Int32 × Int32 × Int32 × Int32 × Int32 × Int32 × Int32 × Int32 × (Nat → Int32) × (Nat → Int32) × (Nat → Int32) × (Nat → Int32) × (Nat → Int32) × (Nat → Int32)))) : Nat → Int64 → Int32 → Int32 → Int32 → (Nat → Int32) → Int32 → Int32 → Int32 → Int32 → Int32 → Int32 → Int32 → Int32 → Int32 → Int32 → (Nat → Int32) → (Nat → Int32) → (Nat → Int32) → (Nat → Int32) → (Nat → Int32) → (Nat → Int32) → Option (Int32 × Int32 × Int32 × Int32 × (Nat → Int32) × Int32 × Int32 × Int32 × Int32 × Int32 × Int32 × Int32 × Int32 × Int32 × Int32 × (Nat → Int32) × (Nat → Int32) × (Nat → Int32) × (Nat → Int32) × (Nat → Int32) × (Nat → Int32))
  | 0, _, _, _, _, _, _, _, _, _, _, _, _, _, _, _, _, _, _, _, _, _ => none
  | n+1, y84, laid_85, gone_86, thr_87, lets_88, rlaid_89, rgone_90, rthr_91, aN_92, bN_93, fN_94, lN__95, rN_96, twos_97, rpow_98, wri_99, ra_100, rb_101, rfive_102, rleft_103, rright_104 => if y84 ≤ (0 : Int64) then (j203 laid_85 gone_86 thr_87 lets_88 rlaid_89 rgone_90 rthr_91 aN_92 bN_93 fN_94 lN__95 rN_96 twos_97 rpow_98 wri_99 ra_100 rb_101 rfive_102 rleft_103 rright_104) else (gz_ (y84 = 0) <| lt_ ((x22 / y84) - (x22 / y84) / (10 : Int64) * (10 : Int64)) fun x105 => lt_ (if (0 : Int64) ≤ x105 then x105 else -x105) fun x106 => (F_Md_lay n laid_85 lets_88 (((48 : Int64) + x106).toInt32)).bind fun x107 => lt_ (y84 / (10 : Int64)) fun x108 => F_Md_text_L150 x22 j203 n x108 x107.1 gone_86 thr_87 x107.2 rlaid_89 rgone_90 rthr_91 aN_92 bN_93 fN_94 lN__95 rN_96 twos_97 rpow_98 wri_99 ra_100 rb_101 rfive_102 rleft_103 rright_104)
def F_Md_text_L115 (x22 : Int64) (j150 : (Int64 → Int32 → Int32 → Int32 → (Nat → Int32) → Int32 → Int32 → Int32 → Int32 → Int32 → Int32 → Int32 → Int32 → Int32 → Int32 → (Nat → Int32) → (Nat → Int32) → (Nat → Int32) → (Nat → Int32) → (Nat → Int32) → (Nat → Int32) → Option (Int32 × Int32 × Int32 × Int32 × (Nat → Int32) × Int32 × Int32 × Int32 × Int32 × Int32 × Int32 × Int32 × Int32 × Int32 × Int32 × (Nat → Int32) × (Nat → Int32) × (Nat → Int32) × (Nat → Int32) × (Nat → Int32) × (Nat → Int32)))) : Nat → Int64 → Int32 → Int32 → Int32 → (Nat → Int32) → Int32 → Int32 → Int32 → Int32 → Int32 → Int32 → Int32 → Int32 → Int32 → Int32 → (Nat → Int32) → (Nat → Int32) → (Nat → Int32) → (Nat → Int32) → (Nat → Int32) → (Nat → Int32) → Option (Int32 × Int32 × Int32 × Int32 × (Nat → Int32) × Int32 × Int32 × Int32 × Int32 × Int32 × Int32 × Int32 × Int32 × Int32 × Int32 × (Nat → Int32) × (Nat → Int32) × (Nat → Int32) × (Nat → Int32) × (Nat → Int32) × (Nat → Int32))
  | 0, _, _, _, _, _, _, _, _, _, _, _, _, _, _, _, _, _, _, _, _, _ => none
  | n+1, y109, laid_110, gone_111, thr_112, lets_113, rlaid_114, rgone_115, rthr_116, aN_117, bN_118, fN_119, lN__120, rN_121, twos_122, rpow_123, wri_124, ra_125, rb_126, rfive_127, rleft_128, rright_129 => gz_ (y109 = 0) <| lt_ (fun (laid_130 : Int32) (gone_131 : Int32) (thr_132 : Int32) (lets_133 : (Nat → Int32)) (rlaid_134 : Int32) (rgone_135 : Int32) (rthr_136 : Int32) (aN_137 : Int32) (bN_138 : Int32) (fN_139 : Int32) (lN__140 : Int32) (rN_141 : Int32) (twos_142 : Int32) (rpow_143 : Int32) (wri_144 : (Nat → Int32)) (ra_145 : (Nat → Int32)) (rb_146 : (Nat → Int32)) (rfive_147 : (Nat → Int32)) (rleft_148 : (Nat → Int32)) (rright_149 : (Nat → Int32)) => lt_ (y109 * (10 : Int64)) fun x150 => F_Md_text_L115 x22 j150 n x150 laid_130 gone_131 thr_132 lets_133 rlaid_134 rgone_135 rthr_136 aN_137 bN_138 fN_139 lN__140 rN_141 twos_142 rpow_143 wri_144 ra_145 rb_146 rfive_147 rleft_148 rright_149) fun j139 => if (9 : Int64) < (x22 / y109) then (j139 laid_110 gone_111 thr_112 lets_113 rlaid_114 rgone_115 rthr_116 aN_117 bN_118 fN_119 lN__120 rN_121 twos_122 rpow_123 wri_124 ra_125 rb_126 rfive_127 rleft_128 rright_129) else (gz_ (y109 = 0) <| if (-9 : Int64) ≤ (x22 / y109) then (j150 y109 laid_110 gone_111 thr_112 lets_113 rlaid_114 rgone_115 rthr_116 aN_117 bN_118 fN_119 lN__120 rN_121 twos_122 rpow_123 wri_124 ra_125 rb_126 rfive_127 rleft_128 rright_129) else (j139 laid_110 gone_111 thr_112 lets_113 rlaid_114 rgone_115 rthr_116 aN_117 bN_118 fN_119 lN__120 rN_121 twos_122 rpow_123 wri_124 ra_125 rb_126 rfive_127 rleft_128 rright_129))
def F_Md_text_L61 (j87 : (Int32 → Int32 → Int32 → (Nat → Int32) → Int32 → Int32 → Int32 → Int32 → Int32 → Int32 → Int32 → Int32 → Int32 → Int32 → (Nat → Int32) → (Nat → Int32) → (Nat → Int32) → (Nat → Int32) → (Nat → Int32) → (Nat → Int32) → Option (Int32 × Int32 × Int32 × Int32 × (Nat → Int32) × Int32 × Int32 × Int32 × Int32 × Int32 × Int32 × Int32 × Int32 × Int32 × Int32 × (Nat → Int32) × (Nat → Int32) × (Nat → Int32) × (Nat → Int32) × (Nat → Int32) × (Nat → Int32)))) : Nat → Int32 → Int32 → Int32 → Int32 → Int32 → (Nat → Int32) → Int32 → Int32 → Int32 → Int32 → Int32 → Int32 → Int32 → Int32 → Int32 → Int32 → (Nat → Int32) → (Nat → Int32) → (Nat → Int32) → (Nat → Int32) → (Nat → Int32) → (Nat → Int32) → Option (Int32 × Int32 × Int32 × Int32 × (Nat → Int32) × Int32 × Int32 × Int32 × Int32 × Int32 × Int32 × Int32 × Int32 × Int32 × Int32 × (Nat → Int32) × (Nat → Int32) × (Nat → Int32) × (Nat → Int32) × (Nat → Int32) × (Nat → Int32))
  | 0, _, _, _, _, _, _, _, _, _, _, _, _, _, _, _, _, _, _, _, _, _, _ => none
  | n+1, y174, y175, laid_176, gone_177, thr_178, lets_179, rlaid_180, rgone_181, rthr_182, aN_183, bN_184, fN_185, lN__186, rN_187, twos_188, rpow_189, wri_190, ra_191, rb_192, rfive_193, rleft_194, rright_195 => if y174 ≤ y175 then (j87 laid_176 gone_177 thr_178 lets_179 rlaid_180 rgone_181 rthr_182 aN_183 bN_184 fN_185 lN__186 rN_187 twos_188 rpow_189 wri_190 ra_191 rb_192 rfive_193 rleft_194 rright_195) else ((F_Rs_letter n wri_190 y175).bind fun x196 => (F_Md_lay n laid_176 lets_179 x196).bind fun x197 => lt_ (y175 + Int32.ofInt 1) fun x198 => F_Md_text_L61 j87 n y174 x198 x197.1 gone_177 thr_178 x197.2 rlaid_180 rgone_181 rthr_182 aN_183 bN_184 fN_185 lN__186 rN_187 twos_188 rpow_189 wri_190 ra_191 rb_192 rfive_193 rleft_194 rright_195)
def F_Md_text (n : Nat) (laid : Int32) (gone : Int32) (thr : Int32) (lets : Nat → Int32) (rlaid : Int32) (rgone : Int32) (rthr : Int32) (aN : Int32) (bN : Int32) (fN : Int32) (lN_ : Int32) (rN : Int32) (twos : Int32) (rpow : Int32) (wri : Nat → Int32) (ra : Nat → Int32) (rb : Nat → Int32) (rfive : Nat → Int32) (rleft : Nat → Int32) (rright : Nat → Int32) (a1 : Int64) (a2 : Int32) : Option (Int32 × Int32 × Int32 × Int32 × (Nat → Int32) × Int32 × Int32 × Int32 × Int32 × Int32 × Int32 × Int32 × Int32 × Int32 × Int32 × (Nat → Int32) × (Nat → Int32) × (Nat → Int32) × (Nat → Int32) × (Nat → Int32) × (Nat → Int32)) := lt_ (fun (laid_1 : Int32) (gone_2 : Int32) (thr_3 : Int32) (lets_4 : (Nat → Int32)) (rlaid_5 : Int32) (rgone_6 : Int32) (rthr_7 : Int32) (aN_8 : Int32) (bN_9 : Int32) (fN_10 : Int32) (lN__11 : Int32) (rN_12 : Int32) (twos_13 : Int32) (rpow_14 : Int32) (wri_15 : (Nat → Int32)) (ra_16 : (Nat → Int32)) (rb_17 : (Nat → Int32)) (rfive_18 : (Nat → Int32)) (rleft_19 : (Nat → Int32)) (rright_20 : (Nat → Int32)) => lt_ (F_Md_fails thr_3 (1 : Int32)) fun x21 => some ((x21.1).toInt32, laid_1, gone_2, x21.2, lets_4, rlaid_5, rgone_6, rthr_7, aN_8, bN_9, fN_10, lN__11, rN_12, twos_13, rpow_14, wri_15, ra_16, rb_17, rfive_18, rleft_19, rright_20)) fun j11 => if a2 < (1 : Int32) then (j11 laid gone thr lets rlaid rgone rthr aN bN fN lN_ rN twos rpow wri ra rb rfive rleft rright) else (if a2 ≤ (6 : Int32) then (if a2 ≤ (4 : Int32) then (lt_ (F_Md_cut a1 a2) fun x22 => lt_ (fun (laid_23 : Int32) (gone_24 : Int32) (thr_25 : Int32) (lets_26 : (Nat → Int32)) (rlaid_27 : Int32) (rgone_28 : Int32) (rthr_29 : Int32) (aN_30 : Int32) (bN_31 : Int32) (fN_32 : Int32) (lN__33 : Int32) (rN_34 : Int32) (twos_35 : Int32) (rpow_36 : Int32) (wri_37 : (Nat → Int32)) (ra_38 : (Nat → Int32)) (rb_39 : (Nat → Int32)) (rfive_40 : (Nat → Int32)) (rleft_41 : (Nat → Int32)) (rright_42 : (Nat → Int32)) => lt_ (fun (y43 : Int64) (laid_44 : Int32) (gone_45 : Int32) (thr_46 : Int32) (lets_47 : (Nat → Int32)) (rlaid_48 : Int32) (rgone_49 : Int32) (rthr_50 : Int32) (aN_51 : Int32) (bN_52 : Int32) (fN_53 : Int32) (lN__54 : Int32) (rN_55 : Int32) (twos_56 : Int32) (rpow_57 : Int32) (wri_58 : (Nat → Int32)) (ra_59 : (Nat → Int32)) (rb_60 : (Nat → Int32)) (rfive_61 : (Nat → Int32)) (rleft_62 : (Nat → Int32)) (rright_63 : (Nat → Int32)) => lt_ (fun (laid_64 : Int32) (gone_65 : Int32) (thr_66 : Int32) (lets_67 : (Nat → Int32)) (rlaid_68 : Int32) (rgone_69 : Int32) (rthr_70 : Int32) (aN_71 : Int32) (bN_72 : Int32) (fN_73 : Int32) (lN__74 : Int32) (rN_75 : Int32) (twos_76 : Int32) (rpow_77 : Int32) (wri_78 : (Nat → Int32)) (ra_79 : (Nat → Int32)) (rb_80 : (Nat → Int32)) (rfive_81 : (Nat → Int32)) (rleft_82 : (Nat → Int32)) (rright_83 : (Nat → Int32)) => some (laid_64, laid_64, gone_65, thr_66, lets_67, rlaid_68, rgone_69, rthr_70, aN_71, bN_72, fN_73, lN__74, rN_75, twos_76, rpow_77, wri_78, ra_79, rb_80, rfive_81, rleft_82, rright_83)) fun j203 => F_Md_text_L150 x22 j203 n y43 laid_44 gone_45 thr_46 lets_47 rlaid_48 rgone_49 rthr_50 aN_51 bN_52 fN_53 lN__54 rN_55 twos_56 rpow_57 wri_58 ra_59 rb_60 rfive_61 rleft_62 rright_63) fun j150 => F_Md_text_L115 x22 j150 n (1 : Int64) laid_23 gone_24 thr_25 lets_26 rlaid_27 rgone_28 rthr_29 aN_30 bN_31 fN_32 lN__33 rN_34 twos_35 rpow_36 wri_37 ra_38 rb_39 rfive_40 rleft_41 rright_42) fun j115 => if (0 : Int64) ≤ x22 then (j115 (0 : Int32) (0 : Int32) (0 : Int32) lets rlaid rgone rthr aN bN fN lN_ rN twos rpow wri ra rb rfive rleft rright) else ((F_Md_lay n (0 : Int32) lets (45 : Int32)).bind fun x151 => j115 x151.1 (0 : Int32) (0 : Int32) x151.2 rlaid rgone rthr aN bN fN lN_ rN twos rpow wri ra rb rfive rleft rright)) else (lt_ (if ¬ a2 = (5 : Int32) then (0 : Int32) else (1 : Int32)) fun x152 => (F_Rs_write n rlaid rgone rthr aN bN fN lN_ rN twos rpow wri ra rb rfive rleft rright a1 x152).bind fun x153 => lt_ (fun (laid_154 : Int32) (gone_155 : Int32) (thr_156 : Int32) (lets_157 : (Nat → Int32)) (rlaid_158 : Int32) (rgone_159 : Int32) (rthr_160 : Int32) (aN_161 : Int32) (bN_162 : Int32) (fN_163 : Int32) (lN__164 : Int32) (rN_165 : Int32) (twos_166 : Int32) (rpow_167 : Int32) (wri_168 : (Nat → Int32)) (ra_169 : (Nat → Int32)) (rb_170 : (Nat → Int32)) (rfive_171 : (Nat → Int32)) (rleft_172 : (Nat → Int32)) (rright_173 : (Nat → Int32)) => some (laid_154, laid_154, gone_155, thr_156, lets_157, rlaid_158, rgone_159, rthr_160, aN_161, bN_162, fN_163, lN__164, rN_165, twos_166, rpow_167, wri_168, ra_169, rb_170, rfive_171, rleft_172, rright_173)) fun j87 => F_Md_text_L61 j87 n x153.1 (0 : Int32) (0 : Int32) (0 : Int32) (0 : Int32) lets x153.2.1 x153.2.2.1 x153.2.2.2.1 x153.2.2.2.2.1 x153.2.2.2.2.2.1 x153.2.2.2.2.2.2.1 x153.2.2.2.2.2.2.2.1 x153.2.2.2.2.2.2.2.2.1 x153.2.2.2.2.2.2.2.2.2.1 x153.2.2.2.2.2.2.2.2.2.2.1 x153.2.2.2.2.2.2.2.2.2.2.2.1 x153.2.2.2.2.2.2.2.2.2.2.2.2.1 x153.2.2.2.2.2.2.2.2.2.2.2.2.2.1 x153.2.2.2.2.2.2.2.2.2.2.2.2.2.2.1 x153.2.2.2.2.2.2.2.2.2.2.2.2.2.2.2.1 x153.2.2.2.2.2.2.2.2.2.2.2.2.2.2.2.2)) else (j11 laid gone thr lets rlaid rgone rthr aN bN fN lN_ rN twos rpow wri ra rb rfive rleft rright))
set_option maxHeartbeats 4000000 in
set_option maxRecDepth 100000 in
theorem c_Md_text (l : Launch) (D : va_G) (A : Nat → Prop) (cI cL cC : ClassId) (ad : Nat → Nat) (X : va_W) (laid : Int32) (gone : Int32) (thr : Int32) (m1 : Int64) (m2 : Int64) (e1 : Int32) (e2 : Int32) (mi1 : Int32) (mi2 : Int32) (na1 : Int32) (na2 : Int32) (fa1 : Int32) (fa2 : Int32) (lets : Nat → Int32) (rlen : Int32) (rlaid : Int32) (rgone : Int32) (rthr : Int32) (were : Int32) (none_ : Int32) (beyo : Int32) (aN : Int32) (bN : Int32) (fN : Int32) (lN_ : Int32) (rN : Int32) (pN : Int32) (twos : Int32) (at_ : Int32) (rdig : Int32) (rpow : Int32) (good : Int32) (txt : Nat → Int32) (wri : Nat → Int32) (ra : Nat → Int32) (rb : Nat → Int32) (rfive : Nat → Int32) (rleft : Nat → Int32) (rright : Nat → Int32) (rpart : Nat → Int32) (n : Nat) (a1 : Int64) (a2 : Int32) (r : Int32 × Int32 × Int32 × Int32 × (Nat → Int32) × Int32 × Int32 × Int32 × Int32 × Int32 × Int32 × Int32 × Int32 × Int32 × Int32 × (Nat → Int32) × (Nat → Int32) × (Nat → Int32) × (Nat → Int32) × (Nat → Int32) × (Nat → Int32)) (h : F_Md_text n laid gone thr lets rlaid rgone rthr aN bN fN lN_ rN twos rpow wri ra rb rfive rleft rright a1 a2 = some r) : Met l y_Md_text (.code y_Md_text b_Md_text 10 (some .int) :: BIG) ({ frames := 9, cells := 0, slots := 0, locals := 246 } : Room) (va_Pc [.ref (ad 0), .long a1, .int a2] (gPre D A (tysV cI cL cC) (gM cI cL cC ad X laid gone thr m1 m2 e1 e2 mi1 mi2 na1 na2 fa1 fa2 lets rlen rlaid rgone rthr were none_ beyo aN bN fN lN_ rN pN twos at_ rdig rpow good txt wri ra rb rfive rleft rright rpart))) (gQ D A (some (.int r.1)) (gM cI cL cC ad X r.2.1 r.2.2.1 r.2.2.2.1 m1 m2 e1 e2 mi1 mi2 na1 na2 fa1 fa2 r.2.2.2.2.1 rlen r.2.2.2.2.2.1 r.2.2.2.2.2.2.1 r.2.2.2.2.2.2.2.1 were none_ beyo r.2.2.2.2.2.2.2.2.1 r.2.2.2.2.2.2.2.2.2.1 r.2.2.2.2.2.2.2.2.2.2.1 r.2.2.2.2.2.2.2.2.2.2.2.1 r.2.2.2.2.2.2.2.2.2.2.2.2.1 pN r.2.2.2.2.2.2.2.2.2.2.2.2.2.1 at_ rdig r.2.2.2.2.2.2.2.2.2.2.2.2.2.2.1 good txt r.2.2.2.2.2.2.2.2.2.2.2.2.2.2.2.1 r.2.2.2.2.2.2.2.2.2.2.2.2.2.2.2.2.1 r.2.2.2.2.2.2.2.2.2.2.2.2.2.2.2.2.2.1 r.2.2.2.2.2.2.2.2.2.2.2.2.2.2.2.2.2.2.1 r.2.2.2.2.2.2.2.2.2.2.2.2.2.2.2.2.2.2.2.1 r.2.2.2.2.2.2.2.2.2.2.2.2.2.2.2.2.2.2.2.2 rpart)) 0 0 A := by
  refine gOpen_i rfl (Nat.le_of_ble_eq_true rfl) ?_
  intro p e s m args below meth c Q ls hx hb hml hown hts hT hNB hP hK hD hl hret
  have hown : s.vm.findClass R_Md = some m.cls := hown
  have hS : va_S A s.heap s.heap [] := va_S.rf
  have hl : lv_has ls 10 [(0, .ref (ad 0)), (1, .long a1), (3, .int a2)] := hl
  have h : (lt_ (fun (laid_1 : Int32) (gone_2 : Int32) (thr_3 : Int32) (lets_4 : (Nat → Int32)) (rlaid_5 : Int32) (rgone_6 : Int32) (rthr_7 : Int32) (aN_8 : Int32) (bN_9 : Int32) (fN_10 : Int32) (lN__11 : Int32) (rN_12 : Int32) (twos_13 : Int32) (rpow_14 : Int32) (wri_15 : (Nat → Int32)) (ra_16 : (Nat → Int32)) (rb_17 : (Nat → Int32)) (rfive_18 : (Nat → Int32)) (rleft_19 : (Nat → Int32)) (rright_20 : (Nat → Int32)) => lt_ (F_Md_fails thr_3 (1 : Int32)) fun x21 => some ((x21.1).toInt32, laid_1, gone_2, x21.2, lets_4, rlaid_5, rgone_6, rthr_7, aN_8, bN_9, fN_10, lN__11, rN_12, twos_13, rpow_14, wri_15, ra_16, rb_17, rfive_18, rleft_19, rright_20)) fun j11 => if a2 < (1 : Int32) then (j11 laid gone thr lets rlaid rgone rthr aN bN fN lN_ rN twos rpow wri ra rb rfive rleft rright) else (if a2 ≤ (6 : Int32) then (if a2 ≤ (4 : Int32) then (lt_ (F_Md_cut a1 a2) fun x22 => lt_ (fun (laid_23 : Int32) (gone_24 : Int32) (thr_25 : Int32) (lets_26 : (Nat → Int32)) (rlaid_27 : Int32) (rgone_28 : Int32) (rthr_29 : Int32) (aN_30 : Int32) (bN_31 : Int32) (fN_32 : Int32) (lN__33 : Int32) (rN_34 : Int32) (twos_35 : Int32) (rpow_36 : Int32) (wri_37 : (Nat → Int32)) (ra_38 : (Nat → Int32)) (rb_39 : (Nat → Int32)) (rfive_40 : (Nat → Int32)) (rleft_41 : (Nat → Int32)) (rright_42 : (Nat → Int32)) => lt_ (fun (y43 : Int64) (laid_44 : Int32) (gone_45 : Int32) (thr_46 : Int32) (lets_47 : (Nat → Int32)) (rlaid_48 : Int32) (rgone_49 : Int32) (rthr_50 : Int32) (aN_51 : Int32) (bN_52 : Int32) (fN_53 : Int32) (lN__54 : Int32) (rN_55 : Int32) (twos_56 : Int32) (rpow_57 : Int32) (wri_58 : (Nat → Int32)) (ra_59 : (Nat → Int32)) (rb_60 : (Nat → Int32)) (rfive_61 : (Nat → Int32)) (rleft_62 : (Nat → Int32)) (rright_63 : (Nat → Int32)) => lt_ (fun (laid_64 : Int32) (gone_65 : Int32) (thr_66 : Int32) (lets_67 : (Nat → Int32)) (rlaid_68 : Int32) (rgone_69 : Int32) (rthr_70 : Int32) (aN_71 : Int32) (bN_72 : Int32) (fN_73 : Int32) (lN__74 : Int32) (rN_75 : Int32) (twos_76 : Int32) (rpow_77 : Int32) (wri_78 : (Nat → Int32)) (ra_79 : (Nat → Int32)) (rb_80 : (Nat → Int32)) (rfive_81 : (Nat → Int32)) (rleft_82 : (Nat → Int32)) (rright_83 : (Nat → Int32)) => some (laid_64, laid_64, gone_65, thr_66, lets_67, rlaid_68, rgone_69, rthr_70, aN_71, bN_72, fN_73, lN__74, rN_75, twos_76, rpow_77, wri_78, ra_79, rb_80, rfive_81, rleft_82, rright_83)) fun j203 => F_Md_text_L150 x22 j203 n y43 laid_44 gone_45 thr_46 lets_47 rlaid_48 rgone_49 rthr_50 aN_51 bN_52 fN_53 lN__54 rN_55 twos_56 rpow_57 wri_58 ra_59 rb_60 rfive_61 rleft_62 rright_63) fun j150 => F_Md_text_L115 x22 j150 n (1 : Int64) laid_23 gone_24 thr_25 lets_26 rlaid_27 rgone_28 rthr_29 aN_30 bN_31 fN_32 lN__33 rN_34 twos_35 rpow_36 wri_37 ra_38 rb_39 rfive_40 rleft_41 rright_42) fun j115 => if (0 : Int64) ≤ x22 then (j115 (0 : Int32) (0 : Int32) (0 : Int32) lets rlaid rgone rthr aN bN fN lN_ rN twos rpow wri ra rb rfive rleft rright) else ((F_Md_lay n (0 : Int32) lets (45 : Int32)).bind fun x151 => j115 x151.1 (0 : Int32) (0 : Int32) x151.2 rlaid rgone rthr aN bN fN lN_ rN twos rpow wri ra rb rfive rleft rright)) else (lt_ (if ¬ a2 = (5 : Int32) then (0 : Int32) else (1 : Int32)) fun x152 => (F_Rs_write n rlaid rgone rthr aN bN fN lN_ rN twos rpow wri ra rb rfive rleft rright a1 x152).bind fun x153 => lt_ (fun (laid_154 : Int32) (gone_155 : Int32) (thr_156 : Int32) (lets_157 : (Nat → Int32)) (rlaid_158 : Int32) (rgone_159 : Int32) (rthr_160 : Int32) (aN_161 : Int32) (bN_162 : Int32) (fN_163 : Int32) (lN__164 : Int32) (rN_165 : Int32) (twos_166 : Int32) (rpow_167 : Int32) (wri_168 : (Nat → Int32)) (ra_169 : (Nat → Int32)) (rb_170 : (Nat → Int32)) (rfive_171 : (Nat → Int32)) (rleft_172 : (Nat → Int32)) (rright_173 : (Nat → Int32)) => some (laid_154, laid_154, gone_155, thr_156, lets_157, rlaid_158, rgone_159, rthr_160, aN_161, bN_162, fN_163, lN__164, rN_165, twos_166, rpow_167, wri_168, ra_169, rb_170, rfive_171, rleft_172, rright_173)) fun j87 => F_Md_text_L61 j87 n x153.1 (0 : Int32) (0 : Int32) (0 : Int32) (0 : Int32) lets x153.2.1 x153.2.2.1 x153.2.2.2.1 x153.2.2.2.2.1 x153.2.2.2.2.2.1 x153.2.2.2.2.2.2.1 x153.2.2.2.2.2.2.2.1 x153.2.2.2.2.2.2.2.2.1 x153.2.2.2.2.2.2.2.2.2.1 x153.2.2.2.2.2.2.2.2.2.2.1 x153.2.2.2.2.2.2.2.2.2.2.2.1 x153.2.2.2.2.2.2.2.2.2.2.2.2.1 x153.2.2.2.2.2.2.2.2.2.2.2.2.2.1 x153.2.2.2.2.2.2.2.2.2.2.2.2.2.2.1 x153.2.2.2.2.2.2.2.2.2.2.2.2.2.2.2.1 x153.2.2.2.2.2.2.2.2.2.2.2.2.2.2.2.2)) else (j11 laid gone thr lets rlaid rgone rthr aN bN fN lN_ rN twos rpow wri ra rb rfive rleft rright))) = some r := h
  refine lv_iload_n hx hb d_Md_text_0 rfl (lv_at hl 2 rfl) ?_
  refine lv_iconst hx hb d_Md_text_1 ic_1 ?_
  obtain ⟨j11, e_j11, h⟩ := lt_o h
  have hJ11 : ∀ (laid_1 : Int32) (gone_2 : Int32) (thr_3 : Int32) (lets_4 : (Nat → Int32)) (rlaid_5 : Int32) (rgone_6 : Int32) (rthr_7 : Int32) (aN_8 : Int32) (bN_9 : Int32) (fN_10 : Int32) (lN__11 : Int32) (rN_12 : Int32) (twos_13 : Int32) (rpow_14 : Int32) (wri_15 : (Nat → Int32)) (ra_16 : (Nat → Int32)) (rb_17 : (Nat → Int32)) (rfive_18 : (Nat → Int32)) (rleft_19 : (Nat → Int32)) (rright_20 : (Nat → Int32)) (ls : Array Slot) (H : Heap) (locs : List Loc), lv_has ls 10 [(0, .ref (ad 0))] → va_P D cls (gM cI cL cC ad X laid_1 gone_2 thr_3 m1 m2 e1 e2 mi1 mi2 na1 na2 fa1 fa2 lets_4 rlen rlaid_5 rgone_6 rthr_7 were none_ beyo aN_8 bN_9 fN_10 lN__11 rN_12 pN twos_13 at_ rdig rpow_14 good txt wri_15 ra_16 rb_17 rfive_18 rleft_19 rright_20 rpart) H → va_D A (gM cI cL cC ad X laid_1 gone_2 thr_3 m1 m2 e1 e2 mi1 mi2 na1 na2 fa1 fa2 lets_4 rlen rlaid_5 rgone_6 rthr_7 were none_ beyo aN_8 bN_9 fN_10 lN__11 rN_12 pN twos_13 at_ rdig rpow_14 good txt wri_15 ra_16 rb_17 rfive_18 rleft_19 rright_20 rpart) → va_S A s.heap H locs → j11 laid_1 gone_2 thr_3 lets_4 rlaid_5 rgone_6 rthr_7 aN_8 bN_9 fN_10 lN__11 rN_12 twos_13 rpow_14 wri_15 ra_16 rb_17 rfive_18 rleft_19 rright_20 = some r → W p l e ({ frames := 9, cells := 0, slots := 0, locals := 246 } : Room) s m args below meth c H locs 0 0 Q (F0 m 11 ls []) := by
    intro laid_1 gone_2 thr_3 lets_4 rlaid_5 rgone_6 rthr_7 aN_8 bN_9 fN_10 lN__11 rN_12 twos_13 rpow_14 wri_15 ra_16 rb_17 rfive_18 rleft_19 rright_20 ls H locs hl hP hD hS h
    rw [e_j11] at h
    refine lv_aload_n hx hb d_Md_text_11 rfl (lv_at hl 0 rfl) ?_
    refine lv_iconst hx hb d_Md_text_12 ic_1 ?_
    obtain ⟨x21, e_x21, h⟩ := lt_o h
    refine q_GV (D := D) (A := A) (C := R_Md) (b := ad 0) (As := [.int (1 : Int32)]) (rest := []) (n := 1) hx hb hml hown hts (c_Md_fails l D A cI cL cC ad X laid_1 gone_2 thr_3 m1 m2 e1 e2 mi1 mi2 na1 na2 fa1 fa2 lets_4 rlen rlaid_5 rgone_6 rthr_7 were none_ beyo aN_8 bN_9 fN_10 lN__11 rN_12 pN twos_13 at_ rdig rpow_14 good txt wri_15 ra_16 rb_17 rfive_18 rleft_19 rright_20 rpart (1 : Int32) x21 e_x21.symm) rfl rfl m_290 m_291 m_292 m_293 m_130 (by decide +kernel) ⟨Nat.le_of_ble_eq_true rfl, Nat.le_of_ble_eq_true rfl⟩ (va_recv hK hP (ci := 4) rfl (q0 := 0) rfl) hNB hK hP hD hS rfl hl.1 rfl (Nat.le_of_ble_eq_true rfl) d_Md_text_13 ⟨Nat.zero_le _, Nat.zero_le _⟩ (fun H locs hP hD hS => ?_)
    have hP : va_P D cls (gM cI cL cC ad X laid_1 gone_2 x21.2 m1 m2 e1 e2 mi1 mi2 na1 na2 fa1 fa2 lets_4 rlen rlaid_5 rgone_6 rthr_7 were none_ beyo aN_8 bN_9 fN_10 lN__11 rN_12 pN twos_13 at_ rdig rpow_14 good txt wri_15 ra_16 rb_17 rfive_18 rleft_19 rright_20 rpart) H := hP
    have hD : va_D A (gM cI cL cC ad X laid_1 gone_2 x21.2 m1 m2 e1 e2 mi1 mi2 na1 na2 fa1 fa2 lets_4 rlen rlaid_5 rgone_6 rthr_7 were none_ beyo aN_8 bN_9 fN_10 lN__11 rN_12 pN twos_13 at_ rdig rpow_14 good txt wri_15 ra_16 rb_17 rfive_18 rleft_19 rright_20 rpart) := hD
    refine lv_l2i hx hb d_Md_text_16 rfl ?_
    obtain rfl := Option.some.inj h
    exact hret 17 ls _ _ _ rfl hP hD hS d_Md_text_17
  refine lv_icmp_lt (tgt := 11) hx hb d_Md_text_2 rfl (fun hc => ?_) (fun hc => ?_)
  · have h := ite_t hc h
    exact hJ11 _ _ _ _ _ _ _ _ _ _ _ _ _ _ _ _ _ _ _ _ ls _ _ (lv_sub hl [0] rfl) hP hD hS h
  · have h := ite_f hc h
    refine lv_iload_n hx hb d_Md_text_5 rfl (lv_at hl 2 rfl) ?_
    refine lv_bipush hx hb d_Md_text_6 bp_6 ?_
    refine lv_icmp_le (tgt := 18) hx hb d_Md_text_8 rfl (fun hc => ?_) (fun hc => ?_)
    · have h := ite_t hc h
      refine lv_aload_n hx hb d_Md_text_18 rfl (lv_at hl 0 rfl) ?_
      refine lv_iconst hx hb d_Md_text_19 ic_0 ?_
      refine va_put (D := D) (ci := 4) (C := R_Md) (T := T_Md) (N := 15) hx hb hT in_Md ty_Md tyok_Md nm_Md hown hK hP hD hS 0 rfl rfl 4 (by decide) (hT _ m_247) (fun _ h9 => h9) rfl (ty := .int) (by decide +kernel) rfl rfl (by decide : 4 < 15) d_Md_text_20 (fun H locs hP hD hS => ?_)
      have hP : va_P D cls (gM cI cL cC ad X laid gone (0 : Int32) m1 m2 e1 e2 mi1 mi2 na1 na2 fa1 fa2 lets rlen rlaid rgone rthr were none_ beyo aN bN fN lN_ rN pN twos at_ rdig rpow good txt wri ra rb rfive rleft rright rpart) H := hP
      have hD : va_D A (gM cI cL cC ad X laid gone (0 : Int32) m1 m2 e1 e2 mi1 mi2 na1 na2 fa1 fa2 lets rlen rlaid rgone rthr were none_ beyo aN bN fN lN_ rN pN twos at_ rdig rpow good txt wri ra rb rfive rleft rright rpart) := hD
      refine lv_aload_n hx hb d_Md_text_23 rfl (lv_at hl 0 rfl) ?_
      refine lv_iconst hx hb d_Md_text_24 ic_0 ?_
      refine va_put (D := D) (ci := 4) (C := R_Md) (T := T_Md) (N := 15) hx hb hT in_Md ty_Md tyok_Md nm_Md hown hK hP hD hS 0 rfl rfl 2 (by decide) (hT _ m_310) (fun _ h9 => h9) rfl (ty := .int) (by decide +kernel) rfl rfl (by decide : 2 < 15) d_Md_text_25 (fun H locs hP hD hS => ?_)
      have hP : va_P D cls (gM cI cL cC ad X (0 : Int32) gone (0 : Int32) m1 m2 e1 e2 mi1 mi2 na1 na2 fa1 fa2 lets rlen rlaid rgone rthr were none_ beyo aN bN fN lN_ rN pN twos at_ rdig rpow good txt wri ra rb rfive rleft rright rpart) H := hP
      have hD : va_D A (gM cI cL cC ad X (0 : Int32) gone (0 : Int32) m1 m2 e1 e2 mi1 mi2 na1 na2 fa1 fa2 lets rlen rlaid rgone rthr were none_ beyo aN bN fN lN_ rN pN twos at_ rdig rpow good txt wri ra rb rfive rleft rright rpart) := hD
      refine lv_aload_n hx hb d_Md_text_28 rfl (lv_at hl 0 rfl) ?_
      refine lv_iconst hx hb d_Md_text_29 ic_0 ?_
      refine va_put (D := D) (ci := 4) (C := R_Md) (T := T_Md) (N := 15) hx hb hT in_Md ty_Md tyok_Md nm_Md hown hK hP hD hS 0 rfl rfl 3 (by decide) (hT _ m_422) (fun _ h9 => h9) rfl (ty := .int) (by decide +kernel) rfl rfl (by decide : 3 < 15) d_Md_text_30 (fun H locs hP hD hS => ?_)
      have hP : va_P D cls (gM cI cL cC ad X (0 : Int32) (0 : Int32) (0 : Int32) m1 m2 e1 e2 mi1 mi2 na1 na2 fa1 fa2 lets rlen rlaid rgone rthr were none_ beyo aN bN fN lN_ rN pN twos at_ rdig rpow good txt wri ra rb rfive rleft rright rpart) H := hP
      have hD : va_D A (gM cI cL cC ad X (0 : Int32) (0 : Int32) (0 : Int32) m1 m2 e1 e2 mi1 mi2 na1 na2 fa1 fa2 lets rlen rlaid rgone rthr were none_ beyo aN bN fN lN_ rN pN twos at_ rdig rpow good txt wri ra rb rfive rleft rright rpart) := hD
      refine lv_iload_n hx hb d_Md_text_33 rfl (lv_at hl 2 rfl) ?_
      refine lv_iconst hx hb d_Md_text_34 ic_4 ?_
      refine lv_icmp_le (tgt := 92) hx hb d_Md_text_35 rfl (fun hc => ?_) (fun hc => ?_)
      · have h := ite_t hc h
        refine lv_lload_n hx hb d_Md_text_92 rfl (lv_at hl 1 rfl) ?_
        refine lv_iload_n hx hb d_Md_text_93 rfl (lv_at hl 2 rfl) ?_
        refine q_S (As := [.long a1, .int a2]) (rest := []) (n := 2) hx hb hml hown hts (c_Md_cut l a1 a2) rfl rfl m_287 m_288 m_289 m_130 (by decide +kernel) ⟨Nat.le_of_ble_eq_true rfl, Nat.le_of_ble_eq_true rfl⟩ (p0_bl) (fun U hU hW => p0_mv hU hW hNB) rfl hl.1 rfl (Nat.le_of_ble_eq_true rfl) d_Md_text_94 ⟨Nat.zero_le _, Nat.zero_le _⟩ ?_
        refine lv_topl (fun x22 e_x22 => ?_)
        have h := lt_h e_x22 h
        refine lv_lstore hx hb d_Md_text_97 hl (by decide) rfl (fun ls hl => ?_)
        have hl : lv_has ls 10 [(4, .long x22), (0, .ref (ad 0)), (1, .long a1), (3, .int a2)] := hl
        refine lv_lconst hx hb d_Md_text_99 lc_1 ?_
        refine lv_lstore hx hb d_Md_text_100 hl (by decide) rfl (fun ls hl => ?_)
        have hl : lv_has ls 10 [(6, .long (1 : Int64)), (4, .long x22), (0, .ref (ad 0)), (1, .long a1), (3, .int a2)] := hl
        refine lv_lload hx hb d_Md_text_102 (lv_at hl 1 rfl) ?_
        refine lv_lconst hx hb d_Md_text_104 lc_0 ?_
        refine W.lcmp hx hb d_Md_text_105 ?_
        obtain ⟨j115, e_j115, h⟩ := lt_o h
        have hJ115 : ∀ (laid_23 : Int32) (gone_24 : Int32) (thr_25 : Int32) (lets_26 : (Nat → Int32)) (rlaid_27 : Int32) (rgone_28 : Int32) (rthr_29 : Int32) (aN_30 : Int32) (bN_31 : Int32) (fN_32 : Int32) (lN__33 : Int32) (rN_34 : Int32) (twos_35 : Int32) (rpow_36 : Int32) (wri_37 : (Nat → Int32)) (ra_38 : (Nat → Int32)) (rb_39 : (Nat → Int32)) (rfive_40 : (Nat → Int32)) (rleft_41 : (Nat → Int32)) (rright_42 : (Nat → Int32)) (ls : Array Slot) (H : Heap) (locs : List Loc), lv_has ls 10 [(0, .ref (ad 0)), (4, .long x22), (6, .long (1 : Int64))] → va_P D cls (gM cI cL cC ad X laid_23 gone_24 thr_25 m1 m2 e1 e2 mi1 mi2 na1 na2 fa1 fa2 lets_26 rlen rlaid_27 rgone_28 rthr_29 were none_ beyo aN_30 bN_31 fN_32 lN__33 rN_34 pN twos_35 at_ rdig rpow_36 good txt wri_37 ra_38 rb_39 rfive_40 rleft_41 rright_42 rpart) H → va_D A (gM cI cL cC ad X laid_23 gone_24 thr_25 m1 m2 e1 e2 mi1 mi2 na1 na2 fa1 fa2 lets_26 rlen rlaid_27 rgone_28 rthr_29 were none_ beyo aN_30 bN_31 fN_32 lN__33 rN_34 pN twos_35 at_ rdig rpow_36 good txt wri_37 ra_38 rb_39 rfive_40 rleft_41 rright_42 rpart) → va_S A s.heap H locs → j115 laid_23 gone_24 thr_25 lets_26 rlaid_27 rgone_28 rthr_29 aN_30 bN_31 fN_32 lN__33 rN_34 twos_35 rpow_36 wri_37 ra_38 rb_39 rfive_40 rleft_41 rright_42 = some r → W p l e ({ frames := 9, cells := 0, slots := 0, locals := 246 } : Room) s m args below meth c H locs 0 0 Q (F0 m 115 ls []) := by
          intro laid_23 gone_24 thr_25 lets_26 rlaid_27 rgone_28 rthr_29 aN_30 bN_31 fN_32 lN__33 rN_34 twos_35 rpow_36 wri_37 ra_38 rb_39 rfive_40 rleft_41 rright_42 ls H locs hl hP hD hS h
          rw [e_j115] at h
          obtain ⟨j150, e_j150, h⟩ := lt_o h
          have hJ150 : ∀ (y43 : Int64) (laid_44 : Int32) (gone_45 : Int32) (thr_46 : Int32) (lets_47 : (Nat → Int32)) (rlaid_48 : Int32) (rgone_49 : Int32) (rthr_50 : Int32) (aN_51 : Int32) (bN_52 : Int32) (fN_53 : Int32) (lN__54 : Int32) (rN_55 : Int32) (twos_56 : Int32) (rpow_57 : Int32) (wri_58 : (Nat → Int32)) (ra_59 : (Nat → Int32)) (rb_60 : (Nat → Int32)) (rfive_61 : (Nat → Int32)) (rleft_62 : (Nat → Int32)) (rright_63 : (Nat → Int32)) (ls : Array Slot) (H : Heap) (locs : List Loc), lv_has ls 10 [(0, .ref (ad 0)), (4, .long x22), (6, .long y43)] → va_P D cls (gM cI cL cC ad X laid_44 gone_45 thr_46 m1 m2 e1 e2 mi1 mi2 na1 na2 fa1 fa2 lets_47 rlen rlaid_48 rgone_49 rthr_50 were none_ beyo aN_51 bN_52 fN_53 lN__54 rN_55 pN twos_56 at_ rdig rpow_57 good txt wri_58 ra_59 rb_60 rfive_61 rleft_62 rright_63 rpart) H → va_D A (gM cI cL cC ad X laid_44 gone_45 thr_46 m1 m2 e1 e2 mi1 mi2 na1 na2 fa1 fa2 lets_47 rlen rlaid_48 rgone_49 rthr_50 were none_ beyo aN_51 bN_52 fN_53 lN__54 rN_55 pN twos_56 at_ rdig rpow_57 good txt wri_58 ra_59 rb_60 rfive_61 rleft_62 rright_63 rpart) → va_S A s.heap H locs → j150 y43 laid_44 gone_45 thr_46 lets_47 rlaid_48 rgone_49 rthr_50 aN_51 bN_52 fN_53 lN__54 rN_55 twos_56 rpow_57 wri_58 ra_59 rb_60 rfive_61 rleft_62 rright_63 = some r → W p l e ({ frames := 9, cells := 0, slots := 0, locals := 246 } : Room) s m args below meth c H locs 0 0 Q (F0 m 150 ls []) := by
            intro y43 laid_44 gone_45 thr_46 lets_47 rlaid_48 rgone_49 rthr_50 aN_51 bN_52 fN_53 lN__54 rN_55 twos_56 rpow_57 wri_58 ra_59 rb_60 rfive_61 rleft_62 rright_63 ls H locs hl hP hD hS h
            rw [e_j150] at h
            obtain ⟨j203, e_j203, h⟩ := lt_o h
            have hJ203 : ∀ (laid_64 : Int32) (gone_65 : Int32) (thr_66 : Int32) (lets_67 : (Nat → Int32)) (rlaid_68 : Int32) (rgone_69 : Int32) (rthr_70 : Int32) (aN_71 : Int32) (bN_72 : Int32) (fN_73 : Int32) (lN__74 : Int32) (rN_75 : Int32) (twos_76 : Int32) (rpow_77 : Int32) (wri_78 : (Nat → Int32)) (ra_79 : (Nat → Int32)) (rb_80 : (Nat → Int32)) (rfive_81 : (Nat → Int32)) (rleft_82 : (Nat → Int32)) (rright_83 : (Nat → Int32)) (ls : Array Slot) (H : Heap) (locs : List Loc), lv_has ls 10 [(0, .ref (ad 0))] → va_P D cls (gM cI cL cC ad X laid_64 gone_65 thr_66 m1 m2 e1 e2 mi1 mi2 na1 na2 fa1 fa2 lets_67 rlen rlaid_68 rgone_69 rthr_70 were none_ beyo aN_71 bN_72 fN_73 lN__74 rN_75 pN twos_76 at_ rdig rpow_77 good txt wri_78 ra_79 rb_80 rfive_81 rleft_82 rright_83 rpart) H → va_D A (gM cI cL cC ad X laid_64 gone_65 thr_66 m1 m2 e1 e2 mi1 mi2 na1 na2 fa1 fa2 lets_67 rlen rlaid_68 rgone_69 rthr_70 were none_ beyo aN_71 bN_72 fN_73 lN__74 rN_75 pN twos_76 at_ rdig rpow_77 good txt wri_78 ra_79 rb_80 rfive_81 rleft_82 rright_83 rpart) → va_S A s.heap H locs → j203 laid_64 gone_65 thr_66 lets_67 rlaid_68 rgone_69 rthr_70 aN_71 bN_72 fN_73 lN__74 rN_75 twos_76 rpow_77 wri_78 ra_79 rb_80 rfive_81 rleft_82 rright_83 = some r → W p l e ({ frames := 9, cells := 0, slots := 0, locals := 246 } : Room) s m args below meth c H locs 0 0 Q (F0 m 203 ls []) := by
              intro laid_64 gone_65 thr_66 lets_67 rlaid_68 rgone_69 rthr_70 aN_71 bN_72 fN_73 lN__74 rN_75 twos_76 rpow_77 wri_78 ra_79 rb_80 rfive_81 rleft_82 rright_83 ls H locs hl hP hD hS h
              rw [e_j203] at h
              refine lv_aload_n hx hb d_Md_text_203 rfl (lv_at hl 0 rfl) ?_
              refine va_get (D := D) (ci := 4) (C := R_Md) (T := T_Md) (N := 15) hx hb hT in_Md hown hK hP 0 rfl rfl 2 (by decide) (hT _ m_310) (fun _ h9 => h9) rfl d_Md_text_204 ?_
              obtain rfl := Option.some.inj h
              exact hret 207 ls _ _ _ rfl hP hD hS d_Md_text_207
            have hL150 : ∀ (n : Nat) (y84 : Int64) (laid_85 : Int32) (gone_86 : Int32) (thr_87 : Int32) (lets_88 : (Nat → Int32)) (rlaid_89 : Int32) (rgone_90 : Int32) (rthr_91 : Int32) (aN_92 : Int32) (bN_93 : Int32) (fN_94 : Int32) (lN__95 : Int32) (rN_96 : Int32) (twos_97 : Int32) (rpow_98 : Int32) (wri_99 : (Nat → Int32)) (ra_100 : (Nat → Int32)) (rb_101 : (Nat → Int32)) (rfive_102 : (Nat → Int32)) (rleft_103 : (Nat → Int32)) (rright_104 : (Nat → Int32)) (ls : Array Slot) (H : Heap) (locs : List Loc), lv_has ls 10 [(0, .ref (ad 0)), (4, .long x22), (6, .long y84)] → va_P D cls (gM cI cL cC ad X laid_85 gone_86 thr_87 m1 m2 e1 e2 mi1 mi2 na1 na2 fa1 fa2 lets_88 rlen rlaid_89 rgone_90 rthr_91 were none_ beyo aN_92 bN_93 fN_94 lN__95 rN_96 pN twos_97 at_ rdig rpow_98 good txt wri_99 ra_100 rb_101 rfive_102 rleft_103 rright_104 rpart) H → va_D A (gM cI cL cC ad X laid_85 gone_86 thr_87 m1 m2 e1 e2 mi1 mi2 na1 na2 fa1 fa2 lets_88 rlen rlaid_89 rgone_90 rthr_91 were none_ beyo aN_92 bN_93 fN_94 lN__95 rN_96 pN twos_97 at_ rdig rpow_98 good txt wri_99 ra_100 rb_101 rfive_102 rleft_103 rright_104 rpart) → va_S A s.heap H locs → F_Md_text_L150 x22 j203 n y84 laid_85 gone_86 thr_87 lets_88 rlaid_89 rgone_90 rthr_91 aN_92 bN_93 fN_94 lN__95 rN_96 twos_97 rpow_98 wri_99 ra_100 rb_101 rfive_102 rleft_103 rright_104 = some r → W p l e ({ frames := 9, cells := 0, slots := 0, locals := 246 } : Room) s m args below meth c H locs 0 0 Q (F0 m 150 ls []) := by
              intro n
              induction n with
              | zero => intro y84 laid_85 gone_86 thr_87 lets_88 rlaid_89 rgone_90 rthr_91 aN_92 bN_93 fN_94 lN__95 rN_96 twos_97 rpow_98 wri_99 ra_100 rb_101 rfive_102 rleft_103 rright_104 ls H locs hl hP hD hS h; exact no_s h
              | succ n ih =>
                intro y84 laid_85 gone_86 thr_87 lets_88 rlaid_89 rgone_90 rthr_91 aN_92 bN_93 fN_94 lN__95 rN_96 twos_97 rpow_98 wri_99 ra_100 rb_101 rfive_102 rleft_103 rright_104 ls H locs hl hP hD hS h
                have h : (if y84 ≤ (0 : Int64) then (j203 laid_85 gone_86 thr_87 lets_88 rlaid_89 rgone_90 rthr_91 aN_92 bN_93 fN_94 lN__95 rN_96 twos_97 rpow_98 wri_99 ra_100 rb_101 rfive_102 rleft_103 rright_104) else (gz_ (y84 = 0) <| lt_ ((x22 / y84) - (x22 / y84) / (10 : Int64) * (10 : Int64)) fun x105 => lt_ (if (0 : Int64) ≤ x105 then x105 else -x105) fun x106 => (F_Md_lay n laid_85 lets_88 (((48 : Int64) + x106).toInt32)).bind fun x107 => lt_ (y84 / (10 : Int64)) fun x108 => F_Md_text_L150 x22 j203 n x108 x107.1 gone_86 thr_87 x107.2 rlaid_89 rgone_90 rthr_91 aN_92 bN_93 fN_94 lN__95 rN_96 twos_97 rpow_98 wri_99 ra_100 rb_101 rfive_102 rleft_103 rright_104)) = some r := h
                refine lv_lload hx hb d_Md_text_150 (lv_at hl 2 rfl) ?_
                refine lv_lconst hx hb d_Md_text_152 lc_0 ?_
                refine W.lcmp hx hb d_Md_text_153 ?_
                refine lv_if_le (tgt := 203) hx hb d_Md_text_154 rfl (fun hc => ?_) (fun hc => ?_)
                · have hc := (lg_cmp_le _ _).mp hc
                  have h := ite_t hc h
                  exact hJ203 _ _ _ _ _ _ _ _ _ _ _ _ _ _ _ _ _ _ _ _ ls _ _ (lv_sub hl [0] rfl) hP hD hS h
                · have hc := mt (lg_cmp_le _ _).mpr hc
                  have h := ite_f hc h
                  refine lv_lload hx hb d_Md_text_157 (lv_at hl 1 rfl) ?_
                  refine lv_lload hx hb d_Md_text_159 (lv_at hl 2 rfl) ?_
                  have hz := gz_n h
                  have h := gz_h h
                  refine lv_ldiv hx hb d_Md_text_161 hz ?_
                  refine lv_ldc2 hx hb hown (hT _ m_423) d_Md_text_162 ?_
                  refine lv_lrem hx hb d_Md_text_165 (by decide) ?_
                  refine lv_topl (fun x105 e_x105 => ?_)
                  have h := lt_h e_x105 h
                  refine lv_lstore hx hb d_Md_text_166 hl (by decide) rfl (fun ls hl => ?_)
                  have hl : lv_has ls 10 [(8, .long x105), (0, .ref (ad 0)), (4, .long x22), (6, .long y84)] := hl
                  refine lv_aload_n hx hb d_Md_text_168 rfl (lv_at hl 1 rfl) ?_
                  refine lv_ldc2 hx hb hown (hT _ m_424) d_Md_text_169 ?_
                  refine lv_lload hx hb d_Md_text_172 (lv_at hl 0 rfl) ?_
                  refine lv_lconst hx hb d_Md_text_174 lc_0 ?_
                  refine W.lcmp hx hb d_Md_text_175 ?_
                  obtain ⟨x106, e_x106, h⟩ := lt_o h
                  have hJ187 : ∀ (x106' : Int64) (ls : Array Slot), x106 = x106' → lv_has ls 10 [(0, .ref (ad 0)), (4, .long x22), (6, .long y84)] → W p l e ({ frames := 9, cells := 0, slots := 0, locals := 246 } : Room) s m args below meth c H locs 0 0 Q (F0 m 187 ls [.long x106', .long (48 : Int64), .ref (ad 0)]) := by
                    intro x106' ls q_x106 hl
                    subst q_x106
                    refine lv_ladd hx hb d_Md_text_187 ?_
                    refine lv_l2i hx hb d_Md_text_188 rfl ?_
                    obtain ⟨x107, e_x107, h⟩ := bd_o h
                    refine q_GV (D := D) (A := A) (C := R_Md) (b := ad 0) (As := [.int (((48 : Int64) + x106).toInt32)]) (rest := []) (n := 1) hx hb hml hown hts (c_Md_lay l D A cI cL cC ad X laid_85 gone_86 thr_87 m1 m2 e1 e2 mi1 mi2 na1 na2 fa1 fa2 lets_88 rlen rlaid_89 rgone_90 rthr_91 were none_ beyo aN_92 bN_93 fN_94 lN__95 rN_96 pN twos_97 at_ rdig rpow_98 good txt wri_99 ra_100 rb_101 rfive_102 rleft_103 rright_104 rpart n (((48 : Int64) + x106).toInt32) x107 e_x107) rfl rfl m_425 m_426 m_427 m_428 m_130 (by decide +kernel) ⟨Nat.le_of_ble_eq_true rfl, Nat.le_of_ble_eq_true rfl⟩ (va_recv hK hP (ci := 4) rfl (q0 := 0) rfl) hNB hK hP hD hS rfl hl.1 rfl (Nat.le_of_ble_eq_true rfl) d_Md_text_189 ⟨Nat.zero_le _, Nat.zero_le _⟩ (fun H locs hP hD hS => ?_)
                    have hP : va_P D cls (gM cI cL cC ad X x107.1 gone_86 thr_87 m1 m2 e1 e2 mi1 mi2 na1 na2 fa1 fa2 x107.2 rlen rlaid_89 rgone_90 rthr_91 were none_ beyo aN_92 bN_93 fN_94 lN__95 rN_96 pN twos_97 at_ rdig rpow_98 good txt wri_99 ra_100 rb_101 rfive_102 rleft_103 rright_104 rpart) H := hP
                    have hD : va_D A (gM cI cL cC ad X x107.1 gone_86 thr_87 m1 m2 e1 e2 mi1 mi2 na1 na2 fa1 fa2 x107.2 rlen rlaid_89 rgone_90 rthr_91 were none_ beyo aN_92 bN_93 fN_94 lN__95 rN_96 pN twos_97 at_ rdig rpow_98 good txt wri_99 ra_100 rb_101 rfive_102 rleft_103 rright_104 rpart) := hD
                    refine lv_lload hx hb d_Md_text_192 (lv_at hl 2 rfl) ?_
                    refine lv_ldc2 hx hb hown (hT _ m_423) d_Md_text_194 ?_
                    refine lv_ldiv hx hb d_Md_text_197 (by decide) ?_
                    refine lv_topl (fun x108 e_x108 => ?_)
                    have h := lt_h e_x108 h
                    refine lv_lstore hx hb d_Md_text_198 hl (by decide) rfl (fun ls hl => ?_)
                    have hl : lv_has ls 10 [(6, .long x108), (0, .ref (ad 0)), (4, .long x22)] := hl
                    refine lv_goto (tgt := 150) hx hb d_Md_text_200 rfl ?_
                    exact ih _ _ _ _ _ _ _ _ _ _ _ _ _ _ _ _ _ _ _ _ _ ls _ _ (lv_sub hl [1, 2, 0] rfl) hP hD hS h
                  refine lv_if_ge (tgt := 185) hx hb d_Md_text_176 rfl (fun hc => ?_) (fun hc => ?_)
                  · have hc := (lg_cmp_ge _ _).mp hc
                    have e_x106 := e_x106.trans (if_pos hc)
                    refine lv_lload hx hb d_Md_text_185 (lv_at hl 0 rfl) ?_
                    exact hJ187 _ ls e_x106 (lv_sub hl [1, 2, 3] rfl)
                  · have hc := mt (lg_cmp_ge _ _).mpr hc
                    have e_x106 := e_x106.trans (if_neg hc)
                    refine lv_lload hx hb d_Md_text_179 (lv_at hl 0 rfl) ?_
                    refine lv_lneg hx hb d_Md_text_181 ?_
                    refine lv_goto (tgt := 187) hx hb d_Md_text_182 rfl ?_
                    exact hJ187 _ ls e_x106 (lv_sub hl [1, 2, 3] rfl)
            exact hL150 n _ _ _ _ _ _ _ _ _ _ _ _ _ _ _ _ _ _ _ _ _ ls _ _ (lv_sub hl [0, 1, 2] rfl) hP hD hS h
          have hL115 : ∀ (n : Nat) (y109 : Int64) (laid_110 : Int32) (gone_111 : Int32) (thr_112 : Int32) (lets_113 : (Nat → Int32)) (rlaid_114 : Int32) (rgone_115 : Int32) (rthr_116 : Int32) (aN_117 : Int32) (bN_118 : Int32) (fN_119 : Int32) (lN__120 : Int32) (rN_121 : Int32) (twos_122 : Int32) (rpow_123 : Int32) (wri_124 : (Nat → Int32)) (ra_125 : (Nat → Int32)) (rb_126 : (Nat → Int32)) (rfive_127 : (Nat → Int32)) (rleft_128 : (Nat → Int32)) (rright_129 : (Nat → Int32)) (ls : Array Slot) (H : Heap) (locs : List Loc), lv_has ls 10 [(0, .ref (ad 0)), (4, .long x22), (6, .long y109)] → va_P D cls (gM cI cL cC ad X laid_110 gone_111 thr_112 m1 m2 e1 e2 mi1 mi2 na1 na2 fa1 fa2 lets_113 rlen rlaid_114 rgone_115 rthr_116 were none_ beyo aN_117 bN_118 fN_119 lN__120 rN_121 pN twos_122 at_ rdig rpow_123 good txt wri_124 ra_125 rb_126 rfive_127 rleft_128 rright_129 rpart) H → va_D A (gM cI cL cC ad X laid_110 gone_111 thr_112 m1 m2 e1 e2 mi1 mi2 na1 na2 fa1 fa2 lets_113 rlen rlaid_114 rgone_115 rthr_116 were none_ beyo aN_117 bN_118 fN_119 lN__120 rN_121 pN twos_122 at_ rdig rpow_123 good txt wri_124 ra_125 rb_126 rfive_127 rleft_128 rright_129 rpart) → va_S A s.heap H locs → F_Md_text_L115 x22 j150 n y109 laid_110 gone_111 thr_112 lets_113 rlaid_114 rgone_115 rthr_116 aN_117 bN_118 fN_119 lN__120 rN_121 twos_122 rpow_123 wri_124 ra_125 rb_126 rfive_127 rleft_128 rright_129 = some r → W p l e ({ frames := 9, cells := 0, slots := 0, locals := 246 } : Room) s m args below meth c H locs 0 0 Q (F0 m 115 ls []) := by
            intro n
            induction n with
            | zero => intro y109 laid_110 gone_111 thr_112 lets_113 rlaid_114 rgone_115 rthr_116 aN_117 bN_118 fN_119 lN__120 rN_121 twos_122 rpow_123 wri_124 ra_125 rb_126 rfive_127 rleft_128 rright_129 ls H locs hl hP hD hS h; exact no_s h
            | succ n ih =>
              intro y109 laid_110 gone_111 thr_112 lets_113 rlaid_114 rgone_115 rthr_116 aN_117 bN_118 fN_119 lN__120 rN_121 twos_122 rpow_123 wri_124 ra_125 rb_126 rfive_127 rleft_128 rright_129 ls H locs hl hP hD hS h
              have h : (gz_ (y109 = 0) <| lt_ (fun (laid_130 : Int32) (gone_131 : Int32) (thr_132 : Int32) (lets_133 : (Nat → Int32)) (rlaid_134 : Int32) (rgone_135 : Int32) (rthr_136 : Int32) (aN_137 : Int32) (bN_138 : Int32) (fN_139 : Int32) (lN__140 : Int32) (rN_141 : Int32) (twos_142 : Int32) (rpow_143 : Int32) (wri_144 : (Nat → Int32)) (ra_145 : (Nat → Int32)) (rb_146 : (Nat → Int32)) (rfive_147 : (Nat → Int32)) (rleft_148 : (Nat → Int32)) (rright_149 : (Nat → Int32)) => lt_ (y109 * (10 : Int64)) fun x150 => F_Md_text_L115 x22 j150 n x150 laid_130 gone_131 thr_132 lets_133 rlaid_134 rgone_135 rthr_136 aN_137 bN_138 fN_139 lN__140 rN_141 twos_142 rpow_143 wri_144 ra_145 rb_146 rfive_147 rleft_148 rright_149) fun j139 => if (9 : Int64) < (x22 / y109) then (j139 laid_110 gone_111 thr_112 lets_113 rlaid_114 rgone_115 rthr_116 aN_117 bN_118 fN_119 lN__120 rN_121 twos_122 rpow_123 wri_124 ra_125 rb_126 rfive_127 rleft_128 rright_129) else (gz_ (y109 = 0) <| if (-9 : Int64) ≤ (x22 / y109) then (j150 y109 laid_110 gone_111 thr_112 lets_113 rlaid_114 rgone_115 rthr_116 aN_117 bN_118 fN_119 lN__120 rN_121 twos_122 rpow_123 wri_124 ra_125 rb_126 rfive_127 rleft_128 rright_129) else (j139 laid_110 gone_111 thr_112 lets_113 rlaid_114 rgone_115 rthr_116 aN_117 bN_118 fN_119 lN__120 rN_121 twos_122 rpow_123 wri_124 ra_125 rb_126 rfive_127 rleft_128 rright_129))) = some r := h
              refine lv_lload hx hb d_Md_text_115 (lv_at hl 1 rfl) ?_
              refine lv_lload hx hb d_Md_text_117 (lv_at hl 2 rfl) ?_
              have hz := gz_n h
              have h := gz_h h
              refine lv_ldiv hx hb d_Md_text_119 hz ?_
              refine lv_ldc2 hx hb hown (hT _ m_429) d_Md_text_120 ?_
              refine W.lcmp hx hb d_Md_text_123 ?_
              obtain ⟨j139, e_j139, h⟩ := lt_o h
              have hJ139 : ∀ (laid_130 : Int32) (gone_131 : Int32) (thr_132 : Int32) (lets_133 : (Nat → Int32)) (rlaid_134 : Int32) (rgone_135 : Int32) (rthr_136 : Int32) (aN_137 : Int32) (bN_138 : Int32) (fN_139 : Int32) (lN__140 : Int32) (rN_141 : Int32) (twos_142 : Int32) (rpow_143 : Int32) (wri_144 : (Nat → Int32)) (ra_145 : (Nat → Int32)) (rb_146 : (Nat → Int32)) (rfive_147 : (Nat → Int32)) (rleft_148 : (Nat → Int32)) (rright_149 : (Nat → Int32)) (ls : Array Slot) (H : Heap) (locs : List Loc), lv_has ls 10 [(0, .ref (ad 0)), (4, .long x22), (6, .long y109)] → va_P D cls (gM cI cL cC ad X laid_130 gone_131 thr_132 m1 m2 e1 e2 mi1 mi2 na1 na2 fa1 fa2 lets_133 rlen rlaid_134 rgone_135 rthr_136 were none_ beyo aN_137 bN_138 fN_139 lN__140 rN_141 pN twos_142 at_ rdig rpow_143 good txt wri_144 ra_145 rb_146 rfive_147 rleft_148 rright_149 rpart) H → va_D A (gM cI cL cC ad X laid_130 gone_131 thr_132 m1 m2 e1 e2 mi1 mi2 na1 na2 fa1 fa2 lets_133 rlen rlaid_134 rgone_135 rthr_136 were none_ beyo aN_137 bN_138 fN_139 lN__140 rN_141 pN twos_142 at_ rdig rpow_143 good txt wri_144 ra_145 rb_146 rfive_147 rleft_148 rright_149 rpart) → va_S A s.heap H locs → j139 laid_130 gone_131 thr_132 lets_133 rlaid_134 rgone_135 rthr_136 aN_137 bN_138 fN_139 lN__140 rN_141 twos_142 rpow_143 wri_144 ra_145 rb_146 rfive_147 rleft_148 rright_149 = some r → W p l e ({ frames := 9, cells := 0, slots := 0, locals := 246 } : Room) s m args below meth c H locs 0 0 Q (F0 m 139 ls []) := by
                intro laid_130 gone_131 thr_132 lets_133 rlaid_134 rgone_135 rthr_136 aN_137 bN_138 fN_139 lN__140 rN_141 twos_142 rpow_143 wri_144 ra_145 rb_146 rfive_147 rleft_148 rright_149 ls H locs hl hP hD hS h
                rw [e_j139] at h
                refine lv_lload hx hb d_Md_text_139 (lv_at hl 2 rfl) ?_
                refine lv_ldc2 hx hb hown (hT _ m_423) d_Md_text_141 ?_
                refine lv_lmul hx hb d_Md_text_144 ?_
                refine lv_topl (fun x150 e_x150 => ?_)
                have h := lt_h e_x150 h
                refine lv_lstore hx hb d_Md_text_145 hl (by decide) rfl (fun ls hl => ?_)
                have hl : lv_has ls 10 [(6, .long x150), (0, .ref (ad 0)), (4, .long x22)] := hl
                refine lv_goto (tgt := 115) hx hb d_Md_text_147 rfl ?_
                exact ih _ _ _ _ _ _ _ _ _ _ _ _ _ _ _ _ _ _ _ _ _ ls _ _ (lv_sub hl [1, 2, 0] rfl) hP hD hS h
              refine lv_if_gt (tgt := 139) hx hb d_Md_text_124 rfl (fun hc => ?_) (fun hc => ?_)
              · have hc := (lg_cmp_gt _ _).mp hc
                have h := ite_t hc h
                exact hJ139 _ _ _ _ _ _ _ _ _ _ _ _ _ _ _ _ _ _ _ _ ls _ _ (lv_sub hl [0, 1, 2] rfl) hP hD hS h
              · have hc := mt (lg_cmp_gt _ _).mpr hc
                have h := ite_f hc h
                refine lv_lload hx hb d_Md_text_127 (lv_at hl 1 rfl) ?_
                refine lv_lload hx hb d_Md_text_129 (lv_at hl 2 rfl) ?_
                have hz := gz_n h
                have h := gz_h h
                refine lv_ldiv hx hb d_Md_text_131 hz ?_
                refine lv_ldc2 hx hb hown (hT _ m_430) d_Md_text_132 ?_
                refine W.lcmp hx hb d_Md_text_135 ?_
                refine lv_if_ge (tgt := 150) hx hb d_Md_text_136 rfl (fun hc => ?_) (fun hc => ?_)
                · have hc := (lg_cmp_ge _ _).mp hc
                  have h := ite_t hc h
                  exact hJ150 _ _ _ _ _ _ _ _ _ _ _ _ _ _ _ _ _ _ _ _ _ ls _ _ (lv_sub hl [0, 1, 2] rfl) hP hD hS h
                · have hc := mt (lg_cmp_ge _ _).mpr hc
                  have h := ite_f hc h
                  exact hJ139 _ _ _ _ _ _ _ _ _ _ _ _ _ _ _ _ _ _ _ _ ls _ _ (lv_sub hl [0, 1, 2] rfl) hP hD hS h
          exact hL115 n _ _ _ _ _ _ _ _ _ _ _ _ _ _ _ _ _ _ _ _ _ ls _ _ (lv_sub hl [0, 1, 2] rfl) hP hD hS h
        refine lv_if_ge (tgt := 115) hx hb d_Md_text_106 rfl (fun hc => ?_) (fun hc => ?_)
        · have hc := (lg_cmp_ge _ _).mp hc
          have h := ite_t hc h
          exact hJ115 _ _ _ _ _ _ _ _ _ _ _ _ _ _ _ _ _ _ _ _ ls _ _ (lv_sub hl [2, 1, 0] rfl) hP hD hS h
        · have hc := mt (lg_cmp_ge _ _).mpr hc
          have h := ite_f hc h
          refine lv_aload_n hx hb d_Md_text_109 rfl (lv_at hl 2 rfl) ?_
          refine lv_bipush hx hb d_Md_text_110 bp_45 ?_
          obtain ⟨x151, e_x151, h⟩ := bd_o h
          refine q_GV (D := D) (A := A) (C := R_Md) (b := ad 0) (As := [.int (45 : Int32)]) (rest := []) (n := 1) hx hb hml hown hts (c_Md_lay l D A cI cL cC ad X (0 : Int32) (0 : Int32) (0 : Int32) m1 m2 e1 e2 mi1 mi2 na1 na2 fa1 fa2 lets rlen rlaid rgone rthr were none_ beyo aN bN fN lN_ rN pN twos at_ rdig rpow good txt wri ra rb rfive rleft rright rpart n (45 : Int32) x151 e_x151) rfl rfl m_425 m_426 m_427 m_428 m_130 (by decide +kernel) ⟨Nat.le_of_ble_eq_true rfl, Nat.le_of_ble_eq_true rfl⟩ (va_recv hK hP (ci := 4) rfl (q0 := 0) rfl) hNB hK hP hD hS rfl hl.1 rfl (Nat.le_of_ble_eq_true rfl) d_Md_text_112 ⟨Nat.zero_le _, Nat.zero_le _⟩ (fun H locs hP hD hS => ?_)
          have hP : va_P D cls (gM cI cL cC ad X x151.1 (0 : Int32) (0 : Int32) m1 m2 e1 e2 mi1 mi2 na1 na2 fa1 fa2 x151.2 rlen rlaid rgone rthr were none_ beyo aN bN fN lN_ rN pN twos at_ rdig rpow good txt wri ra rb rfive rleft rright rpart) H := hP
          have hD : va_D A (gM cI cL cC ad X x151.1 (0 : Int32) (0 : Int32) m1 m2 e1 e2 mi1 mi2 na1 na2 fa1 fa2 x151.2 rlen rlaid rgone rthr were none_ beyo aN bN fN lN_ rN pN twos at_ rdig rpow good txt wri ra rb rfive rleft rright rpart) := hD
          exact hJ115 _ _ _ _ _ _ _ _ _ _ _ _ _ _ _ _ _ _ _ _ ls _ _ (lv_sub hl [2, 1, 0] rfl) hP hD hS h
      · have h := ite_f hc h
        refine lv_aload_n hx hb d_Md_text_38 rfl (lv_at hl 0 rfl) ?_
        refine va_get (D := D) (ci := 4) (C := R_Md) (T := T_Md) (N := 15) hx hb hT in_Md hown hK hP 0 rfl rfl 0 (by decide) (hT _ m_431) (fun _ h9 => h9) rfl d_Md_text_39 ?_
        refine lv_lload_n hx hb d_Md_text_42 rfl (lv_at hl 1 rfl) ?_
        refine lv_iload_n hx hb d_Md_text_43 rfl (lv_at hl 2 rfl) ?_
        refine lv_iconst hx hb d_Md_text_44 ic_5 ?_
        obtain ⟨x152, e_x152, h⟩ := lt_o h
        have hJ53 : ∀ (x152' : Int32) (ls : Array Slot), x152 = x152' → lv_has ls 10 [(0, .ref (ad 0))] → W p l e ({ frames := 9, cells := 0, slots := 0, locals := 246 } : Room) s m args below meth c H locs 0 0 Q (F0 m 53 ls [.int x152', .long a1, .ref (ad 2)]) := by
          intro x152' ls q_x152 hl
          subst q_x152
          obtain ⟨x153, e_x153, h⟩ := bd_o h
          refine q_GV (D := D) (A := A) (C := R_Rs) (b := ad 2) (As := [.long a1, .int x152]) (rest := []) (n := 2) hx hb hml hown hts (c_Rs_write l D A cI cL cC ad X (0 : Int32) (0 : Int32) (0 : Int32) m1 m2 e1 e2 mi1 mi2 na1 na2 fa1 fa2 lets rlen rlaid rgone rthr were none_ beyo aN bN fN lN_ rN pN twos at_ rdig rpow good txt wri ra rb rfive rleft rright rpart n a1 x152 x153 e_x153) rfl rfl m_432 m_433 m_434 m_435 m_318 (by decide +kernel) ⟨Nat.le_of_ble_eq_true rfl, Nat.le_of_ble_eq_true rfl⟩ (va_recv hK hP (ci := 5) rfl (q0 := 2) rfl) hNB hK hP hD hS rfl hl.1 rfl (Nat.le_of_ble_eq_true rfl) d_Md_text_53 ⟨Nat.zero_le _, Nat.zero_le _⟩ (fun H locs hP hD hS => ?_)
          have hP : va_P D cls (gM cI cL cC ad X (0 : Int32) (0 : Int32) (0 : Int32) m1 m2 e1 e2 mi1 mi2 na1 na2 fa1 fa2 lets rlen x153.2.1 x153.2.2.1 x153.2.2.2.1 were none_ beyo x153.2.2.2.2.1 x153.2.2.2.2.2.1 x153.2.2.2.2.2.2.1 x153.2.2.2.2.2.2.2.1 x153.2.2.2.2.2.2.2.2.1 pN x153.2.2.2.2.2.2.2.2.2.1 at_ rdig x153.2.2.2.2.2.2.2.2.2.2.1 good txt x153.2.2.2.2.2.2.2.2.2.2.2.1 x153.2.2.2.2.2.2.2.2.2.2.2.2.1 x153.2.2.2.2.2.2.2.2.2.2.2.2.2.1 x153.2.2.2.2.2.2.2.2.2.2.2.2.2.2.1 x153.2.2.2.2.2.2.2.2.2.2.2.2.2.2.2.1 x153.2.2.2.2.2.2.2.2.2.2.2.2.2.2.2.2 rpart) H := hP
          have hD : va_D A (gM cI cL cC ad X (0 : Int32) (0 : Int32) (0 : Int32) m1 m2 e1 e2 mi1 mi2 na1 na2 fa1 fa2 lets rlen x153.2.1 x153.2.2.1 x153.2.2.2.1 were none_ beyo x153.2.2.2.2.1 x153.2.2.2.2.2.1 x153.2.2.2.2.2.2.1 x153.2.2.2.2.2.2.2.1 x153.2.2.2.2.2.2.2.2.1 pN x153.2.2.2.2.2.2.2.2.2.1 at_ rdig x153.2.2.2.2.2.2.2.2.2.2.1 good txt x153.2.2.2.2.2.2.2.2.2.2.2.1 x153.2.2.2.2.2.2.2.2.2.2.2.2.1 x153.2.2.2.2.2.2.2.2.2.2.2.2.2.1 x153.2.2.2.2.2.2.2.2.2.2.2.2.2.2.1 x153.2.2.2.2.2.2.2.2.2.2.2.2.2.2.2.1 x153.2.2.2.2.2.2.2.2.2.2.2.2.2.2.2.2 rpart) := hD
          refine lv_istore hx hb d_Md_text_56 hl (by decide) rfl (fun ls hl => ?_)
          have hl : lv_has ls 10 [(4, .int x153.1), (0, .ref (ad 0))] := hl
          refine lv_iconst hx hb d_Md_text_58 ic_0 ?_
          refine lv_istore hx hb d_Md_text_59 hl (by decide) rfl (fun ls hl => ?_)
          have hl : lv_has ls 10 [(5, .int (0 : Int32)), (4, .int x153.1), (0, .ref (ad 0))] := hl
          obtain ⟨j87, e_j87, h⟩ := lt_o h
          have hJ87 : ∀ (laid_154 : Int32) (gone_155 : Int32) (thr_156 : Int32) (lets_157 : (Nat → Int32)) (rlaid_158 : Int32) (rgone_159 : Int32) (rthr_160 : Int32) (aN_161 : Int32) (bN_162 : Int32) (fN_163 : Int32) (lN__164 : Int32) (rN_165 : Int32) (twos_166 : Int32) (rpow_167 : Int32) (wri_168 : (Nat → Int32)) (ra_169 : (Nat → Int32)) (rb_170 : (Nat → Int32)) (rfive_171 : (Nat → Int32)) (rleft_172 : (Nat → Int32)) (rright_173 : (Nat → Int32)) (ls : Array Slot) (H : Heap) (locs : List Loc), lv_has ls 10 [(0, .ref (ad 0))] → va_P D cls (gM cI cL cC ad X laid_154 gone_155 thr_156 m1 m2 e1 e2 mi1 mi2 na1 na2 fa1 fa2 lets_157 rlen rlaid_158 rgone_159 rthr_160 were none_ beyo aN_161 bN_162 fN_163 lN__164 rN_165 pN twos_166 at_ rdig rpow_167 good txt wri_168 ra_169 rb_170 rfive_171 rleft_172 rright_173 rpart) H → va_D A (gM cI cL cC ad X laid_154 gone_155 thr_156 m1 m2 e1 e2 mi1 mi2 na1 na2 fa1 fa2 lets_157 rlen rlaid_158 rgone_159 rthr_160 were none_ beyo aN_161 bN_162 fN_163 lN__164 rN_165 pN twos_166 at_ rdig rpow_167 good txt wri_168 ra_169 rb_170 rfive_171 rleft_172 rright_173 rpart) → va_S A s.heap H locs → j87 laid_154 gone_155 thr_156 lets_157 rlaid_158 rgone_159 rthr_160 aN_161 bN_162 fN_163 lN__164 rN_165 twos_166 rpow_167 wri_168 ra_169 rb_170 rfive_171 rleft_172 rright_173 = some r → W p l e ({ frames := 9, cells := 0, slots := 0, locals := 246 } : Room) s m args below meth c H locs 0 0 Q (F0 m 87 ls []) := by
            intro laid_154 gone_155 thr_156 lets_157 rlaid_158 rgone_159 rthr_160 aN_161 bN_162 fN_163 lN__164 rN_165 twos_166 rpow_167 wri_168 ra_169 rb_170 rfive_171 rleft_172 rright_173 ls H locs hl hP hD hS h
            rw [e_j87] at h
            refine lv_aload_n hx hb d_Md_text_87 rfl (lv_at hl 0 rfl) ?_
            refine va_get (D := D) (ci := 4) (C := R_Md) (T := T_Md) (N := 15) hx hb hT in_Md hown hK hP 0 rfl rfl 2 (by decide) (hT _ m_310) (fun _ h9 => h9) rfl d_Md_text_88 ?_
            obtain rfl := Option.some.inj h
            exact hret 91 ls _ _ _ rfl hP hD hS d_Md_text_91
          have hL61 : ∀ (n : Nat) (y174 : Int32) (y175 : Int32) (laid_176 : Int32) (gone_177 : Int32) (thr_178 : Int32) (lets_179 : (Nat → Int32)) (rlaid_180 : Int32) (rgone_181 : Int32) (rthr_182 : Int32) (aN_183 : Int32) (bN_184 : Int32) (fN_185 : Int32) (lN__186 : Int32) (rN_187 : Int32) (twos_188 : Int32) (rpow_189 : Int32) (wri_190 : (Nat → Int32)) (ra_191 : (Nat → Int32)) (rb_192 : (Nat → Int32)) (rfive_193 : (Nat → Int32)) (rleft_194 : (Nat → Int32)) (rright_195 : (Nat → Int32)) (ls : Array Slot) (H : Heap) (locs : List Loc), lv_has ls 10 [(0, .ref (ad 0)), (4, .int y174), (5, .int y175)] → va_P D cls (gM cI cL cC ad X laid_176 gone_177 thr_178 m1 m2 e1 e2 mi1 mi2 na1 na2 fa1 fa2 lets_179 rlen rlaid_180 rgone_181 rthr_182 were none_ beyo aN_183 bN_184 fN_185 lN__186 rN_187 pN twos_188 at_ rdig rpow_189 good txt wri_190 ra_191 rb_192 rfive_193 rleft_194 rright_195 rpart) H → va_D A (gM cI cL cC ad X laid_176 gone_177 thr_178 m1 m2 e1 e2 mi1 mi2 na1 na2 fa1 fa2 lets_179 rlen rlaid_180 rgone_181 rthr_182 were none_ beyo aN_183 bN_184 fN_185 lN__186 rN_187 pN twos_188 at_ rdig rpow_189 good txt wri_190 ra_191 rb_192 rfive_193 rleft_194 rright_195 rpart) → va_S A s.heap H locs → F_Md_text_L61 j87 n y174 y175 laid_176 gone_177 thr_178 lets_179 rlaid_180 rgone_181 rthr_182 aN_183 bN_184 fN_185 lN__186 rN_187 twos_188 rpow_189 wri_190 ra_191 rb_192 rfive_193 rleft_194 rright_195 = some r → W p l e ({ frames := 9, cells := 0, slots := 0, locals := 246 } : Room) s m args below meth c H locs 0 0 Q (F0 m 61 ls []) := by
            intro n
            induction n with
            | zero => intro y174 y175 laid_176 gone_177 thr_178 lets_179 rlaid_180 rgone_181 rthr_182 aN_183 bN_184 fN_185 lN__186 rN_187 twos_188 rpow_189 wri_190 ra_191 rb_192 rfive_193 rleft_194 rright_195 ls H locs hl hP hD hS h; exact no_s h
            | succ n ih =>
              intro y174 y175 laid_176 gone_177 thr_178 lets_179 rlaid_180 rgone_181 rthr_182 aN_183 bN_184 fN_185 lN__186 rN_187 twos_188 rpow_189 wri_190 ra_191 rb_192 rfive_193 rleft_194 rright_195 ls H locs hl hP hD hS h
              have h : (if y174 ≤ y175 then (j87 laid_176 gone_177 thr_178 lets_179 rlaid_180 rgone_181 rthr_182 aN_183 bN_184 fN_185 lN__186 rN_187 twos_188 rpow_189 wri_190 ra_191 rb_192 rfive_193 rleft_194 rright_195) else ((F_Rs_letter n wri_190 y175).bind fun x196 => (F_Md_lay n laid_176 lets_179 x196).bind fun x197 => lt_ (y175 + Int32.ofInt 1) fun x198 => F_Md_text_L61 j87 n y174 x198 x197.1 gone_177 thr_178 x197.2 rlaid_180 rgone_181 rthr_182 aN_183 bN_184 fN_185 lN__186 rN_187 twos_188 rpow_189 wri_190 ra_191 rb_192 rfive_193 rleft_194 rright_195)) = some r := h
              refine lv_iload hx hb d_Md_text_61 (lv_at hl 2 rfl) ?_
              refine lv_iload hx hb d_Md_text_63 (lv_at hl 1 rfl) ?_
              refine lv_icmp_ge (tgt := 87) hx hb d_Md_text_65 rfl (fun hc => ?_) (fun hc => ?_)
              · have h := ite_t hc h
                exact hJ87 _ _ _ _ _ _ _ _ _ _ _ _ _ _ _ _ _ _ _ _ ls _ _ (lv_sub hl [0] rfl) hP hD hS h
              · have h := ite_f hc h
                refine lv_aload_n hx hb d_Md_text_68 rfl (lv_at hl 0 rfl) ?_
                refine lv_aload_n hx hb d_Md_text_69 rfl (lv_at hl 0 rfl) ?_
                refine va_get (D := D) (ci := 4) (C := R_Md) (T := T_Md) (N := 15) hx hb hT in_Md hown hK hP 0 rfl rfl 0 (by decide) (hT _ m_431) (fun _ h9 => h9) rfl d_Md_text_70 ?_
                refine lv_iload hx hb d_Md_text_73 (lv_at hl 2 rfl) ?_
                obtain ⟨x196, e_x196, h⟩ := bd_o h
                refine q_GV (D := D) (A := A) (C := R_Rs) (b := ad 2) (As := [.int y175]) (rest := [.ref (ad 0)]) (n := 1) hx hb hml hown hts (c_Rs_letter l D A cI cL cC ad X laid_176 gone_177 thr_178 m1 m2 e1 e2 mi1 mi2 na1 na2 fa1 fa2 lets_179 rlen rlaid_180 rgone_181 rthr_182 were none_ beyo aN_183 bN_184 fN_185 lN__186 rN_187 pN twos_188 at_ rdig rpow_189 good txt wri_190 ra_191 rb_192 rfive_193 rleft_194 rright_195 rpart n y175 x196 e_x196) rfl rfl m_436 m_437 m_438 m_439 m_318 (by decide +kernel) ⟨Nat.le_of_ble_eq_true rfl, Nat.le_of_ble_eq_true rfl⟩ (va_recv hK hP (ci := 5) rfl (q0 := 2) rfl) hNB hK hP hD hS rfl hl.1 rfl (Nat.le_of_ble_eq_true rfl) d_Md_text_75 ⟨Nat.zero_le _, Nat.zero_le _⟩ (fun H locs hP hD hS => ?_)
                have hP : va_P D cls (gM cI cL cC ad X laid_176 gone_177 thr_178 m1 m2 e1 e2 mi1 mi2 na1 na2 fa1 fa2 lets_179 rlen rlaid_180 rgone_181 rthr_182 were none_ beyo aN_183 bN_184 fN_185 lN__186 rN_187 pN twos_188 at_ rdig rpow_189 good txt wri_190 ra_191 rb_192 rfive_193 rleft_194 rright_195 rpart) H := hP
                have hD : va_D A (gM cI cL cC ad X laid_176 gone_177 thr_178 m1 m2 e1 e2 mi1 mi2 na1 na2 fa1 fa2 lets_179 rlen rlaid_180 rgone_181 rthr_182 were none_ beyo aN_183 bN_184 fN_185 lN__186 rN_187 pN twos_188 at_ rdig rpow_189 good txt wri_190 ra_191 rb_192 rfive_193 rleft_194 rright_195 rpart) := hD
                obtain ⟨x197, e_x197, h⟩ := bd_o h
                refine q_GV (D := D) (A := A) (C := R_Md) (b := ad 0) (As := [.int x196]) (rest := []) (n := 1) hx hb hml hown hts (c_Md_lay l D A cI cL cC ad X laid_176 gone_177 thr_178 m1 m2 e1 e2 mi1 mi2 na1 na2 fa1 fa2 lets_179 rlen rlaid_180 rgone_181 rthr_182 were none_ beyo aN_183 bN_184 fN_185 lN__186 rN_187 pN twos_188 at_ rdig rpow_189 good txt wri_190 ra_191 rb_192 rfive_193 rleft_194 rright_195 rpart n x196 x197 e_x197) rfl rfl m_425 m_426 m_427 m_428 m_130 (by decide +kernel) ⟨Nat.le_of_ble_eq_true rfl, Nat.le_of_ble_eq_true rfl⟩ (va_recv hK hP (ci := 4) rfl (q0 := 0) rfl) hNB hK hP hD hS rfl hl.1 rfl (Nat.le_of_ble_eq_true rfl) d_Md_text_78 ⟨Nat.zero_le _, Nat.zero_le _⟩ (fun H locs hP hD hS => ?_)
                have hP : va_P D cls (gM cI cL cC ad X x197.1 gone_177 thr_178 m1 m2 e1 e2 mi1 mi2 na1 na2 fa1 fa2 x197.2 rlen rlaid_180 rgone_181 rthr_182 were none_ beyo aN_183 bN_184 fN_185 lN__186 rN_187 pN twos_188 at_ rdig rpow_189 good txt wri_190 ra_191 rb_192 rfive_193 rleft_194 rright_195 rpart) H := hP
                have hD : va_D A (gM cI cL cC ad X x197.1 gone_177 thr_178 m1 m2 e1 e2 mi1 mi2 na1 na2 fa1 fa2 x197.2 rlen rlaid_180 rgone_181 rthr_182 were none_ beyo aN_183 bN_184 fN_185 lN__186 rN_187 pN twos_188 at_ rdig rpow_189 good txt wri_190 ra_191 rb_192 rfive_193 rleft_194 rright_195 rpart) := hD
                obtain ⟨x198, e_x198⟩ : ∃ z, z = y175 + Int32.ofInt 1 := ⟨_, rfl⟩
                have h := lt_h e_x198 h
                refine lv_iinc (k := 2) hx hb d_Md_text_81 hl rfl e_x198.symm (by decide) rfl (fun ls hl => ?_)
                have hl : lv_has ls 10 [(5, .int x198), (0, .ref (ad 0)), (4, .int y174)] := hl
                refine lv_goto (tgt := 61) hx hb d_Md_text_84 rfl ?_
                exact ih _ _ _ _ _ _ _ _ _ _ _ _ _ _ _ _ _ _ _ _ _ _ ls _ _ (lv_sub hl [1, 2, 0] rfl) hP hD hS h
          exact hL61 n _ _ _ _ _ _ _ _ _ _ _ _ _ _ _ _ _ _ _ _ _ _ ls _ _ (lv_sub hl [2, 1, 0] rfl) hP hD hS h
        refine lv_icmp_ne (tgt := 52) hx hb d_Md_text_45 rfl (fun hc => ?_) (fun hc => ?_)
        · have e_x152 := e_x152.trans (if_pos hc)
          refine lv_iconst hx hb d_Md_text_52 ic_0 ?_
          exact hJ53 _ ls e_x152 (lv_sub hl [0] rfl)
        · have hc := not_not_intro hc
          have e_x152 := e_x152.trans (if_neg hc)
          refine lv_iconst hx hb d_Md_text_48 ic_1 ?_
          refine lv_goto (tgt := 53) hx hb d_Md_text_49 rfl ?_
          exact hJ53 _ ls e_x152 (lv_sub hl [0] rfl)
    · have h := ite_f hc h
      exact hJ11 _ _ _ _ _ _ _ _ _ _ _ _ _ _ _ _ _ _ _ _ ls _ _ (lv_sub hl [0] rfl) hP hD hS h
-- Md_take
theorem d_Md_take_0 : decode b_Md_take 0 = .ok (.aload_n 0, 1) := by decide +kernel
theorem d_Md_take_1 : decode b_Md_take 1 = .ok (.iconst 0, 1) := by decide +kernel
theorem d_Md_take_2 : decode b_Md_take 2 = .ok (.putfield 20, 3) := by decide +kernel
theorem d_Md_take_5 : decode b_Md_take 5 = .ok (.lconst 0, 1) := by decide +kernel
theorem d_Md_take_6 : decode b_Md_take 6 = .ok (.lstore_n 1, 1) := by decide +kernel
theorem d_Md_take_7 : decode b_Md_take 7 = .ok (.iconst 0, 1) := by decide +kernel
theorem d_Md_take_8 : decode b_Md_take 8 = .ok (.istore_n 3, 1) := by decide +kernel
theorem d_Md_take_9 : decode b_Md_take 9 = .ok (.iload_n 3, 1) := by decide +kernel
theorem d_Md_take_10 : decode b_Md_take 10 = .ok (.bipush 8, 2) := by decide +kernel
theorem d_Md_take_12 : decode b_Md_take 12 = .ok (.if_icmp .ge 46, 3) := by decide +kernel
theorem d_Md_take_15 : decode b_Md_take 15 = .ok (.aload_n 0, 1) := by decide +kernel
theorem d_Md_take_16 : decode b_Md_take 16 = .ok (.getfield 149, 3) := by decide +kernel
theorem d_Md_take_19 : decode b_Md_take 19 = .ok (.aload_n 0, 1) := by decide +kernel
theorem d_Md_take_20 : decode b_Md_take 20 = .ok (.getfield 146, 3) := by decide +kernel
theorem d_Md_take_23 : decode b_Md_take 23 = .ok (.if_icmp .ge 35, 3) := by decide +kernel
theorem d_Md_take_26 : decode b_Md_take 26 = .ok (.lload_n 1, 1) := by decide +kernel
theorem d_Md_take_27 : decode b_Md_take 27 = .ok (.bipush 8, 2) := by decide +kernel
theorem d_Md_take_29 : decode b_Md_take 29 = .ok (.lshl, 1) := by decide +kernel
theorem d_Md_take_30 : decode b_Md_take 30 = .ok (.aload_n 0, 1) := by decide +kernel
theorem d_Md_take_31 : decode b_Md_take 31 = .ok (.getfield 16, 3) := by decide +kernel
theorem d_Md_take_34 : decode b_Md_take 34 = .ok (.aload_n 0, 1) := by decide +kernel
theorem d_Md_take_35 : decode b_Md_take 35 = .ok (.getfield 149, 3) := by decide +kernel
theorem d_Md_take_38 : decode b_Md_take 38 = .ok (.iaload, 1) := by decide +kernel
theorem d_Md_take_39 : decode b_Md_take 39 = .ok (.i2l, 1) := by decide +kernel
theorem d_Md_take_40 : decode b_Md_take 40 = .ok (.lor, 1) := by decide +kernel
theorem d_Md_take_41 : decode b_Md_take 41 = .ok (.lstore_n 1, 1) := by decide +kernel
theorem d_Md_take_42 : decode b_Md_take 42 = .ok (.aload_n 0, 1) := by decide +kernel
theorem d_Md_take_43 : decode b_Md_take 43 = .ok (.dup, 1) := by decide +kernel
theorem d_Md_take_44 : decode b_Md_take 44 = .ok (.getfield 149, 3) := by decide +kernel
theorem d_Md_take_47 : decode b_Md_take 47 = .ok (.iconst 1, 1) := by decide +kernel
theorem d_Md_take_48 : decode b_Md_take 48 = .ok (.iadd, 1) := by decide +kernel
theorem d_Md_take_49 : decode b_Md_take 49 = .ok (.putfield 149, 3) := by decide +kernel
theorem d_Md_take_52 : decode b_Md_take 52 = .ok (.iinc 3 1, 3) := by decide +kernel
theorem d_Md_take_55 : decode b_Md_take 55 = .ok (.goto (-46), 3) := by decide +kernel
theorem d_Md_take_58 : decode b_Md_take 58 = .ok (.lload_n 1, 1) := by decide +kernel
theorem d_Md_take_59 : decode b_Md_take 59 = .ok (.lreturn, 1) := by decide +kernel
def F_Md_take_L9 (laid : Int32) (lets : Nat → Int32) (j58 : (Int64 → Int32 → Int32 → Option (Int64 × Int32 × Int32))) : Nat → Int64 → Int32 → Int32 → Int32 → Option (Int64 × Int32 × Int32)
  | 0, _, _, _, _ => none
  | n+1, y4, y5, gone_6, thr_7 => if (8 : Int32) ≤ y5 then (j58 y4 gone_6 thr_7) else (if laid ≤ gone_6 then (j58 y4 gone_6 thr_7) else (gz_ (gone_6 < 0 ∨ 40 ≤ (gone_6).toNatClampNeg) <| lt_ ((y4 <<< (((8 : Int32)).toInt64 &&& 63)) ||| ((lets (gone_6).toNatClampNeg).toInt64)) fun x8 => lt_ (gone_6 + (1 : Int32)) fun x9 => lt_ (y5 + Int32.ofInt 1) fun x10 => F_Md_take_L9 laid lets j58 n x8 x10 x9 thr_7))
def F_Md_take (n : Nat) (laid : Int32) (gone : Int32) (thr : Int32) (lets : Nat → Int32) : Option (Int64 × Int32 × Int32) := lt_ (fun (y1 : Int64) (gone_2 : Int32) (thr_3 : Int32) => some (y1, gone_2, thr_3)) fun j58 => F_Md_take_L9 laid lets j58 n (0 : Int64) (0 : Int32) gone (0 : Int32)
set_option maxHeartbeats 4000000 in
set_option maxRecDepth 100000 in
theorem c_Md_take (l : Launch) (D : va_G) (A : Nat → Prop) (cI cL cC : ClassId) (ad : Nat → Nat) (X : va_W) (laid : Int32) (gone : Int32) (thr : Int32) (m1 : Int64) (m2 : Int64) (e1 : Int32) (e2 : Int32) (mi1 : Int32) (mi2 : Int32) (na1 : Int32) (na2 : Int32) (fa1 : Int32) (fa2 : Int32) (lets : Nat → Int32) (rlen : Int32) (rlaid : Int32) (rgone : Int32) (rthr : Int32) (were : Int32) (none_ : Int32) (beyo : Int32) (aN : Int32) (bN : Int32) (fN : Int32) (lN_ : Int32) (rN : Int32) (pN : Int32) (twos : Int32) (at_ : Int32) (rdig : Int32) (rpow : Int32) (good : Int32) (txt : Nat → Int32) (wri : Nat → Int32) (ra : Nat → Int32) (rb : Nat → Int32) (rfive : Nat → Int32) (rleft : Nat → Int32) (rright : Nat → Int32) (rpart : Nat → Int32) (n : Nat) (r : Int64 × Int32 × Int32) (h : F_Md_take n laid gone thr lets = some r) : Met l y_Md_take (.code y_Md_take b_Md_take 4 (some .long) :: BIG) ({ frames := 0, cells := 0, slots := 0, locals := 0 } : Room) (va_Pc [.ref (ad 0)] (gPre D A (tysV cI cL cC) (gM cI cL cC ad X laid gone thr m1 m2 e1 e2 mi1 mi2 na1 na2 fa1 fa2 lets rlen rlaid rgone rthr were none_ beyo aN bN fN lN_ rN pN twos at_ rdig rpow good txt wri ra rb rfive rleft rright rpart))) (gQ D A (some (.long r.1)) (gM cI cL cC ad X laid r.2.1 r.2.2 m1 m2 e1 e2 mi1 mi2 na1 na2 fa1 fa2 lets rlen rlaid rgone rthr were none_ beyo aN bN fN lN_ rN pN twos at_ rdig rpow good txt wri ra rb rfive rleft rright rpart)) 0 0 A := by
  refine gOpen_l rfl (Nat.le_of_ble_eq_true rfl) ?_
  intro p e s m args below meth c Q ls hx hb hml hown hts hT hNB hP hK hD hl hret
  have hown : s.vm.findClass R_Md = some m.cls := hown
  have hS : va_S A s.heap s.heap [] := va_S.rf
  have hl : lv_has ls 4 [(0, .ref (ad 0))] := hl
  have h : (lt_ (fun (y1 : Int64) (gone_2 : Int32) (thr_3 : Int32) => some (y1, gone_2, thr_3)) fun j58 => F_Md_take_L9 laid lets j58 n (0 : Int64) (0 : Int32) gone (0 : Int32)) = some r := h
  refine lv_aload_n hx hb d_Md_take_0 rfl (lv_at hl 0 rfl) ?_
  refine lv_iconst hx hb d_Md_take_1 ic_0 ?_
  refine va_put (D := D) (ci := 4) (C := R_Md) (T := T_Md) (N := 15) hx hb hT in_Md ty_Md tyok_Md nm_Md hown hK hP hD hS 0 rfl rfl 4 (by decide) (hT _ m_247) (fun _ h9 => h9) rfl (ty := .int) (by decide +kernel) rfl rfl (by decide : 4 < 15) d_Md_take_2 (fun H locs hP hD hS => ?_)
  have hP : va_P D cls (gM cI cL cC ad X laid gone (0 : Int32) m1 m2 e1 e2 mi1 mi2 na1 na2 fa1 fa2 lets rlen rlaid rgone rthr were none_ beyo aN bN fN lN_ rN pN twos at_ rdig rpow good txt wri ra rb rfive rleft rright rpart) H := hP
  have hD : va_D A (gM cI cL cC ad X laid gone (0 : Int32) m1 m2 e1 e2 mi1 mi2 na1 na2 fa1 fa2 lets rlen rlaid rgone rthr were none_ beyo aN bN fN lN_ rN pN twos at_ rdig rpow good txt wri ra rb rfive rleft rright rpart) := hD
  refine lv_lconst hx hb d_Md_take_5 lc_0 ?_
  refine lv_lstore_n hx hb d_Md_take_6 rfl hl (by decide) rfl (fun ls hl => ?_)
  have hl : lv_has ls 4 [(1, .long (0 : Int64)), (0, .ref (ad 0))] := hl
  refine lv_iconst hx hb d_Md_take_7 ic_0 ?_
  refine lv_istore_n hx hb d_Md_take_8 rfl hl (by decide) rfl (fun ls hl => ?_)
  have hl : lv_has ls 4 [(3, .int (0 : Int32)), (1, .long (0 : Int64)), (0, .ref (ad 0))] := hl
  obtain ⟨j58, e_j58, h⟩ := lt_o h
  have hJ58 : ∀ (y1 : Int64) (gone_2 : Int32) (thr_3 : Int32) (ls : Array Slot) (H : Heap) (locs : List Loc), lv_has ls 4 [(1, .long y1)] → va_P D cls (gM cI cL cC ad X laid gone_2 thr_3 m1 m2 e1 e2 mi1 mi2 na1 na2 fa1 fa2 lets rlen rlaid rgone rthr were none_ beyo aN bN fN lN_ rN pN twos at_ rdig rpow good txt wri ra rb rfive rleft rright rpart) H → va_D A (gM cI cL cC ad X laid gone_2 thr_3 m1 m2 e1 e2 mi1 mi2 na1 na2 fa1 fa2 lets rlen rlaid rgone rthr were none_ beyo aN bN fN lN_ rN pN twos at_ rdig rpow good txt wri ra rb rfive rleft rright rpart) → va_S A s.heap H locs → j58 y1 gone_2 thr_3 = some r → W p l e ({ frames := 0, cells := 0, slots := 0, locals := 0 } : Room) s m args below meth c H locs 0 0 Q (F0 m 58 ls []) := by
    intro y1 gone_2 thr_3 ls H locs hl hP hD hS h
    rw [e_j58] at h
    refine lv_lload_n hx hb d_Md_take_58 rfl (lv_at hl 0 rfl) ?_
    obtain rfl := Option.some.inj h
    exact hret 59 ls _ _ _ rfl hP hD hS d_Md_take_59
  have hL9 : ∀ (n : Nat) (y4 : Int64) (y5 : Int32) (gone_6 : Int32) (thr_7 : Int32) (ls : Array Slot) (H : Heap) (locs : List Loc), lv_has ls 4 [(0, .ref (ad 0)), (1, .long y4), (3, .int y5)] → va_P D cls (gM cI cL cC ad X laid gone_6 thr_7 m1 m2 e1 e2 mi1 mi2 na1 na2 fa1 fa2 lets rlen rlaid rgone rthr were none_ beyo aN bN fN lN_ rN pN twos at_ rdig rpow good txt wri ra rb rfive rleft rright rpart) H → va_D A (gM cI cL cC ad X laid gone_6 thr_7 m1 m2 e1 e2 mi1 mi2 na1 na2 fa1 fa2 lets rlen rlaid rgone rthr were none_ beyo aN bN fN lN_ rN pN twos at_ rdig rpow good txt wri ra rb rfive rleft rright rpart) → va_S A s.heap H locs → F_Md_take_L9 laid lets j58 n y4 y5 gone_6 thr_7 = some r → W p l e ({ frames := 0, cells := 0, slots := 0, locals := 0 } : Room) s m args below meth c H locs 0 0 Q (F0 m 9 ls []) := by
    intro n
    induction n with
    | zero => intro y4 y5 gone_6 thr_7 ls H locs hl hP hD hS h; exact no_s h
    | succ n ih =>
      intro y4 y5 gone_6 thr_7 ls H locs hl hP hD hS h
      have h : (if (8 : Int32) ≤ y5 then (j58 y4 gone_6 thr_7) else (if laid ≤ gone_6 then (j58 y4 gone_6 thr_7) else (gz_ (gone_6 < 0 ∨ 40 ≤ (gone_6).toNatClampNeg) <| lt_ ((y4 <<< (((8 : Int32)).toInt64 &&& 63)) ||| ((lets (gone_6).toNatClampNeg).toInt64)) fun x8 => lt_ (gone_6 + (1 : Int32)) fun x9 => lt_ (y5 + Int32.ofInt 1) fun x10 => F_Md_take_L9 laid lets j58 n x8 x10 x9 thr_7))) = some r := h
      refine lv_iload_n hx hb d_Md_take_9 rfl (lv_at hl 2 rfl) ?_
      refine lv_bipush hx hb d_Md_take_10 bp_8 ?_
      refine lv_icmp_ge (tgt := 58) hx hb d_Md_take_12 rfl (fun hc => ?_) (fun hc => ?_)
      · have h := ite_t hc h
        exact hJ58 _ _ _ ls _ _ (lv_sub hl [1] rfl) hP hD hS h
      · have h := ite_f hc h
        refine lv_aload_n hx hb d_Md_take_15 rfl (lv_at hl 0 rfl) ?_
        refine va_get (D := D) (ci := 4) (C := R_Md) (T := T_Md) (N := 15) hx hb hT in_Md hown hK hP 0 rfl rfl 3 (by decide) (hT _ m_422) (fun _ h9 => h9) rfl d_Md_take_16 ?_
        refine lv_aload_n hx hb d_Md_take_19 rfl (lv_at hl 0 rfl) ?_
        refine va_get (D := D) (ci := 4) (C := R_Md) (T := T_Md) (N := 15) hx hb hT in_Md hown hK hP 0 rfl rfl 2 (by decide) (hT _ m_310) (fun _ h9 => h9) rfl d_Md_take_20 ?_
        refine lv_icmp_ge (tgt := 58) hx hb d_Md_take_23 rfl (fun hc => ?_) (fun hc => ?_)
        · have h := ite_t hc h
          exact hJ58 _ _ _ ls _ _ (lv_sub hl [1] rfl) hP hD hS h
        · have h := ite_f hc h
          refine lv_lload_n hx hb d_Md_take_26 rfl (lv_at hl 1 rfl) ?_
          refine lv_bipush hx hb d_Md_take_27 bp_8 ?_
          refine lv_lshl hx hb d_Md_take_29 rfl ?_
          refine lv_aload_n hx hb d_Md_take_30 rfl (lv_at hl 0 rfl) ?_
          refine va_get (D := D) (ci := 4) (C := R_Md) (T := T_Md) (N := 15) hx hb hT in_Md hown hK hP 0 rfl rfl 1 (by decide) (hT _ m_309) (fun _ h9 => h9) rfl d_Md_take_31 ?_
          refine lv_aload_n hx hb d_Md_take_34 rfl (lv_at hl 0 rfl) ?_
          refine va_get (D := D) (ci := 4) (C := R_Md) (T := T_Md) (N := 15) hx hb hT in_Md hown hK hP 0 rfl rfl 3 (by decide) (hT _ m_422) (fun _ h9 => h9) rfl d_Md_take_35 ?_
          have hi := gz_n h
          have h := gz_h h
          refine va_iald hx hb hK hP 1 0 rfl rfl hi d_Md_take_38 ?_
          refine lv_i2l hx hb d_Md_take_39 rfl ?_
          refine lv_lor hx hb d_Md_take_40 ?_
          refine lv_topl (fun x8 e_x8 => ?_)
          have h := lt_h e_x8 h
          refine lv_lstore_n hx hb d_Md_take_41 rfl hl (by decide) rfl (fun ls hl => ?_)
          have hl : lv_has ls 4 [(1, .long x8), (0, .ref (ad 0)), (3, .int y5)] := hl
          refine lv_aload_n hx hb d_Md_take_42 rfl (lv_at hl 1 rfl) ?_
          refine lv_dup hx hb d_Md_take_43 rfl ?_
          refine va_get (D := D) (ci := 4) (C := R_Md) (T := T_Md) (N := 15) hx hb hT in_Md hown hK hP 0 rfl rfl 3 (by decide) (hT _ m_422) (fun _ h9 => h9) rfl d_Md_take_44 ?_
          refine lv_iconst hx hb d_Md_take_47 ic_1 ?_
          refine lv_iadd hx hb d_Md_take_48 ?_
          refine lv_topi (fun x9 e_x9 => ?_)
          have h := lt_h e_x9 h
          refine va_put (D := D) (ci := 4) (C := R_Md) (T := T_Md) (N := 15) hx hb hT in_Md ty_Md tyok_Md nm_Md hown hK hP hD hS 0 rfl rfl 3 (by decide) (hT _ m_422) (fun _ h9 => h9) rfl (ty := .int) (by decide +kernel) rfl rfl (by decide : 3 < 15) d_Md_take_49 (fun H locs hP hD hS => ?_)
          have hP : va_P D cls (gM cI cL cC ad X laid x9 thr_7 m1 m2 e1 e2 mi1 mi2 na1 na2 fa1 fa2 lets rlen rlaid rgone rthr were none_ beyo aN bN fN lN_ rN pN twos at_ rdig rpow good txt wri ra rb rfive rleft rright rpart) H := hP
          have hD : va_D A (gM cI cL cC ad X laid x9 thr_7 m1 m2 e1 e2 mi1 mi2 na1 na2 fa1 fa2 lets rlen rlaid rgone rthr were none_ beyo aN bN fN lN_ rN pN twos at_ rdig rpow good txt wri ra rb rfive rleft rright rpart) := hD
          obtain ⟨x10, e_x10⟩ : ∃ z, z = y5 + Int32.ofInt 1 := ⟨_, rfl⟩
          have h := lt_h e_x10 h
          refine lv_iinc (k := 2) hx hb d_Md_take_52 hl rfl e_x10.symm (by decide) rfl (fun ls hl => ?_)
          have hl : lv_has ls 4 [(3, .int x10), (1, .long x8), (0, .ref (ad 0))] := hl
          refine lv_goto (tgt := 9) hx hb d_Md_take_55 rfl ?_
          exact ih _ _ _ _ ls _ _ (lv_sub hl [2, 1, 0] rfl) hP hD hS h
  exact hL9 n _ _ _ _ ls _ _ (lv_sub hl [2, 1, 0] rfl) hP hD hS h
