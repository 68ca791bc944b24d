-- Md_binary
theorem d_Md_binary_0 : decode b_Md_binary 0 = .ok (.iload_n 1, 1) := by decide +kernel
theorem d_Md_binary_1 : decode b_Md_binary 1 = .ok (.ifCond .lt 33, 3) := by decide +kernel
theorem d_Md_binary_4 : decode b_Md_binary 4 = .ok (.iload_n 1, 1) := by decide +kernel
theorem d_Md_binary_5 : decode b_Md_binary 5 = .ok (.bipush 10, 2) := by decide +kernel
theorem d_Md_binary_7 : decode b_Md_binary 7 = .ok (.if_icmp .gt 27, 3) := by decide +kernel
theorem d_Md_binary_10 : decode b_Md_binary 10 = .ok (.iload 6, 2) := by decide +kernel
theorem d_Md_binary_12 : decode b_Md_binary 12 = .ok (.iconst 3, 1) := by decide +kernel
theorem d_Md_binary_13 : decode b_Md_binary 13 = .ok (.if_icmp .lt 21, 3) := by decide +kernel
theorem d_Md_binary_16 : decode b_Md_binary 16 = .ok (.iload 6, 2) := by decide +kernel
theorem d_Md_binary_18 : decode b_Md_binary 18 = .ok (.bipush 6, 2) := by decide +kernel
theorem d_Md_binary_20 : decode b_Md_binary 20 = .ok (.if_icmp .gt 14, 3) := by decide +kernel
theorem d_Md_binary_23 : decode b_Md_binary 23 = .ok (.iload_n 1, 1) := by decide +kernel
theorem d_Md_binary_24 : decode b_Md_binary 24 = .ok (.iconst 4, 1) := by decide +kernel
theorem d_Md_binary_25 : decode b_Md_binary 25 = .ok (.if_icmp .le 15, 3) := by decide +kernel
theorem d_Md_binary_28 : decode b_Md_binary 28 = .ok (.iload 6, 2) := by decide +kernel
theorem d_Md_binary_30 : decode b_Md_binary 30 = .ok (.iconst 4, 1) := by decide +kernel
theorem d_Md_binary_31 : decode b_Md_binary 31 = .ok (.if_icmp .le 9, 3) := by decide +kernel
theorem d_Md_binary_34 : decode b_Md_binary 34 = .ok (.aload_n 0, 1) := by decide +kernel
theorem d_Md_binary_35 : decode b_Md_binary 35 = .ok (.iconst 1, 1) := by decide +kernel
theorem d_Md_binary_36 : decode b_Md_binary 36 = .ok (.invokevirtual 123, 3) := by decide +kernel
theorem d_Md_binary_39 : decode b_Md_binary 39 = .ok (.lreturn, 1) := by decide +kernel
theorem d_Md_binary_40 : decode b_Md_binary 40 = .ok (.iload 6, 2) := by decide +kernel
theorem d_Md_binary_42 : decode b_Md_binary 42 = .ok (.iconst 4, 1) := by decide +kernel
theorem d_Md_binary_43 : decode b_Md_binary 43 = .ok (.if_icmp .le 28, 3) := by decide +kernel
theorem d_Md_binary_46 : decode b_Md_binary 46 = .ok (.aload_n 0, 1) := by decide +kernel
theorem d_Md_binary_47 : decode b_Md_binary 47 = .ok (.iconst 0, 1) := by decide +kernel
theorem d_Md_binary_48 : decode b_Md_binary 48 = .ok (.putfield 20, 3) := by decide +kernel
theorem d_Md_binary_51 : decode b_Md_binary 51 = .ok (.aload_n 0, 1) := by decide +kernel
theorem d_Md_binary_52 : decode b_Md_binary 52 = .ok (.iload_n 1, 1) := by decide +kernel
theorem d_Md_binary_53 : decode b_Md_binary 53 = .ok (.lload_n 2, 1) := by decide +kernel
theorem d_Md_binary_54 : decode b_Md_binary 54 = .ok (.lload 4, 2) := by decide +kernel
theorem d_Md_binary_56 : decode b_Md_binary 56 = .ok (.iload 6, 2) := by decide +kernel
theorem d_Md_binary_58 : decode b_Md_binary 58 = .ok (.iconst 5, 1) := by decide +kernel
theorem d_Md_binary_59 : decode b_Md_binary 59 = .ok (.if_icmp .ne 7, 3) := by decide +kernel
theorem d_Md_binary_62 : decode b_Md_binary 62 = .ok (.iconst 1, 1) := by decide +kernel
theorem d_Md_binary_63 : decode b_Md_binary 63 = .ok (.goto 4, 3) := by decide +kernel
theorem d_Md_binary_66 : decode b_Md_binary 66 = .ok (.iconst 0, 1) := by decide +kernel
theorem d_Md_binary_67 : decode b_Md_binary 67 = .ok (.invokevirtual 127, 3) := by decide +kernel
theorem d_Md_binary_70 : decode b_Md_binary 70 = .ok (.lreturn, 1) := by decide +kernel
theorem d_Md_binary_71 : decode b_Md_binary 71 = .ok (.lload_n 2, 1) := by decide +kernel
theorem d_Md_binary_72 : decode b_Md_binary 72 = .ok (.iload 6, 2) := by decide +kernel
theorem d_Md_binary_74 : decode b_Md_binary 74 = .ok (.invokestatic 119, 3) := by decide +kernel
theorem d_Md_binary_77 : decode b_Md_binary 77 = .ok (.lstore 7, 2) := by decide +kernel
theorem d_Md_binary_79 : decode b_Md_binary 79 = .ok (.lload 4, 2) := by decide +kernel
theorem d_Md_binary_81 : decode b_Md_binary 81 = .ok (.iload 6, 2) := by decide +kernel
theorem d_Md_binary_83 : decode b_Md_binary 83 = .ok (.invokestatic 119, 3) := by decide +kernel
theorem d_Md_binary_86 : decode b_Md_binary 86 = .ok (.lstore 9, 2) := by decide +kernel
theorem d_Md_binary_88 : decode b_Md_binary 88 = .ok (.iload_n 1, 1) := by decide +kernel
theorem d_Md_binary_89 : decode b_Md_binary 89 = .ok (.iconst 3, 1) := by decide +kernel
theorem d_Md_binary_90 : decode b_Md_binary 90 = .ok (.if_icmp .eq 8, 3) := by decide +kernel
theorem d_Md_binary_93 : decode b_Md_binary 93 = .ok (.iload_n 1, 1) := by decide +kernel
theorem d_Md_binary_94 : decode b_Md_binary 94 = .ok (.iconst 4, 1) := by decide +kernel
theorem d_Md_binary_95 : decode b_Md_binary 95 = .ok (.if_icmp .ne 16, 3) := by decide +kernel
theorem d_Md_binary_98 : decode b_Md_binary 98 = .ok (.lload 9, 2) := by decide +kernel
theorem d_Md_binary_100 : decode b_Md_binary 100 = .ok (.lconst 0, 1) := by decide +kernel
theorem d_Md_binary_101 : decode b_Md_binary 101 = .ok (.lcmp, 1) := by decide +kernel
theorem d_Md_binary_102 : decode b_Md_binary 102 = .ok (.ifCond .ne 9, 3) := by decide +kernel
theorem d_Md_binary_105 : decode b_Md_binary 105 = .ok (.aload_n 0, 1) := by decide +kernel
theorem d_Md_binary_106 : decode b_Md_binary 106 = .ok (.iconst 2, 1) := by decide +kernel
theorem d_Md_binary_107 : decode b_Md_binary 107 = .ok (.invokevirtual 123, 3) := by decide +kernel
theorem d_Md_binary_110 : decode b_Md_binary 110 = .ok (.lreturn, 1) := by decide +kernel
theorem d_Md_binary_111 : decode b_Md_binary 111 = .ok (.aload_n 0, 1) := by decide +kernel
theorem d_Md_binary_112 : decode b_Md_binary 112 = .ok (.iconst 0, 1) := by decide +kernel
theorem d_Md_binary_113 : decode b_Md_binary 113 = .ok (.putfield 20, 3) := by decide +kernel
theorem d_Md_binary_116 : decode b_Md_binary 116 = .ok (.aload_n 0, 1) := by decide +kernel
theorem d_Md_binary_117 : decode b_Md_binary 117 = .ok (.iload_n 1, 1) := by decide +kernel
theorem d_Md_binary_118 : decode b_Md_binary 118 = .ok (.lload 7, 2) := by decide +kernel
theorem d_Md_binary_120 : decode b_Md_binary 120 = .ok (.lload 9, 2) := by decide +kernel
theorem d_Md_binary_122 : decode b_Md_binary 122 = .ok (.iload 6, 2) := by decide +kernel
theorem d_Md_binary_124 : decode b_Md_binary 124 = .ok (.invokevirtual 131, 3) := by decide +kernel
theorem d_Md_binary_127 : decode b_Md_binary 127 = .ok (.lreturn, 1) := by decide +kernel
def F_Md_binary (n : Nat) (thr : Int32) (m1 : Int64) (m2 : Int64) (e1 : Int32) (e2 : Int32) (mi1 : Int32) (mi2 : Int32) (na1 : Int32) (na2 : Int32) (fa1 : Int32) (fa2 : Int32) (a1 : Int32) (a2 : Int64) (a3 : Int64) (a4 : Int32) : Option (Int64 × Int32 × Int64 × Int64 × Int32 × Int32 × Int32 × Int32 × Int32 × Int32 × Int32 × Int32) := lt_ (fun (thr_1 : Int32) (m1_2 : Int64) (m2_3 : Int64) (e1_4 : Int32) (e2_5 : Int32) (mi1_6 : Int32) (mi2_7 : Int32) (na1_8 : Int32) (na2_9 : Int32) (fa1_10 : Int32) (fa2_11 : Int32) => lt_ (F_Md_fails thr_1 (1 : Int32)) fun x12 => some (x12.1, x12.2, m1_2, m2_3, e1_4, e2_5, mi1_6, mi2_7, na1_8, na2_9, fa1_10, fa2_11)) fun j34 => if a1 < 0 then (j34 thr m1 m2 e1 e2 mi1 mi2 na1 na2 fa1 fa2) else (if (10 : Int32) < a1 then (j34 thr m1 m2 e1 e2 mi1 mi2 na1 na2 fa1 fa2) else (if a4 < (3 : Int32) then (j34 thr m1 m2 e1 e2 mi1 mi2 na1 na2 fa1 fa2) else (if (6 : Int32) < a4 then (j34 thr m1 m2 e1 e2 mi1 mi2 na1 na2 fa1 fa2) else (lt_ (fun (thr_13 : Int32) (m1_14 : Int64) (m2_15 : Int64) (e1_16 : Int32) (e2_17 : Int32) (mi1_18 : Int32) (mi2_19 : Int32) (na1_20 : Int32) (na2_21 : Int32) (fa1_22 : Int32) (fa2_23 : Int32) => if a4 ≤ (4 : Int32) then (lt_ (F_Md_cut a2 a4) fun x24 => lt_ (F_Md_cut a3 a4) fun x25 => lt_ (fun (thr_26 : Int32) (m1_27 : Int64) (m2_28 : Int64) (e1_29 : Int32) (e2_30 : Int32) (mi1_31 : Int32) (mi2_32 : Int32) (na1_33 : Int32) (na2_34 : Int32) (fa1_35 : Int32) (fa2_36 : Int32) => (F_Md_whole n a1 x24 x25 a4).bind fun x37 => some (x37, (0 : Int32), m1_27, m2_28, e1_29, e2_30, mi1_31, mi2_32, na1_33, na2_34, fa1_35, fa2_36)) fun j111 => lt_ (fun (thr_38 : Int32) (m1_39 : Int64) (m2_40 : Int64) (e1_41 : Int32) (e2_42 : Int32) (mi1_43 : Int32) (mi2_44 : Int32) (na1_45 : Int32) (na2_46 : Int32) (fa1_47 : Int32) (fa2_48 : Int32) => if ¬ x25 = (0 : Int64) then (j111 thr_38 m1_39 m2_40 e1_41 e2_42 mi1_43 mi2_44 na1_45 na2_46 fa1_47 fa2_48) else (lt_ (F_Md_fails thr_38 (2 : Int32)) fun x49 => some (x49.1, x49.2, m1_39, m2_40, e1_41, e2_42, mi1_43, mi2_44, na1_45, na2_46, fa1_47, fa2_48))) fun j98 => if a1 = (3 : Int32) then (j98 thr_13 m1_14 m2_15 e1_16 e2_17 mi1_18 mi2_19 na1_20 na2_21 fa1_22 fa2_23) else (if ¬ a1 = (4 : Int32) then (j111 thr_13 m1_14 m2_15 e1_16 e2_17 mi1_18 mi2_19 na1_20 na2_21 fa1_22 fa2_23) else (j98 thr_13 m1_14 m2_15 e1_16 e2_17 mi1_18 mi2_19 na1_20 na2_21 fa1_22 fa2_23))) else (lt_ (if ¬ a4 = (5 : Int32) then (0 : Int32) else (1 : Int32)) fun x50 => (F_Md_broken n m1_14 m2_15 e1_16 e2_17 mi1_18 mi2_19 na1_20 na2_21 fa1_22 fa2_23 a1 a2 a3 x50).bind fun x51 => some (x51.1, (0 : Int32), x51.2.1, x51.2.2.1, x51.2.2.2.1, x51.2.2.2.2.1, x51.2.2.2.2.2.1, x51.2.2.2.2.2.2.1, x51.2.2.2.2.2.2.2.1, x51.2.2.2.2.2.2.2.2.1, x51.2.2.2.2.2.2.2.2.2.1, x51.2.2.2.2.2.2.2.2.2.2))) fun j40 => if a1 ≤ (4 : Int32) then (j40 thr m1 m2 e1 e2 mi1 mi2 na1 na2 fa1 fa2) else (if a4 ≤ (4 : Int32) then (j40 thr m1 m2 e1 e2 mi1 mi2 na1 na2 fa1 fa2) else (j34 thr m1 m2 e1 e2 mi1 mi2 na1 na2 fa1 fa2))))))
set_option maxHeartbeats 4000000 in
set_option maxRecDepth 100000 in
theorem c_Md_binary (l : Launch) (D : va_G) (A : Nat → Prop) (cI cL cC : ClassId) (ad : Nat → Nat) (X : va_W) (laid : Int32) (gone : Int32) (thr : Int32) (m1 : Int64) (m2 : Int64) (e1 : Int32) (e2 : Int32) (mi1 : Int32) (mi2 : Int32) (na1 : Int32) (na2 : Int32) (fa1 : Int32) (fa2 : Int32) (lets : Nat → Int32) (rlen : Int32) (rlaid : Int32) (rgone : Int32) (rthr : Int32) (were : Int32) (none_ : Int32) (beyo : Int32) (aN : Int32) (bN : Int32) (fN : Int32) (lN_ : Int32) (rN : Int32) (pN : Int32) (twos : Int32) (at_ : Int32) (rdig : Int32) (rpow : Int32) (good : Int32) (txt : Nat → Int32) (wri : Nat → Int32) (ra : Nat → Int32) (rb : Nat → Int32) (rfive : Nat → Int32) (rleft : Nat → Int32) (rright : Nat → Int32) (rpart : Nat → Int32) (n : Nat) (a1 : Int32) (a2 : Int64) (a3 : Int64) (a4 : Int32) (r : Int64 × Int32 × Int64 × Int64 × Int32 × Int32 × Int32 × Int32 × Int32 × Int32 × Int32 × Int32) (h : F_Md_binary n thr m1 m2 e1 e2 mi1 mi2 na1 na2 fa1 fa2 a1 a2 a3 a4 = some r) : Met l y_Md_binary (.code y_Md_binary b_Md_binary 11 (some .long) :: BIG) ({ frames := 5, cells := 0, slots := 0, locals := 144 } : Room) (va_Pc [.ref (ad 0), .int a1, .long a2, .long a3, .int a4] (gPre D A (tysV cI cL cC) (gM cI cL cC ad X laid gone thr m1 m2 e1 e2 mi1 mi2 na1 na2 fa1 fa2 lets rlen rlaid rgone rthr were none_ beyo aN bN fN lN_ rN pN twos at_ rdig rpow good txt wri ra rb rfive rleft rright rpart))) (gQ D A (some (.long r.1)) (gM cI cL cC ad X laid gone r.2.1 r.2.2.1 r.2.2.2.1 r.2.2.2.2.1 r.2.2.2.2.2.1 r.2.2.2.2.2.2.1 r.2.2.2.2.2.2.2.1 r.2.2.2.2.2.2.2.2.1 r.2.2.2.2.2.2.2.2.2.1 r.2.2.2.2.2.2.2.2.2.2.1 r.2.2.2.2.2.2.2.2.2.2.2 lets rlen rlaid rgone rthr were none_ beyo aN bN fN lN_ rN pN twos at_ rdig rpow good txt wri ra rb rfive rleft rright rpart)) 0 0 A := by
  refine gOpen_l rfl (Nat.le_of_ble_eq_true rfl) ?_
  intro p e s m args below meth c Q ls hx hb hml hown hts hT hNB hP hK hD hl hret
  have hown : s.vm.findClass R_Md = some m.cls := hown
  have hS : va_S A s.heap s.heap [] := va_S.rf
  have hl : lv_has ls 11 [(0, .ref (ad 0)), (1, .int a1), (2, .long a2), (4, .long a3), (6, .int a4)] := hl
  have h : (lt_ (fun (thr_1 : Int32) (m1_2 : Int64) (m2_3 : Int64) (e1_4 : Int32) (e2_5 : Int32) (mi1_6 : Int32) (mi2_7 : Int32) (na1_8 : Int32) (na2_9 : Int32) (fa1_10 : Int32) (fa2_11 : Int32) => lt_ (F_Md_fails thr_1 (1 : Int32)) fun x12 => some (x12.1, x12.2, m1_2, m2_3, e1_4, e2_5, mi1_6, mi2_7, na1_8, na2_9, fa1_10, fa2_11)) fun j34 => if a1 < 0 then (j34 thr m1 m2 e1 e2 mi1 mi2 na1 na2 fa1 fa2) else (if (10 : Int32) < a1 then (j34 thr m1 m2 e1 e2 mi1 mi2 na1 na2 fa1 fa2) else (if a4 < (3 : Int32) then (j34 thr m1 m2 e1 e2 mi1 mi2 na1 na2 fa1 fa2) else (if (6 : Int32) < a4 then (j34 thr m1 m2 e1 e2 mi1 mi2 na1 na2 fa1 fa2) else (lt_ (fun (thr_13 : Int32) (m1_14 : Int64) (m2_15 : Int64) (e1_16 : Int32) (e2_17 : Int32) (mi1_18 : Int32) (mi2_19 : Int32) (na1_20 : Int32) (na2_21 : Int32) (fa1_22 : Int32) (fa2_23 : Int32) => if a4 ≤ (4 : Int32) then (lt_ (F_Md_cut a2 a4) fun x24 => lt_ (F_Md_cut a3 a4) fun x25 => lt_ (fun (thr_26 : Int32) (m1_27 : Int64) (m2_28 : Int64) (e1_29 : Int32) (e2_30 : Int32) (mi1_31 : Int32) (mi2_32 : Int32) (na1_33 : Int32) (na2_34 : Int32) (fa1_35 : Int32) (fa2_36 : Int32) => (F_Md_whole n a1 x24 x25 a4).bind fun x37 => some (x37, (0 : Int32), m1_27, m2_28, e1_29, e2_30, mi1_31, mi2_32, na1_33, na2_34, fa1_35, fa2_36)) fun j111 => lt_ (fun (thr_38 : Int32) (m1_39 : Int64) (m2_40 : Int64) (e1_41 : Int32) (e2_42 : Int32) (mi1_43 : Int32) (mi2_44 : Int32) (na1_45 : Int32) (na2_46 : Int32) (fa1_47 : Int32) (fa2_48 : Int32) => if ¬ x25 = (0 : Int64) then (j111 thr_38 m1_39 m2_40 e1_41 e2_42 mi1_43 mi2_44 na1_45 na2_46 fa1_47 fa2_48) else (lt_ (F_Md_fails thr_38 (2 : Int32)) fun x49 => some (x49.1, x49.2, m1_39, m2_40, e1_41, e2_42, mi1_43, mi2_44, na1_45, na2_46, fa1_47, fa2_48))) fun j98 => if a1 = (3 : Int32) then (j98 thr_13 m1_14 m2_15 e1_16 e2_17 mi1_18 mi2_19 na1_20 na2_21 fa1_22 fa2_23) else (if ¬ a1 = (4 : Int32) then (j111 thr_13 m1_14 m2_15 e1_16 e2_17 mi1_18 mi2_19 na1_20 na2_21 fa1_22 fa2_23) else (j98 thr_13 m1_14 m2_15 e1_16 e2_17 mi1_18 mi2_19 na1_20 na2_21 fa1_22 fa2_23))) else (lt_ (if ¬ a4 = (5 : Int32) then (0 : Int32) else (1 : Int32)) fun x50 => (F_Md_broken n m1_14 m2_15 e1_16 e2_17 mi1_18 mi2_19 na1_20 na2_21 fa1_22 fa2_23 a1 a2 a3 x50).bind fun x51 => some (x51.1, (0 : Int32), x51.2.1, x51.2.2.1, x51.2.2.2.1, x51.2.2.2.2.1, x51.2.2.2.2.2.1, x51.2.2.2.2.2.2.1, x51.2.2.2.2.2.2.2.1, x51.2.2.2.2.2.2.2.2.1, x51.2.2.2.2.2.2.2.2.2.1, x51.2.2.2.2.2.2.2.2.2.2))) fun j40 => if a1 ≤ (4 : Int32) then (j40 thr m1 m2 e1 e2 mi1 mi2 na1 na2 fa1 fa2) else (if a4 ≤ (4 : Int32) then (j40 thr m1 m2 e1 e2 mi1 mi2 na1 na2 fa1 fa2) else (j34 thr m1 m2 e1 e2 mi1 mi2 na1 na2 fa1 fa2))))))) = some r := h
  refine lv_iload_n hx hb d_Md_binary_0 rfl (lv_at hl 1 rfl) ?_
  obtain ⟨j34, e_j34, h⟩ := lt_o h
  have hJ34 : ∀ (thr_1 : Int32) (m1_2 : Int64) (m2_3 : Int64) (e1_4 : Int32) (e2_5 : Int32) (mi1_6 : Int32) (mi2_7 : Int32) (na1_8 : Int32) (na2_9 : Int32) (fa1_10 : Int32) (fa2_11 : Int32) (ls : Array Slot) (H : Heap) (locs : List Loc), lv_has ls 11 [(0, .ref (ad 0))] → va_P D cls (gM cI cL cC ad X laid gone thr_1 m1_2 m2_3 e1_4 e2_5 mi1_6 mi2_7 na1_8 na2_9 fa1_10 fa2_11 lets rlen rlaid rgone rthr were none_ beyo aN bN fN lN_ rN pN twos at_ rdig rpow good txt wri ra rb rfive rleft rright rpart) H → va_D A (gM cI cL cC ad X laid gone thr_1 m1_2 m2_3 e1_4 e2_5 mi1_6 mi2_7 na1_8 na2_9 fa1_10 fa2_11 lets rlen rlaid rgone rthr were none_ beyo aN bN fN lN_ rN pN twos at_ rdig rpow good txt wri ra rb rfive rleft rright rpart) → va_S A s.heap H locs → j34 thr_1 m1_2 m2_3 e1_4 e2_5 mi1_6 mi2_7 na1_8 na2_9 fa1_10 fa2_11 = some r → W p l e ({ frames := 5, cells := 0, slots := 0, locals := 144 } : Room) s m args below meth c H locs 0 0 Q (F0 m 34 ls []) := by
    intro thr_1 m1_2 m2_3 e1_4 e2_5 mi1_6 mi2_7 na1_8 na2_9 fa1_10 fa2_11 ls H locs hl hP hD hS h
    rw [e_j34] at h
    refine lv_aload_n hx hb d_Md_binary_34 rfl (lv_at hl 0 rfl) ?_
    refine lv_iconst hx hb d_Md_binary_35 ic_1 ?_
    obtain ⟨x12, e_x12, h⟩ := lt_o h
    refine q_GV (D := D) (A := A) (C := R_Md) (b := ad 0) (As := [.int (1 : Int32)]) (rest := []) (n := 1) hx hb hml hown hts (c_Md_fails l D A cI cL cC ad X laid gone thr_1 m1_2 m2_3 e1_4 e2_5 mi1_6 mi2_7 na1_8 na2_9 fa1_10 fa2_11 lets rlen rlaid rgone rthr were none_ beyo aN bN fN lN_ rN pN twos at_ rdig rpow good txt wri ra rb rfive rleft rright rpart (1 : Int32) x12 e_x12.symm) rfl rfl m_290 m_291 m_292 m_293 m_130 (by decide +kernel) ⟨Nat.le_of_ble_eq_true rfl, Nat.le_of_ble_eq_true rfl⟩ (va_recv hK hP (ci := 4) rfl (q0 := 0) rfl) hNB hK hP hD hS rfl hl.1 rfl (Nat.le_of_ble_eq_true rfl) d_Md_binary_36 ⟨Nat.zero_le _, Nat.zero_le _⟩ (fun H locs hP hD hS => ?_)
    have hP : va_P D cls (gM cI cL cC ad X laid gone x12.2 m1_2 m2_3 e1_4 e2_5 mi1_6 mi2_7 na1_8 na2_9 fa1_10 fa2_11 lets rlen rlaid rgone rthr were none_ beyo aN bN fN lN_ rN pN twos at_ rdig rpow good txt wri ra rb rfive rleft rright rpart) H := hP
    have hD : va_D A (gM cI cL cC ad X laid gone x12.2 m1_2 m2_3 e1_4 e2_5 mi1_6 mi2_7 na1_8 na2_9 fa1_10 fa2_11 lets rlen rlaid rgone rthr were none_ beyo aN bN fN lN_ rN pN twos at_ rdig rpow good txt wri ra rb rfive rleft rright rpart) := hD
    obtain rfl := Option.some.inj h
    exact hret 39 ls _ _ _ rfl hP hD hS d_Md_binary_39
  refine lv_if_lt (tgt := 34) hx hb d_Md_binary_1 rfl (fun hc => ?_) (fun hc => ?_)
  · have h := ite_t hc h
    exact hJ34 _ _ _ _ _ _ _ _ _ _ _ ls _ _ (lv_sub hl [0] rfl) hP hD hS h
  · have h := ite_f hc h
    refine lv_iload_n hx hb d_Md_binary_4 rfl (lv_at hl 1 rfl) ?_
    refine lv_bipush hx hb d_Md_binary_5 bp_10 ?_
    refine lv_icmp_gt (tgt := 34) hx hb d_Md_binary_7 rfl (fun hc => ?_) (fun hc => ?_)
    · have h := ite_t hc h
      exact hJ34 _ _ _ _ _ _ _ _ _ _ _ ls _ _ (lv_sub hl [0] rfl) hP hD hS h
    · have h := ite_f hc h
      refine lv_iload hx hb d_Md_binary_10 (lv_at hl 4 rfl) ?_
      refine lv_iconst hx hb d_Md_binary_12 ic_3 ?_
      refine lv_icmp_lt (tgt := 34) hx hb d_Md_binary_13 rfl (fun hc => ?_) (fun hc => ?_)
      · have h := ite_t hc h
        exact hJ34 _ _ _ _ _ _ _ _ _ _ _ ls _ _ (lv_sub hl [0] rfl) hP hD hS h
      · have h := ite_f hc h
        refine lv_iload hx hb d_Md_binary_16 (lv_at hl 4 rfl) ?_
        refine lv_bipush hx hb d_Md_binary_18 bp_6 ?_
        refine lv_icmp_gt (tgt := 34) hx hb d_Md_binary_20 rfl (fun hc => ?_) (fun hc => ?_)
        · have h := ite_t hc h
          exact hJ34 _ _ _ _ _ _ _ _ _ _ _ ls _ _ (lv_sub hl [0] rfl) hP hD hS h
        · have h := ite_f hc h
          refine lv_iload_n hx hb d_Md_binary_23 rfl (lv_at hl 1 rfl) ?_
          refine lv_iconst hx hb d_Md_binary_24 ic_4 ?_
          obtain ⟨j40, e_j40, h⟩ := lt_o h
          have hJ40 : ∀ (thr_13 : Int32) (m1_14 : Int64) (m2_15 : Int64) (e1_16 : Int32) (e2_17 : Int32) (mi1_18 : Int32) (mi2_19 : Int32) (na1_20 : Int32) (na2_21 : Int32) (fa1_22 : Int32) (fa2_23 : Int32) (ls : Array Slot) (H : Heap) (locs : List Loc), lv_has ls 11 [(0, .ref (ad 0)), (1, .int a1), (2, .long a2), (4, .long a3), (6, .int a4)] → va_P D cls (gM cI cL cC ad X laid gone thr_13 m1_14 m2_15 e1_16 e2_17 mi1_18 mi2_19 na1_20 na2_21 fa1_22 fa2_23 lets rlen rlaid rgone rthr were none_ beyo aN bN fN lN_ rN pN twos at_ rdig rpow good txt wri ra rb rfive rleft rright rpart) H → va_D A (gM cI cL cC ad X laid gone thr_13 m1_14 m2_15 e1_16 e2_17 mi1_18 mi2_19 na1_20 na2_21 fa1_22 fa2_23 lets rlen rlaid rgone rthr were none_ beyo aN bN fN lN_ rN pN twos at_ rdig rpow good txt wri ra rb rfive rleft rright rpart) → va_S A s.heap H locs → j40 thr_13 m1_14 m2_15 e1_16 e2_17 mi1_18 mi2_19 na1_20 na2_21 fa1_22 fa2_23 = some r → W p l e ({ frames := 5, cells := 0, slots := 0, locals := 144 } : Room) s m args below meth c H locs 0 0 Q (F0 m 40 ls []) := by
            intro thr_13 m1_14 m2_15 e1_16 e2_17 mi1_18 mi2_19 na1_20 na2_21 fa1_22 fa2_23 ls H locs hl hP hD hS h
            rw [e_j40] at h
            refine lv_iload hx hb d_Md_binary_40 (lv_at hl 4 rfl) ?_
            refine lv_iconst hx hb d_Md_binary_42 ic_4 ?_
            refine lv_icmp_le (tgt := 71) hx hb d_Md_binary_43 rfl (fun hc => ?_) (fun hc => ?_)
            · have h := ite_t hc h
              refine lv_lload_n hx hb d_Md_binary_71 rfl (lv_at hl 2 rfl) ?_
              refine lv_iload hx hb d_Md_binary_72 (lv_at hl 4 rfl) ?_
              refine q_S (As := [.long a2, .int a4]) (rest := []) (n := 2) hx hb hml hown hts (c_Md_cut l a2 a4) rfl rfl m_287 m_288 m_289 m_130 (by decide +kernel) ⟨Nat.le_of_ble_eq_true rfl, Nat.le_of_ble_eq_true rfl⟩ (p0_bl) (fun U hU hW => p0_mv hU hW hNB) rfl hl.1 rfl (Nat.le_of_ble_eq_true rfl) d_Md_binary_74 ⟨Nat.zero_le _, Nat.zero_le _⟩ ?_
              refine lv_topl (fun x24 e_x24 => ?_)
              have h := lt_h e_x24 h
              refine lv_lstore hx hb d_Md_binary_77 hl (by decide) rfl (fun ls hl => ?_)
              have hl : lv_has ls 11 [(7, .long x24), (0, .ref (ad 0)), (1, .int a1), (2, .long a2), (4, .long a3), (6, .int a4)] := hl
              refine lv_lload hx hb d_Md_binary_79 (lv_at hl 4 rfl) ?_
              refine lv_iload hx hb d_Md_binary_81 (lv_at hl 5 rfl) ?_
              refine q_S (As := [.long a3, .int a4]) (rest := []) (n := 2) hx hb hml hown hts (c_Md_cut l a3 a4) rfl rfl m_287 m_288 m_289 m_130 (by decide +kernel) ⟨Nat.le_of_ble_eq_true rfl, Nat.le_of_ble_eq_true rfl⟩ (p0_bl) (fun U hU hW => p0_mv hU hW hNB) rfl hl.1 rfl (Nat.le_of_ble_eq_true rfl) d_Md_binary_83 ⟨Nat.zero_le _, Nat.zero_le _⟩ ?_
              refine lv_topl (fun x25 e_x25 => ?_)
              have h := lt_h e_x25 h
              refine lv_lstore hx hb d_Md_binary_86 hl (by decide) rfl (fun ls hl => ?_)
              have hl : lv_has ls 11 [(9, .long x25), (7, .long x24), (0, .ref (ad 0)), (1, .int a1), (2, .long a2), (4, .long a3), (6, .int a4)] := hl
              refine lv_iload_n hx hb d_Md_binary_88 rfl (lv_at hl 3 rfl) ?_
              refine lv_iconst hx hb d_Md_binary_89 ic_3 ?_
              obtain ⟨j111, e_j111, h⟩ := lt_o h
              have hJ111 : ∀ (thr_26 : Int32) (m1_27 : Int64) (m2_28 : Int64) (e1_29 : Int32) (e2_30 : Int32) (mi1_31 : Int32) (mi2_32 : Int32) (na1_33 : Int32) (na2_34 : Int32) (fa1_35 : Int32) (fa2_36 : Int32) (ls : Array Slot) (H : Heap) (locs : List Loc), lv_has ls 11 [(0, .ref (ad 0)), (1, .int a1), (6, .int a4), (7, .long x24), (9, .long x25)] → va_P D cls (gM cI cL cC ad X laid gone thr_26 m1_27 m2_28 e1_29 e2_30 mi1_31 mi2_32 na1_33 na2_34 fa1_35 fa2_36 lets rlen rlaid rgone rthr were none_ beyo aN bN fN lN_ rN pN twos at_ rdig rpow good txt wri ra rb rfive rleft rright rpart) H → va_D A (gM cI cL cC ad X laid gone thr_26 m1_27 m2_28 e1_29 e2_30 mi1_31 mi2_32 na1_33 na2_34 fa1_35 fa2_36 lets rlen rlaid rgone rthr were none_ beyo aN bN fN lN_ rN pN twos at_ rdig rpow good txt wri ra rb rfive rleft rright rpart) → va_S A s.heap H locs → j111 thr_26 m1_27 m2_28 e1_29 e2_30 mi1_31 mi2_32 na1_33 na2_34 fa1_35 fa2_36 = some r → W p l e ({ frames := 5, cells := 0, slots := 0, locals := 144 } : Room) s m args below meth c H locs 0 0 Q (F0 m 111 ls []) := by
                intro thr_26 m1_27 m2_28 e1_29 e2_30 mi1_31 mi2_32 na1_33 na2_34 fa1_35 fa2_36 ls H locs hl hP hD hS h
                rw [e_j111] at h
                refine lv_aload_n hx hb d_Md_binary_111 rfl (lv_at hl 0 rfl) ?_
                refine lv_iconst hx hb d_Md_binary_112 ic_0 ?_
                refine va_put (D := D) (ci := 4) (C := R_Md) (T := T_Md) (N := 15) hx hb hT in_Md ty_Md tyok_Md nm_Md hown hK hP hD hS 0 rfl rfl 4 (by decide) (hT _ m_247) (fun _ h9 => h9) rfl (ty := .int) (by decide +kernel) rfl rfl (by decide : 4 < 15) d_Md_binary_113 (fun H locs hP hD hS => ?_)
                have hP : va_P D cls (gM cI cL cC ad X laid gone (0 : Int32) m1_27 m2_28 e1_29 e2_30 mi1_31 mi2_32 na1_33 na2_34 fa1_35 fa2_36 lets rlen rlaid rgone rthr were none_ beyo aN bN fN lN_ rN pN twos at_ rdig rpow good txt wri ra rb rfive rleft rright rpart) H := hP
                have hD : va_D A (gM cI cL cC ad X laid gone (0 : Int32) m1_27 m2_28 e1_29 e2_30 mi1_31 mi2_32 na1_33 na2_34 fa1_35 fa2_36 lets rlen rlaid rgone rthr were none_ beyo aN bN fN lN_ rN pN twos at_ rdig rpow good txt wri ra rb rfive rleft rright rpart) := hD
                refine lv_aload_n hx hb d_Md_binary_116 rfl (lv_at hl 0 rfl) ?_
                refine lv_iload_n hx hb d_Md_binary_117 rfl (lv_at hl 1 rfl) ?_
                refine lv_lload hx hb d_Md_binary_118 (lv_at hl 3 rfl) ?_
                refine lv_lload hx hb d_Md_binary_120 (lv_at hl 4 rfl) ?_
                refine lv_iload hx hb d_Md_binary_122 (lv_at hl 2 rfl) ?_
                obtain ⟨x37, e_x37, h⟩ := bd_o h
                refine q_GV (D := D) (A := A) (C := R_Md) (b := ad 0) (As := [.int a1, .long x24, .long x25, .int a4]) (rest := []) (n := 4) hx hb hml hown hts (c_Md_whole l D A cI cL cC ad X laid gone (0 : Int32) m1_27 m2_28 e1_29 e2_30 mi1_31 mi2_32 na1_33 na2_34 fa1_35 fa2_36 lets rlen rlaid rgone rthr were none_ beyo aN bN fN lN_ rN pN twos at_ rdig rpow good txt wri ra rb rfive rleft rright rpart n a1 x24 x25 a4 x37 e_x37) rfl rfl m_294 m_295 m_296 m_297 m_130 (by decide +kernel) ⟨Nat.le_of_ble_eq_true rfl, Nat.le_of_ble_eq_true rfl⟩ (va_recv hK hP (ci := 4) rfl (q0 := 0) rfl) hNB hK hP hD hS rfl hl.1 rfl (Nat.le_of_ble_eq_true rfl) d_Md_binary_124 ⟨Nat.zero_le _, Nat.zero_le _⟩ (fun H locs hP hD hS => ?_)
                have hP : va_P D cls (gM cI cL cC ad X laid gone (0 : Int32) m1_27 m2_28 e1_29 e2_30 mi1_31 mi2_32 na1_33 na2_34 fa1_35 fa2_36 lets rlen rlaid rgone rthr were none_ beyo aN bN fN lN_ rN pN twos at_ rdig rpow good txt wri ra rb rfive rleft rright rpart) H := hP
                have hD : va_D A (gM cI cL cC ad X laid gone (0 : Int32) m1_27 m2_28 e1_29 e2_30 mi1_31 mi2_32 na1_33 na2_34 fa1_35 fa2_36 lets rlen rlaid rgone rthr were none_ beyo aN bN fN lN_ rN pN twos at_ rdig rpow good txt wri ra rb rfive rleft rright rpart) := hD
                obtain rfl := Option.some.inj h
                exact hret 127 ls _ _ _ rfl hP hD hS d_Md_binary_127
              obtain ⟨j98, e_j98, h⟩ := lt_o h
              have hJ98 : ∀ (thr_38 : Int32) (m1_39 : Int64) (m2_40 : Int64) (e1_41 : Int32) (e2_42 : Int32) (mi1_43 : Int32) (mi2_44 : Int32) (na1_45 : Int32) (na2_46 : Int32) (fa1_47 : Int32) (fa2_48 : Int32) (ls : Array Slot) (H : Heap) (locs : List Loc), lv_has ls 11 [(0, .ref (ad 0)), (1, .int a1), (6, .int a4), (7, .long x24), (9, .long x25)] → va_P D cls (gM cI cL cC ad X laid gone thr_38 m1_39 m2_40 e1_41 e2_42 mi1_43 mi2_44 na1_45 na2_46 fa1_47 fa2_48 lets rlen rlaid rgone rthr were none_ beyo aN bN fN lN_ rN pN twos at_ rdig rpow good txt wri ra rb rfive rleft rright rpart) H → va_D A (gM cI cL cC ad X laid gone thr_38 m1_39 m2_40 e1_41 e2_42 mi1_43 mi2_44 na1_45 na2_46 fa1_47 fa2_48 lets rlen rlaid rgone rthr were none_ beyo aN bN fN lN_ rN pN twos at_ rdig rpow good txt wri ra rb rfive rleft rright rpart) → va_S A s.heap H locs → j98 thr_38 m1_39 m2_40 e1_41 e2_42 mi1_43 mi2_44 na1_45 na2_46 fa1_47 fa2_48 = some r → W p l e ({ frames := 5, cells := 0, slots := 0, locals := 144 } : Room) s m args below meth c H locs 0 0 Q (F0 m 98 ls []) := by
                intro thr_38 m1_39 m2_40 e1_41 e2_42 mi1_43 mi2_44 na1_45 na2_46 fa1_47 fa2_48 ls H locs hl hP hD hS h
                rw [e_j98] at h
                refine lv_lload hx hb d_Md_binary_98 (lv_at hl 4 rfl) ?_
                refine lv_lconst hx hb d_Md_binary_100 lc_0 ?_
                refine W.lcmp hx hb d_Md_binary_101 ?_
                refine lv_if_ne (tgt := 111) hx hb d_Md_binary_102 rfl (fun hc => ?_) (fun hc => ?_)
                · have hc := mt (lg_cmp_eq _ _).mpr hc
                  have h := ite_t hc h
                  exact hJ111 _ _ _ _ _ _ _ _ _ _ _ ls _ _ (lv_sub hl [0, 1, 2, 3, 4] rfl) hP hD hS h
                · have hc := not_not_intro ((lg_cmp_eq _ _).mp hc)
                  have h := ite_f hc h
                  refine lv_aload_n hx hb d_Md_binary_105 rfl (lv_at hl 0 rfl) ?_
                  refine lv_iconst hx hb d_Md_binary_106 ic_2 ?_
                  obtain ⟨x49, e_x49, h⟩ := lt_o h
                  refine q_GV (D := D) (A := A) (C := R_Md) (b := ad 0) (As := [.int (2 : Int32)]) (rest := []) (n := 1) hx hb hml hown hts (c_Md_fails l D A cI cL cC ad X laid gone thr_38 m1_39 m2_40 e1_41 e2_42 mi1_43 mi2_44 na1_45 na2_46 fa1_47 fa2_48 lets rlen rlaid rgone rthr were none_ beyo aN bN fN lN_ rN pN twos at_ rdig rpow good txt wri ra rb rfive rleft rright rpart (2 : Int32) x49 e_x49.symm) rfl rfl m_290 m_291 m_292 m_293 m_130 (by decide +kernel) ⟨Nat.le_of_ble_eq_true rfl, Nat.le_of_ble_eq_true rfl⟩ (va_recv hK hP (ci := 4) rfl (q0 := 0) rfl) hNB hK hP hD hS rfl hl.1 rfl (Nat.le_of_ble_eq_true rfl) d_Md_binary_107 ⟨Nat.zero_le _, Nat.zero_le _⟩ (fun H locs hP hD hS => ?_)
                  have hP : va_P D cls (gM cI cL cC ad X laid gone x49.2 m1_39 m2_40 e1_41 e2_42 mi1_43 mi2_44 na1_45 na2_46 fa1_47 fa2_48 lets rlen rlaid rgone rthr were none_ beyo aN bN fN lN_ rN pN twos at_ rdig rpow good txt wri ra rb rfive rleft rright rpart) H := hP
                  have hD : va_D A (gM cI cL cC ad X laid gone x49.2 m1_39 m2_40 e1_41 e2_42 mi1_43 mi2_44 na1_45 na2_46 fa1_47 fa2_48 lets rlen rlaid rgone rthr were none_ beyo aN bN fN lN_ rN pN twos at_ rdig rpow good txt wri ra rb rfive rleft rright rpart) := hD
                  obtain rfl := Option.some.inj h
                  exact hret 110 ls _ _ _ rfl hP hD hS d_Md_binary_110
              refine lv_icmp_eq (tgt := 98) hx hb d_Md_binary_90 rfl (fun hc => ?_) (fun hc => ?_)
              · have h := ite_t hc h
                exact hJ98 _ _ _ _ _ _ _ _ _ _ _ ls _ _ (lv_sub hl [2, 3, 6, 1, 0] rfl) hP hD hS h
              · have h := ite_f hc h
                refine lv_iload_n hx hb d_Md_binary_93 rfl (lv_at hl 3 rfl) ?_
                refine lv_iconst hx hb d_Md_binary_94 ic_4 ?_
                refine lv_icmp_ne (tgt := 111) hx hb d_Md_binary_95 rfl (fun hc => ?_) (fun hc => ?_)
                · have h := ite_t hc h
                  exact hJ111 _ _ _ _ _ _ _ _ _ _ _ ls _ _ (lv_sub hl [2, 3, 6, 1, 0] rfl) hP hD hS h
                · have hc := not_not_intro hc
                  have h := ite_f hc h
                  exact hJ98 _ _ _ _ _ _ _ _ _ _ _ ls _ _ (lv_sub hl [2, 3, 6, 1, 0] rfl) hP hD hS h
            · have h := ite_f hc h
              refine lv_aload_n hx hb d_Md_binary_46 rfl (lv_at hl 0 rfl) ?_
              refine lv_iconst hx hb d_Md_binary_47 ic_0 ?_
              refine va_put (D := D) (ci := 4) (C := R_Md) (T := T_Md) (N := 15) hx hb hT in_Md ty_Md tyok_Md nm_Md hown hK hP hD hS 0 rfl rfl 4 (by decide) (hT _ m_247) (fun _ h9 => h9) rfl (ty := .int) (by decide +kernel) rfl rfl (by decide : 4 < 15) d_Md_binary_48 (fun H locs hP hD hS => ?_)
              have hP : va_P D cls (gM cI cL cC ad X laid gone (0 : Int32) m1_14 m2_15 e1_16 e2_17 mi1_18 mi2_19 na1_20 na2_21 fa1_22 fa2_23 lets rlen rlaid rgone rthr were none_ beyo aN bN fN lN_ rN pN twos at_ rdig rpow good txt wri ra rb rfive rleft rright rpart) H := hP
              have hD : va_D A (gM cI cL cC ad X laid gone (0 : Int32) m1_14 m2_15 e1_16 e2_17 mi1_18 mi2_19 na1_20 na2_21 fa1_22 fa2_23 lets rlen rlaid rgone rthr were none_ beyo aN bN fN lN_ rN pN twos at_ rdig rpow good txt wri ra rb rfive rleft rright rpart) := hD
              refine lv_aload_n hx hb d_Md_binary_51 rfl (lv_at hl 0 rfl) ?_
              refine lv_iload_n hx hb d_Md_binary_52 rfl (lv_at hl 1 rfl) ?_
              refine lv_lload_n hx hb d_Md_binary_53 rfl (lv_at hl 2 rfl) ?_
              refine lv_lload hx hb d_Md_binary_54 (lv_at hl 3 rfl) ?_
              refine lv_iload hx hb d_Md_binary_56 (lv_at hl 4 rfl) ?_
              refine lv_iconst hx hb d_Md_binary_58 ic_5 ?_
              obtain ⟨x50, e_x50, h⟩ := lt_o h
              have hJ67 : ∀ (x50' : Int32) (ls : Array Slot), x50 = x50' → lv_has ls 11 [] → W p l e ({ frames := 5, cells := 0, slots := 0, locals := 144 } : Room) s m args below meth c H locs 0 0 Q (F0 m 67 ls [.int x50', .long a3, .long a2, .int a1, .ref (ad 0)]) := by
                intro x50' ls q_x50 hl
                subst q_x50
                obtain ⟨x51, e_x51, h⟩ := bd_o h
                refine q_GV (D := D) (A := A) (C := R_Md) (b := ad 0) (As := [.int a1, .long a2, .long a3, .int x50]) (rest := []) (n := 4) hx hb hml hown hts (c_Md_broken l D A cI cL cC ad X laid gone (0 : Int32) m1_14 m2_15 e1_16 e2_17 mi1_18 mi2_19 na1_20 na2_21 fa1_22 fa2_23 lets rlen rlaid rgone rthr were none_ beyo aN bN fN lN_ rN pN twos at_ rdig rpow good txt wri ra rb rfive rleft rright rpart n a1 a2 a3 x50 x51 e_x51) rfl rfl m_298 m_299 m_300 m_301 m_130 (by decide +kernel) ⟨Nat.le_of_ble_eq_true rfl, Nat.le_of_ble_eq_true rfl⟩ (va_recv hK hP (ci := 4) rfl (q0 := 0) rfl) hNB hK hP hD hS rfl hl.1 rfl (Nat.le_of_ble_eq_true rfl) d_Md_binary_67 ⟨Nat.zero_le _, Nat.zero_le _⟩ (fun H locs hP hD hS => ?_)
                have hP : va_P D cls (gM cI cL cC ad X laid gone (0 : Int32) x51.2.1 x51.2.2.1 x51.2.2.2.1 x51.2.2.2.2.1 x51.2.2.2.2.2.1 x51.2.2.2.2.2.2.1 x51.2.2.2.2.2.2.2.1 x51.2.2.2.2.2.2.2.2.1 x51.2.2.2.2.2.2.2.2.2.1 x51.2.2.2.2.2.2.2.2.2.2 lets rlen rlaid rgone rthr were none_ beyo aN bN fN lN_ rN pN twos at_ rdig rpow good txt wri ra rb rfive rleft rright rpart) H := hP
                have hD : va_D A (gM cI cL cC ad X laid gone (0 : Int32) x51.2.1 x51.2.2.1 x51.2.2.2.1 x51.2.2.2.2.1 x51.2.2.2.2.2.1 x51.2.2.2.2.2.2.1 x51.2.2.2.2.2.2.2.1 x51.2.2.2.2.2.2.2.2.1 x51.2.2.2.2.2.2.2.2.2.1 x51.2.2.2.2.2.2.2.2.2.2 lets rlen rlaid rgone rthr were none_ beyo aN bN fN lN_ rN pN twos at_ rdig rpow good txt wri ra rb rfive rleft rright rpart) := hD
                obtain rfl := Option.some.inj h
                exact hret 70 ls _ _ _ rfl hP hD hS d_Md_binary_70
              refine lv_icmp_ne (tgt := 66) hx hb d_Md_binary_59 rfl (fun hc => ?_) (fun hc => ?_)
              · have e_x50 := e_x50.trans (if_pos hc)
                refine lv_iconst hx hb d_Md_binary_66 ic_0 ?_
                exact hJ67 _ ls e_x50 (lv_sub hl [] rfl)
              · have hc := not_not_intro hc
                have e_x50 := e_x50.trans (if_neg hc)
                refine lv_iconst hx hb d_Md_binary_62 ic_1 ?_
                refine lv_goto (tgt := 67) hx hb d_Md_binary_63 rfl ?_
                exact hJ67 _ ls e_x50 (lv_sub hl [] rfl)
          refine lv_icmp_le (tgt := 40) hx hb d_Md_binary_25 rfl (fun hc => ?_) (fun hc => ?_)
          · have h := ite_t hc h
            exact hJ40 _ _ _ _ _ _ _ _ _ _ _ ls _ _ (lv_sub hl [0, 1, 2, 3, 4] rfl) hP hD hS h
          · have h := ite_f hc h
            refine lv_iload hx hb d_Md_binary_28 (lv_at hl 4 rfl) ?_
            refine lv_iconst hx hb d_Md_binary_30 ic_4 ?_
            refine lv_icmp_le (tgt := 40) hx hb d_Md_binary_31 rfl (fun hc => ?_) (fun hc => ?_)
            · have h := ite_t hc h
              exact hJ40 _ _ _ _ _ _ _ _ _ _ _ ls _ _ (lv_sub hl [0, 1, 2, 3, 4] rfl) hP hD hS h
            · have h := ite_f hc h
              exact hJ34 _ _ _ _ _ _ _ _ _ _ _ ls _ _ (lv_sub hl [0] rfl) hP hD hS h
-- Md_minus
theorem d_Md_minus_0 : decode b_Md_minus 0 = .ok (.iload_n 3, 1) := by decide +kernel
theorem d_Md_minus_1 : decode b_Md_minus 1 = .ok (.iconst 3, 1) := by decide +kernel
theorem d_Md_minus_2 : decode b_Md_minus 2 = .ok (.if_icmp .lt 9, 3) := by decide +kernel
theorem d_Md_minus_5 : decode b_Md_minus 5 = .ok (.iload_n 3, 1) := by decide +kernel
theorem d_Md_minus_6 : decode b_Md_minus 6 = .ok (.bipush 6, 2) := by decide +kernel
theorem d_Md_minus_8 : decode b_Md_minus 8 = .ok (.if_icmp .le 9, 3) := by decide +kernel
theorem d_Md_minus_11 : decode b_Md_minus 11 = .ok (.aload_n 0, 1) := by decide +kernel
theorem d_Md_minus_12 : decode b_Md_minus 12 = .ok (.iconst 1, 1) := by decide +kernel
theorem d_Md_minus_13 : decode b_Md_minus 13 = .ok (.invokevirtual 123, 3) := by decide +kernel
theorem d_Md_minus_16 : decode b_Md_minus 16 = .ok (.lreturn, 1) := by decide +kernel
theorem d_Md_minus_17 : decode b_Md_minus 17 = .ok (.aload_n 0, 1) := by decide +kernel
theorem d_Md_minus_18 : decode b_Md_minus 18 = .ok (.iconst 0, 1) := by decide +kernel
theorem d_Md_minus_19 : decode b_Md_minus 19 = .ok (.putfield 20, 3) := by decide +kernel
theorem d_Md_minus_22 : decode b_Md_minus 22 = .ok (.iload_n 3, 1) := by decide +kernel
theorem d_Md_minus_23 : decode b_Md_minus 23 = .ok (.iconst 4, 1) := by decide +kernel
theorem d_Md_minus_24 : decode b_Md_minus 24 = .ok (.if_icmp .gt 14, 3) := by decide +kernel
theorem d_Md_minus_27 : decode b_Md_minus 27 = .ok (.lload_n 1, 1) := by decide +kernel
theorem d_Md_minus_28 : decode b_Md_minus 28 = .ok (.iload_n 3, 1) := by decide +kernel
theorem d_Md_minus_29 : decode b_Md_minus 29 = .ok (.invokestatic 119, 3) := by decide +kernel
theorem d_Md_minus_32 : decode b_Md_minus 32 = .ok (.lneg, 1) := by decide +kernel
theorem d_Md_minus_33 : decode b_Md_minus 33 = .ok (.iload_n 3, 1) := by decide +kernel
theorem d_Md_minus_34 : decode b_Md_minus 34 = .ok (.invokestatic 119, 3) := by decide +kernel
theorem d_Md_minus_37 : decode b_Md_minus 37 = .ok (.lreturn, 1) := by decide +kernel
theorem d_Md_minus_38 : decode b_Md_minus 38 = .ok (.iload_n 3, 1) := by decide +kernel
theorem d_Md_minus_39 : decode b_Md_minus 39 = .ok (.iconst 5, 1) := by decide +kernel
theorem d_Md_minus_40 : decode b_Md_minus 40 = .ok (.if_icmp .ne 7, 3) := by decide +kernel
theorem d_Md_minus_43 : decode b_Md_minus 43 = .ok (.iconst 1, 1) := by decide +kernel
theorem d_Md_minus_44 : decode b_Md_minus 44 = .ok (.goto 4, 3) := by decide +kernel
theorem d_Md_minus_47 : decode b_Md_minus 47 = .ok (.iconst 0, 1) := by decide +kernel
theorem d_Md_minus_48 : decode b_Md_minus 48 = .ok (.istore 4, 2) := by decide +kernel
theorem d_Md_minus_50 : decode b_Md_minus 50 = .ok (.aload_n 0, 1) := by decide +kernel
theorem d_Md_minus_51 : decode b_Md_minus 51 = .ok (.lload_n 1, 1) := by decide +kernel
theorem d_Md_minus_52 : decode b_Md_minus 52 = .ok (.iload 4, 2) := by decide +kernel
theorem d_Md_minus_54 : decode b_Md_minus 54 = .ok (.iconst 1, 1) := by decide +kernel
theorem d_Md_minus_55 : decode b_Md_minus 55 = .ok (.invokevirtual 101, 3) := by decide +kernel
theorem d_Md_minus_58 : decode b_Md_minus 58 = .ok (.aload_n 0, 1) := by decide +kernel
theorem d_Md_minus_59 : decode b_Md_minus 59 = .ok (.getfield 55, 3) := by decide +kernel
theorem d_Md_minus_62 : decode b_Md_minus 62 = .ok (.ifCond .eq 9, 3) := by decide +kernel
theorem d_Md_minus_65 : decode b_Md_minus 65 = .ok (.iload 4, 2) := by decide +kernel
theorem d_Md_minus_67 : decode b_Md_minus 67 = .ok (.invokestatic 89, 3) := by decide +kernel
theorem d_Md_minus_70 : decode b_Md_minus 70 = .ok (.lreturn, 1) := by decide +kernel
theorem d_Md_minus_71 : decode b_Md_minus 71 = .ok (.iload 4, 2) := by decide +kernel
theorem d_Md_minus_73 : decode b_Md_minus 73 = .ok (.ifCond .eq 15, 3) := by decide +kernel
theorem d_Md_minus_76 : decode b_Md_minus 76 = .ok (.lload_n 1, 1) := by decide +kernel
theorem d_Md_minus_77 : decode b_Md_minus 77 = .ok (.ldc2_w 36, 3) := by decide +kernel
theorem d_Md_minus_80 : decode b_Md_minus 80 = .ok (.lxor, 1) := by decide +kernel
theorem d_Md_minus_81 : decode b_Md_minus 81 = .ok (.ldc2_w 42, 3) := by decide +kernel
theorem d_Md_minus_84 : decode b_Md_minus 84 = .ok (.land, 1) := by decide +kernel
theorem d_Md_minus_85 : decode b_Md_minus 85 = .ok (.goto 8, 3) := by decide +kernel
theorem d_Md_minus_88 : decode b_Md_minus 88 = .ok (.lload_n 1, 1) := by decide +kernel
theorem d_Md_minus_89 : decode b_Md_minus 89 = .ok (.ldc2_w 40, 3) := by decide +kernel
theorem d_Md_minus_92 : decode b_Md_minus 92 = .ok (.lxor, 1) := by decide +kernel
theorem d_Md_minus_93 : decode b_Md_minus 93 = .ok (.lreturn, 1) := by decide +kernel
def F_Md_minus (thr : Int32) (m1 : Int64) (m2 : Int64) (e1 : Int32) (e2 : Int32) (mi1 : Int32) (mi2 : Int32) (na1 : Int32) (na2 : Int32) (fa1 : Int32) (fa2 : Int32) (a1 : Int64) (a2 : Int32) : Int64 × Int32 × Int64 × Int64 × Int32 × Int32 × Int32 × Int32 × Int32 × Int32 × Int32 × Int32 := lt_ (fun (thr_1 : Int32) (m1_2 : Int64) (m2_3 : Int64) (e1_4 : Int32) (e2_5 : Int32) (mi1_6 : Int32) (mi2_7 : Int32) (na1_8 : Int32) (na2_9 : Int32) (fa1_10 : Int32) (fa2_11 : Int32) => lt_ (F_Md_fails thr_1 (1 : Int32)) fun x12 => (x12.1, x12.2, m1_2, m2_3, e1_4, e2_5, mi1_6, mi2_7, na1_8, na2_9, fa1_10, fa2_11)) fun j11 => if a2 < (3 : Int32) then (j11 thr m1 m2 e1 e2 mi1 mi2 na1 na2 fa1 fa2) else (if a2 ≤ (6 : Int32) then (if (4 : Int32) < a2 then (lt_ (if ¬ a2 = (5 : Int32) then (0 : Int32) else (1 : Int32)) fun x13 => lt_ (F_Md_apart m1 m2 e1 e2 mi1 mi2 na1 na2 fa1 fa2 a1 x13 (1 : Int32)) fun x14 => if x14.2.2.2.2.2.2.1 = 0 then (lt_ (if x13 = 0 then a1 ^^^ (-9223372036854775808 : Int64) else (a1 ^^^ (2147483648 : Int64)) &&& (4294967295 : Int64)) fun x15 => (x15, (0 : Int32), x14.1, x14.2.1, x14.2.2.1, x14.2.2.2.1, x14.2.2.2.2.1, x14.2.2.2.2.2.1, x14.2.2.2.2.2.2.1, x14.2.2.2.2.2.2.2.1, x14.2.2.2.2.2.2.2.2.1, x14.2.2.2.2.2.2.2.2.2)) else (F_Md_nan x13, (0 : Int32), x14.1, x14.2.1, x14.2.2.1, x14.2.2.2.1, x14.2.2.2.2.1, x14.2.2.2.2.2.1, x14.2.2.2.2.2.2.1, x14.2.2.2.2.2.2.2.1, x14.2.2.2.2.2.2.2.2.1, x14.2.2.2.2.2.2.2.2.2)) else (F_Md_cut (-(F_Md_cut a1 a2)) a2, (0 : Int32), m1, m2, e1, e2, mi1, mi2, na1, na2, fa1, fa2)) else (j11 thr m1 m2 e1 e2 mi1 mi2 na1 na2 fa1 fa2))
set_option maxHeartbeats 4000000 in
set_option maxRecDepth 100000 in
theorem c_Md_minus (l : Launch) (D : va_G) (A : Nat → Prop) (cI cL cC : ClassId) (ad : Nat → Nat) (X : va_W) (laid : Int32) (gone : Int32) (thr : Int32) (m1 : Int64) (m2 : Int64) (e1 : Int32) (e2 : Int32) (mi1 : Int32) (mi2 : Int32) (na1 : Int32) (na2 : Int32) (fa1 : Int32) (fa2 : Int32) (lets : Nat → Int32) (rlen : Int32) (rlaid : Int32) (rgone : Int32) (rthr : Int32) (were : Int32) (none_ : Int32) (beyo : Int32) (aN : Int32) (bN : Int32) (fN : Int32) (lN_ : Int32) (rN : Int32) (pN : Int32) (twos : Int32) (at_ : Int32) (rdig : Int32) (rpow : Int32) (good : Int32) (txt : Nat → Int32) (wri : Nat → Int32) (ra : Nat → Int32) (rb : Nat → Int32) (rfive : Nat → Int32) (rleft : Nat → Int32) (rright : Nat → Int32) (rpart : Nat → Int32) (a1 : Int64) (a2 : Int32) (r : Int64 × Int32 × Int64 × Int64 × Int32 × Int32 × Int32 × Int32 × Int32 × Int32 × Int32 × Int32) (h : F_Md_minus thr m1 m2 e1 e2 mi1 mi2 na1 na2 fa1 fa2 a1 a2 = r) : Met l y_Md_minus (.code y_Md_minus b_Md_minus 5 (some .long) :: BIG) ({ frames := 1, cells := 0, slots := 0, locals := 35 } : Room) (va_Pc [.ref (ad 0), .long a1, .int a2] (gPre D A (tysV cI cL cC) (gM cI cL cC ad X laid gone thr m1 m2 e1 e2 mi1 mi2 na1 na2 fa1 fa2 lets rlen rlaid rgone rthr were none_ beyo aN bN fN lN_ rN pN twos at_ rdig rpow good txt wri ra rb rfive rleft rright rpart))) (gQ D A (some (.long r.1)) (gM cI cL cC ad X laid gone r.2.1 r.2.2.1 r.2.2.2.1 r.2.2.2.2.1 r.2.2.2.2.2.1 r.2.2.2.2.2.2.1 r.2.2.2.2.2.2.2.1 r.2.2.2.2.2.2.2.2.1 r.2.2.2.2.2.2.2.2.2.1 r.2.2.2.2.2.2.2.2.2.2.1 r.2.2.2.2.2.2.2.2.2.2.2 lets rlen rlaid rgone rthr were none_ beyo aN bN fN lN_ rN pN twos at_ rdig rpow good txt wri ra rb rfive rleft rright rpart)) 0 0 A := by
  refine gOpen_l rfl (Nat.le_of_ble_eq_true rfl) ?_
  intro p e s m args below meth c Q ls hx hb hml hown hts hT hNB hP hK hD hl hret
  have hown : s.vm.findClass R_Md = some m.cls := hown
  have hS : va_S A s.heap s.heap [] := va_S.rf
  have hl : lv_has ls 5 [(0, .ref (ad 0)), (1, .long a1), (3, .int a2)] := hl
  have h : (lt_ (fun (thr_1 : Int32) (m1_2 : Int64) (m2_3 : Int64) (e1_4 : Int32) (e2_5 : Int32) (mi1_6 : Int32) (mi2_7 : Int32) (na1_8 : Int32) (na2_9 : Int32) (fa1_10 : Int32) (fa2_11 : Int32) => lt_ (F_Md_fails thr_1 (1 : Int32)) fun x12 => (x12.1, x12.2, m1_2, m2_3, e1_4, e2_5, mi1_6, mi2_7, na1_8, na2_9, fa1_10, fa2_11)) fun j11 => if a2 < (3 : Int32) then (j11 thr m1 m2 e1 e2 mi1 mi2 na1 na2 fa1 fa2) else (if a2 ≤ (6 : Int32) then (if (4 : Int32) < a2 then (lt_ (if ¬ a2 = (5 : Int32) then (0 : Int32) else (1 : Int32)) fun x13 => lt_ (F_Md_apart m1 m2 e1 e2 mi1 mi2 na1 na2 fa1 fa2 a1 x13 (1 : Int32)) fun x14 => if x14.2.2.2.2.2.2.1 = 0 then (lt_ (if x13 = 0 then a1 ^^^ (-9223372036854775808 : Int64) else (a1 ^^^ (2147483648 : Int64)) &&& (4294967295 : Int64)) fun x15 => (x15, (0 : Int32), x14.1, x14.2.1, x14.2.2.1, x14.2.2.2.1, x14.2.2.2.2.1, x14.2.2.2.2.2.1, x14.2.2.2.2.2.2.1, x14.2.2.2.2.2.2.2.1, x14.2.2.2.2.2.2.2.2.1, x14.2.2.2.2.2.2.2.2.2)) else (F_Md_nan x13, (0 : Int32), x14.1, x14.2.1, x14.2.2.1, x14.2.2.2.1, x14.2.2.2.2.1, x14.2.2.2.2.2.1, x14.2.2.2.2.2.2.1, x14.2.2.2.2.2.2.2.1, x14.2.2.2.2.2.2.2.2.1, x14.2.2.2.2.2.2.2.2.2)) else (F_Md_cut (-(F_Md_cut a1 a2)) a2, (0 : Int32), m1, m2, e1, e2, mi1, mi2, na1, na2, fa1, fa2)) else (j11 thr m1 m2 e1 e2 mi1 mi2 na1 na2 fa1 fa2))) = r := h
  refine lv_iload_n hx hb d_Md_minus_0 rfl (lv_at hl 2 rfl) ?_
  refine lv_iconst hx hb d_Md_minus_1 ic_3 ?_
  obtain ⟨j11, e_j11, h⟩ := lt_o h
  have hJ11 : ∀ (thr_1 : Int32) (m1_2 : Int64) (m2_3 : Int64) (e1_4 : Int32) (e2_5 : Int32) (mi1_6 : Int32) (mi2_7 : Int32) (na1_8 : Int32) (na2_9 : Int32) (fa1_10 : Int32) (fa2_11 : Int32) (ls : Array Slot) (H : Heap) (locs : List Loc), lv_has ls 5 [(0, .ref (ad 0))] → va_P D cls (gM cI cL cC ad X laid gone thr_1 m1_2 m2_3 e1_4 e2_5 mi1_6 mi2_7 na1_8 na2_9 fa1_10 fa2_11 lets rlen rlaid rgone rthr were none_ beyo aN bN fN lN_ rN pN twos at_ rdig rpow good txt wri ra rb rfive rleft rright rpart) H → va_D A (gM cI cL cC ad X laid gone thr_1 m1_2 m2_3 e1_4 e2_5 mi1_6 mi2_7 na1_8 na2_9 fa1_10 fa2_11 lets rlen rlaid rgone rthr were none_ beyo aN bN fN lN_ rN pN twos at_ rdig rpow good txt wri ra rb rfive rleft rright rpart) → va_S A s.heap H locs → j11 thr_1 m1_2 m2_3 e1_4 e2_5 mi1_6 mi2_7 na1_8 na2_9 fa1_10 fa2_11 = r → W p l e ({ frames := 1, cells := 0, slots := 0, locals := 35 } : Room) s m args below meth c H locs 0 0 Q (F0 m 11 ls []) := by
    intro thr_1 m1_2 m2_3 e1_4 e2_5 mi1_6 mi2_7 na1_8 na2_9 fa1_10 fa2_11 ls H locs hl hP hD hS h
    rw [e_j11] at h
    refine lv_aload_n hx hb d_Md_minus_11 rfl (lv_at hl 0 rfl) ?_
    refine lv_iconst hx hb d_Md_minus_12 ic_1 ?_
    obtain ⟨x12, e_x12, h⟩ := lt_o h
    refine q_GV (D := D) (A := A) (C := R_Md) (b := ad 0) (As := [.int (1 : Int32)]) (rest := []) (n := 1) hx hb hml hown hts (c_Md_fails l D A cI cL cC ad X laid gone thr_1 m1_2 m2_3 e1_4 e2_5 mi1_6 mi2_7 na1_8 na2_9 fa1_10 fa2_11 lets rlen rlaid rgone rthr were none_ beyo aN bN fN lN_ rN pN twos at_ rdig rpow good txt wri ra rb rfive rleft rright rpart (1 : Int32) x12 e_x12.symm) rfl rfl m_290 m_291 m_292 m_293 m_130 (by decide +kernel) ⟨Nat.le_of_ble_eq_true rfl, Nat.le_of_ble_eq_true rfl⟩ (va_recv hK hP (ci := 4) rfl (q0 := 0) rfl) hNB hK hP hD hS rfl hl.1 rfl (Nat.le_of_ble_eq_true rfl) d_Md_minus_13 ⟨Nat.zero_le _, Nat.zero_le _⟩ (fun H locs hP hD hS => ?_)
    have hP : va_P D cls (gM cI cL cC ad X laid gone x12.2 m1_2 m2_3 e1_4 e2_5 mi1_6 mi2_7 na1_8 na2_9 fa1_10 fa2_11 lets rlen rlaid rgone rthr were none_ beyo aN bN fN lN_ rN pN twos at_ rdig rpow good txt wri ra rb rfive rleft rright rpart) H := hP
    have hD : va_D A (gM cI cL cC ad X laid gone x12.2 m1_2 m2_3 e1_4 e2_5 mi1_6 mi2_7 na1_8 na2_9 fa1_10 fa2_11 lets rlen rlaid rgone rthr were none_ beyo aN bN fN lN_ rN pN twos at_ rdig rpow good txt wri ra rb rfive rleft rright rpart) := hD
    subst h
    exact hret 16 ls _ _ _ rfl hP hD hS d_Md_minus_16
  refine lv_icmp_lt (tgt := 11) hx hb d_Md_minus_2 rfl (fun hc => ?_) (fun hc => ?_)
  · have h := ite_t hc h
    exact hJ11 _ _ _ _ _ _ _ _ _ _ _ ls _ _ (lv_sub hl [0] rfl) hP hD hS h
  · have h := ite_f hc h
    refine lv_iload_n hx hb d_Md_minus_5 rfl (lv_at hl 2 rfl) ?_
    refine lv_bipush hx hb d_Md_minus_6 bp_6 ?_
    refine lv_icmp_le (tgt := 17) hx hb d_Md_minus_8 rfl (fun hc => ?_) (fun hc => ?_)
    · have h := ite_t hc h
      refine lv_aload_n hx hb d_Md_minus_17 rfl (lv_at hl 0 rfl) ?_
      refine lv_iconst hx hb d_Md_minus_18 ic_0 ?_
      refine va_put (D := D) (ci := 4) (C := R_Md) (T := T_Md) (N := 15) hx hb hT in_Md ty_Md tyok_Md nm_Md hown hK hP hD hS 0 rfl rfl 4 (by decide) (hT _ m_247) (fun _ h9 => h9) rfl (ty := .int) (by decide +kernel) rfl rfl (by decide : 4 < 15) d_Md_minus_19 (fun H locs hP hD hS => ?_)
      have hP : va_P D cls (gM cI cL cC ad X laid gone (0 : Int32) m1 m2 e1 e2 mi1 mi2 na1 na2 fa1 fa2 lets rlen rlaid rgone rthr were none_ beyo aN bN fN lN_ rN pN twos at_ rdig rpow good txt wri ra rb rfive rleft rright rpart) H := hP
      have hD : va_D A (gM cI cL cC ad X laid gone (0 : Int32) m1 m2 e1 e2 mi1 mi2 na1 na2 fa1 fa2 lets rlen rlaid rgone rthr were none_ beyo aN bN fN lN_ rN pN twos at_ rdig rpow good txt wri ra rb rfive rleft rright rpart) := hD
      refine lv_iload_n hx hb d_Md_minus_22 rfl (lv_at hl 2 rfl) ?_
      refine lv_iconst hx hb d_Md_minus_23 ic_4 ?_
      refine lv_icmp_gt (tgt := 38) hx hb d_Md_minus_24 rfl (fun hc => ?_) (fun hc => ?_)
      · have h := ite_t hc h
        refine lv_iload_n hx hb d_Md_minus_38 rfl (lv_at hl 2 rfl) ?_
        refine lv_iconst hx hb d_Md_minus_39 ic_5 ?_
        obtain ⟨x13, e_x13, h⟩ := lt_o h
        have hJ48 : ∀ (x13' : Int32) (ls : Array Slot), x13 = x13' → lv_has ls 5 [(0, .ref (ad 0)), (1, .long a1)] → W p l e ({ frames := 1, cells := 0, slots := 0, locals := 35 } : Room) s m args below meth c H locs 0 0 Q (F0 m 48 ls [.int x13']) := by
          intro x13' ls q_x13 hl
          subst q_x13
          refine lv_istore hx hb d_Md_minus_48 hl (by decide) rfl (fun ls hl => ?_)
          have hl : lv_has ls 5 [(4, .int x13), (0, .ref (ad 0)), (1, .long a1)] := hl
          refine lv_aload_n hx hb d_Md_minus_50 rfl (lv_at hl 1 rfl) ?_
          refine lv_lload_n hx hb d_Md_minus_51 rfl (lv_at hl 2 rfl) ?_
          refine lv_iload hx hb d_Md_minus_52 (lv_at hl 0 rfl) ?_
          refine lv_iconst hx hb d_Md_minus_54 ic_1 ?_
          obtain ⟨x14, e_x14, h⟩ := lt_o h
          refine q_GV (D := D) (A := A) (C := R_Md) (b := ad 0) (As := [.long a1, .int x13, .int (1 : Int32)]) (rest := []) (n := 3) hx hb hml hown hts (c_Md_apart l D A cI cL cC ad X laid gone (0 : Int32) m1 m2 e1 e2 mi1 mi2 na1 na2 fa1 fa2 lets rlen rlaid rgone rthr were none_ beyo aN bN fN lN_ rN pN twos at_ rdig rpow good txt wri ra rb rfive rleft rright rpart a1 x13 (1 : Int32) x14 e_x14.symm) rfl rfl m_267 m_268 m_269 m_270 m_130 (by decide +kernel) ⟨Nat.le_of_ble_eq_true rfl, Nat.le_of_ble_eq_true rfl⟩ (va_recv hK hP (ci := 4) rfl (q0 := 0) rfl) hNB hK hP hD hS rfl hl.1 rfl (Nat.le_of_ble_eq_true rfl) d_Md_minus_55 ⟨Nat.zero_le _, Nat.zero_le _⟩ (fun H locs hP hD hS => ?_)
          have hP : va_P D cls (gM cI cL cC ad X laid gone (0 : Int32) x14.1 x14.2.1 x14.2.2.1 x14.2.2.2.1 x14.2.2.2.2.1 x14.2.2.2.2.2.1 x14.2.2.2.2.2.2.1 x14.2.2.2.2.2.2.2.1 x14.2.2.2.2.2.2.2.2.1 x14.2.2.2.2.2.2.2.2.2 lets rlen rlaid rgone rthr were none_ beyo aN bN fN lN_ rN pN twos at_ rdig rpow good txt wri ra rb rfive rleft rright rpart) H := hP
          have hD : va_D A (gM cI cL cC ad X laid gone (0 : Int32) x14.1 x14.2.1 x14.2.2.1 x14.2.2.2.1 x14.2.2.2.2.1 x14.2.2.2.2.2.1 x14.2.2.2.2.2.2.1 x14.2.2.2.2.2.2.2.1 x14.2.2.2.2.2.2.2.2.1 x14.2.2.2.2.2.2.2.2.2 lets rlen rlaid rgone rthr were none_ beyo aN bN fN lN_ rN pN twos at_ rdig rpow good txt wri ra rb rfive rleft rright rpart) := hD
          refine lv_aload_n hx hb d_Md_minus_58 rfl (lv_at hl 1 rfl) ?_
          refine va_get (D := D) (ci := 4) (C := R_Md) (T := T_Md) (N := 15) hx hb hT in_Md hown hK hP 0 rfl rfl 11 (by decide) (hT _ m_257) (fun _ h9 => h9) rfl d_Md_minus_59 ?_
          refine lv_if_eq (tgt := 71) hx hb d_Md_minus_62 rfl (fun hc => ?_) (fun hc => ?_)
          · have h := ite_t hc h
            refine lv_iload hx hb d_Md_minus_71 (lv_at hl 0 rfl) ?_
            obtain ⟨x15, e_x15, h⟩ := lt_o h
            have hJ93 : ∀ (x15' : Int64) (ls : Array Slot), x15 = x15' → lv_has ls 5 [] → W p l e ({ frames := 1, cells := 0, slots := 0, locals := 35 } : Room) s m args below meth c H locs 0 0 Q (F0 m 93 ls [.long x15']) := by
              intro x15' ls q_x15 hl
              subst q_x15
              subst h
              exact hret 93 ls _ _ _ rfl hP hD hS d_Md_minus_93
            refine lv_if_eq (tgt := 88) hx hb d_Md_minus_73 rfl (fun hc => ?_) (fun hc => ?_)
            · have e_x15 := e_x15.trans (if_pos hc)
              refine lv_lload_n hx hb d_Md_minus_88 rfl (lv_at hl 2 rfl) ?_
              refine lv_ldc2 hx hb hown (hT _ m_123) d_Md_minus_89 ?_
              refine lv_lxor hx hb d_Md_minus_92 ?_
              exact hJ93 _ ls e_x15 (lv_sub hl [] rfl)
            · have e_x15 := e_x15.trans (if_neg hc)
              refine lv_lload_n hx hb d_Md_minus_76 rfl (lv_at hl 2 rfl) ?_
              refine lv_ldc2 hx hb hown (hT _ m_124) d_Md_minus_77 ?_
              refine lv_lxor hx hb d_Md_minus_80 ?_
              refine lv_ldc2 hx hb hown (hT _ m_248) d_Md_minus_81 ?_
              refine lv_land hx hb d_Md_minus_84 ?_
              refine lv_goto (tgt := 93) hx hb d_Md_minus_85 rfl ?_
              exact hJ93 _ ls e_x15 (lv_sub hl [] rfl)
          · have h := ite_f hc h
            refine lv_iload hx hb d_Md_minus_65 (lv_at hl 0 rfl) ?_
            refine q_S (As := [.int x13]) (rest := []) (n := 1) hx hb hml hown hts (c_Md_nan l x13) rfl rfl m_259 m_260 m_261 m_130 (by decide +kernel) ⟨Nat.le_of_ble_eq_true rfl, Nat.le_of_ble_eq_true rfl⟩ (p0_bl) (fun U hU hW => p0_mv hU hW hNB) rfl hl.1 rfl (Nat.le_of_ble_eq_true rfl) d_Md_minus_67 ⟨Nat.zero_le _, Nat.zero_le _⟩ ?_
            subst h
            exact hret 70 ls _ _ _ rfl hP hD hS d_Md_minus_70
        refine lv_icmp_ne (tgt := 47) hx hb d_Md_minus_40 rfl (fun hc => ?_) (fun hc => ?_)
        · have e_x13 := e_x13.trans (if_pos hc)
          refine lv_iconst hx hb d_Md_minus_47 ic_0 ?_
          exact hJ48 _ ls e_x13 (lv_sub hl [0, 1] rfl)
        · have hc := not_not_intro hc
          have e_x13 := e_x13.trans (if_neg hc)
          refine lv_iconst hx hb d_Md_minus_43 ic_1 ?_
          refine lv_goto (tgt := 48) hx hb d_Md_minus_44 rfl ?_
          exact hJ48 _ ls e_x13 (lv_sub hl [0, 1] rfl)
      · have h := ite_f hc h
        refine lv_lload_n hx hb d_Md_minus_27 rfl (lv_at hl 1 rfl) ?_
        refine lv_iload_n hx hb d_Md_minus_28 rfl (lv_at hl 2 rfl) ?_
        refine q_S (As := [.long a1, .int a2]) (rest := []) (n := 2) hx hb hml hown hts (c_Md_cut l a1 a2) rfl rfl m_287 m_288 m_289 m_130 (by decide +kernel) ⟨Nat.le_of_ble_eq_true rfl, Nat.le_of_ble_eq_true rfl⟩ (p0_bl) (fun U hU hW => p0_mv hU hW hNB) rfl hl.1 rfl (Nat.le_of_ble_eq_true rfl) d_Md_minus_29 ⟨Nat.zero_le _, Nat.zero_le _⟩ ?_
        refine lv_lneg hx hb d_Md_minus_32 ?_
        refine lv_iload_n hx hb d_Md_minus_33 rfl (lv_at hl 2 rfl) ?_
        refine q_S (As := [.long (-(F_Md_cut a1 a2)), .int a2]) (rest := []) (n := 2) hx hb hml hown hts (c_Md_cut l (-(F_Md_cut a1 a2)) a2) rfl rfl m_287 m_288 m_289 m_130 (by decide +kernel) ⟨Nat.le_of_ble_eq_true rfl, Nat.le_of_ble_eq_true rfl⟩ (p0_bl) (fun U hU hW => p0_mv hU hW hNB) rfl hl.1 rfl (Nat.le_of_ble_eq_true rfl) d_Md_minus_34 ⟨Nat.zero_le _, Nat.zero_le _⟩ ?_
        subst h
        exact hret 37 ls _ _ _ rfl hP hD hS d_Md_minus_37
    · have h := ite_f hc h
      exact hJ11 _ _ _ _ _ _ _ _ _ _ _ ls _ _ (lv_sub hl [0] rfl) hP hD hS h
-- Md_towards
theorem d_Md_towards_0 : decode b_Md_towards 0 = .ok (.aload_n 0, 1) := by decide +kernel
theorem d_Md_towards_1 : decode b_Md_towards 1 = .ok (.getfield 55, 3) := by decide +kernel
theorem d_Md_towards_4 : decode b_Md_towards 4 = .ok (.ifCond .eq 5, 3) := by decide +kernel
theorem d_Md_towards_7 : decode b_Md_towards 7 = .ok (.lconst 0, 1) := by decide +kernel
theorem d_Md_towards_8 : decode b_Md_towards 8 = .ok (.lreturn, 1) := by decide +kernel
theorem d_Md_towards_9 : decode b_Md_towards 9 = .ok (.iload_n 1, 1) := by decide +kernel
theorem d_Md_towards_10 : decode b_Md_towards 10 = .ok (.ifCond .eq 8, 3) := by decide +kernel
theorem d_Md_towards_13 : decode b_Md_towards 13 = .ok (.bipush 63, 2) := by decide +kernel
theorem d_Md_towards_15 : decode b_Md_towards 15 = .ok (.goto 5, 3) := by decide +kernel
theorem d_Md_towards_18 : decode b_Md_towards 18 = .ok (.bipush 31, 2) := by decide +kernel
theorem d_Md_towards_20 : decode b_Md_towards 20 = .ok (.istore_n 2, 1) := by decide +kernel
theorem d_Md_towards_21 : decode b_Md_towards 21 = .ok (.iload_n 1, 1) := by decide +kernel
theorem d_Md_towards_22 : decode b_Md_towards 22 = .ok (.ifCond .eq 9, 3) := by decide +kernel
theorem d_Md_towards_25 : decode b_Md_towards 25 = .ok (.ldc2_w 135, 3) := by decide +kernel
theorem d_Md_towards_28 : decode b_Md_towards 28 = .ok (.goto 6, 3) := by decide +kernel
theorem d_Md_towards_31 : decode b_Md_towards 31 = .ok (.ldc2_w 139, 3) := by decide +kernel
theorem d_Md_towards_34 : decode b_Md_towards 34 = .ok (.lstore_n 3, 1) := by decide +kernel
theorem d_Md_towards_35 : decode b_Md_towards 35 = .ok (.aload_n 0, 1) := by decide +kernel
theorem d_Md_towards_36 : decode b_Md_towards 36 = .ok (.getfield 58, 3) := by decide +kernel
theorem d_Md_towards_39 : decode b_Md_towards 39 = .ok (.ifCond .ne 28, 3) := by decide +kernel
theorem d_Md_towards_42 : decode b_Md_towards 42 = .ok (.aload_n 0, 1) := by decide +kernel
theorem d_Md_towards_43 : decode b_Md_towards 43 = .ok (.getfield 44, 3) := by decide +kernel
theorem d_Md_towards_46 : decode b_Md_towards 46 = .ok (.lconst 0, 1) := by decide +kernel
theorem d_Md_towards_47 : decode b_Md_towards 47 = .ok (.lcmp, 1) := by decide +kernel
theorem d_Md_towards_48 : decode b_Md_towards 48 = .ok (.ifCond .eq 35, 3) := by decide +kernel
theorem d_Md_towards_51 : decode b_Md_towards 51 = .ok (.aload_n 0, 1) := by decide +kernel
theorem d_Md_towards_52 : decode b_Md_towards 52 = .ok (.getfield 44, 3) := by decide +kernel
theorem d_Md_towards_55 : decode b_Md_towards 55 = .ok (.invokestatic 76, 3) := by decide +kernel
theorem d_Md_towards_58 : decode b_Md_towards 58 = .ok (.aload_n 0, 1) := by decide +kernel
theorem d_Md_towards_59 : decode b_Md_towards 59 = .ok (.getfield 48, 3) := by decide +kernel
theorem d_Md_towards_62 : decode b_Md_towards 62 = .ok (.iadd, 1) := by decide +kernel
theorem d_Md_towards_63 : decode b_Md_towards 63 = .ok (.iload_n 2, 1) := by decide +kernel
theorem d_Md_towards_64 : decode b_Md_towards 64 = .ok (.if_icmp .le 19, 3) := by decide +kernel
theorem d_Md_towards_67 : decode b_Md_towards 67 = .ok (.aload_n 0, 1) := by decide +kernel
theorem d_Md_towards_68 : decode b_Md_towards 68 = .ok (.getfield 51, 3) := by decide +kernel
theorem d_Md_towards_71 : decode b_Md_towards 71 = .ok (.ifCond .eq 10, 3) := by decide +kernel
theorem d_Md_towards_74 : decode b_Md_towards 74 = .ok (.lload_n 3, 1) := by decide +kernel
theorem d_Md_towards_75 : decode b_Md_towards 75 = .ok (.lneg, 1) := by decide +kernel
theorem d_Md_towards_76 : decode b_Md_towards 76 = .ok (.lconst 1, 1) := by decide +kernel
theorem d_Md_towards_77 : decode b_Md_towards 77 = .ok (.lsub, 1) := by decide +kernel
theorem d_Md_towards_78 : decode b_Md_towards 78 = .ok (.goto 4, 3) := by decide +kernel
theorem d_Md_towards_81 : decode b_Md_towards 81 = .ok (.lload_n 3, 1) := by decide +kernel
theorem d_Md_towards_82 : decode b_Md_towards 82 = .ok (.lreturn, 1) := by decide +kernel
theorem d_Md_towards_83 : decode b_Md_towards 83 = .ok (.aload_n 0, 1) := by decide +kernel
theorem d_Md_towards_84 : decode b_Md_towards 84 = .ok (.getfield 48, 3) := by decide +kernel
theorem d_Md_towards_87 : decode b_Md_towards 87 = .ok (.ifCond .lt 15, 3) := by decide +kernel
theorem d_Md_towards_90 : decode b_Md_towards 90 = .ok (.aload_n 0, 1) := by decide +kernel
theorem d_Md_towards_91 : decode b_Md_towards 91 = .ok (.getfield 44, 3) := by decide +kernel
theorem d_Md_towards_94 : decode b_Md_towards 94 = .ok (.aload_n 0, 1) := by decide +kernel
theorem d_Md_towards_95 : decode b_Md_towards 95 = .ok (.getfield 48, 3) := by decide +kernel
theorem d_Md_towards_98 : decode b_Md_towards 98 = .ok (.lshl, 1) := by decide +kernel
theorem d_Md_towards_99 : decode b_Md_towards 99 = .ok (.goto 26, 3) := by decide +kernel
theorem d_Md_towards_102 : decode b_Md_towards 102 = .ok (.aload_n 0, 1) := by decide +kernel
theorem d_Md_towards_103 : decode b_Md_towards 103 = .ok (.getfield 48, 3) := by decide +kernel
theorem d_Md_towards_106 : decode b_Md_towards 106 = .ok (.bipush (-60), 2) := by decide +kernel
theorem d_Md_towards_108 : decode b_Md_towards 108 = .ok (.if_icmp .ge 7, 3) := by decide +kernel
theorem d_Md_towards_111 : decode b_Md_towards 111 = .ok (.lconst 0, 1) := by decide +kernel
theorem d_Md_towards_112 : decode b_Md_towards 112 = .ok (.goto 13, 3) := by decide +kernel
theorem d_Md_towards_115 : decode b_Md_towards 115 = .ok (.aload_n 0, 1) := by decide +kernel
theorem d_Md_towards_116 : decode b_Md_towards 116 = .ok (.getfield 44, 3) := by decide +kernel
theorem d_Md_towards_119 : decode b_Md_towards 119 = .ok (.aload_n 0, 1) := by decide +kernel
theorem d_Md_towards_120 : decode b_Md_towards 120 = .ok (.getfield 48, 3) := by decide +kernel
theorem d_Md_towards_123 : decode b_Md_towards 123 = .ok (.ineg, 1) := by decide +kernel
theorem d_Md_towards_124 : decode b_Md_towards 124 = .ok (.lshr, 1) := by decide +kernel
theorem d_Md_towards_125 : decode b_Md_towards 125 = .ok (.lstore 5, 2) := by decide +kernel
theorem d_Md_towards_127 : decode b_Md_towards 127 = .ok (.aload_n 0, 1) := by decide +kernel
theorem d_Md_towards_128 : decode b_Md_towards 128 = .ok (.getfield 51, 3) := by decide +kernel
theorem d_Md_towards_131 : decode b_Md_towards 131 = .ok (.ifCond .eq 9, 3) := by decide +kernel
theorem d_Md_towards_134 : decode b_Md_towards 134 = .ok (.lload 5, 2) := by decide +kernel
theorem d_Md_towards_136 : decode b_Md_towards 136 = .ok (.lneg, 1) := by decide +kernel
theorem d_Md_towards_137 : decode b_Md_towards 137 = .ok (.goto 5, 3) := by decide +kernel
theorem d_Md_towards_140 : decode b_Md_towards 140 = .ok (.lload 5, 2) := by decide +kernel
theorem d_Md_towards_142 : decode b_Md_towards 142 = .ok (.lreturn, 1) := by decide +kernel
def F_Md_towards (n : Nat) (m1 : Int64) (e1 : Int32) (mi1 : Int32) (na1 : Int32) (fa1 : Int32) (a1 : Int32) : Option (Int64) := if na1 = 0 then (lt_ (if a1 = 0 then (31 : Int32) else (63 : Int32)) fun x1 => lt_ (if a1 = 0 then (2147483647 : Int64) else (9223372036854775807 : Int64)) fun x2 => lt_ (fun (_ : Unit) => lt_ (if mi1 = 0 then x2 else (-x2) - (1 : Int64)) fun x3 => some x3) fun j67 => if ¬ fa1 = 0 then (j67 ()) else (lt_ (fun (_ : Unit) => lt_ (if e1 < 0 then if (-60 : Int32) ≤ e1 then m1 >>> ((-e1).toInt64 &&& 63) else (0 : Int64) else m1 <<< ((e1).toInt64 &&& 63)) fun x4 => lt_ (if mi1 = 0 then x4 else -x4) fun x5 => some x5) fun j83 => if m1 = (0 : Int64) then (j83 ()) else ((F_Md_length n m1).bind fun x6 => if (x6 + e1) ≤ x1 then (j83 ()) else (j67 ())))) else (some (0 : Int64))
set_option maxHeartbeats 4000000 in
set_option maxRecDepth 100000 in
theorem c_Md_towards (l : Launch) (D : va_G) (A : Nat → Prop) (cI cL cC : ClassId) (ad : Nat → Nat) (X : va_W) (laid : Int32) (gone : Int32) (thr : Int32) (m1 : Int64) (m2 : Int64) (e1 : Int32) (e2 : Int32) (mi1 : Int32) (mi2 : Int32) (na1 : Int32) (na2 : Int32) (fa1 : Int32) (fa2 : Int32) (lets : Nat → Int32) (rlen : Int32) (rlaid : Int32) (rgone : Int32) (rthr : Int32) (were : Int32) (none_ : Int32) (beyo : Int32) (aN : Int32) (bN : Int32) (fN : Int32) (lN_ : Int32) (rN : Int32) (pN : Int32) (twos : Int32) (at_ : Int32) (rdig : Int32) (rpow : Int32) (good : Int32) (txt : Nat → Int32) (wri : Nat → Int32) (ra : Nat → Int32) (rb : Nat → Int32) (rfive : Nat → Int32) (rleft : Nat → Int32) (rright : Nat → Int32) (rpart : Nat → Int32) (n : Nat) (a1 : Int32) (r : Int64) (h : F_Md_towards n m1 e1 mi1 na1 fa1 a1 = some r) : Met l y_Md_towards (.code y_Md_towards b_Md_towards 7 (some .long) :: BIG) ({ frames := 1, cells := 0, slots := 0, locals := 24 } : Room) (va_Pc [.ref (ad 0), .int a1] (gPre D A (tysV cI cL cC) (gM cI cL cC ad X laid gone thr m1 m2 e1 e2 mi1 mi2 na1 na2 fa1 fa2 lets rlen rlaid rgone rthr were none_ beyo aN bN fN lN_ rN pN twos at_ rdig rpow good txt wri ra rb rfive rleft rright rpart))) (gQ D A (some (.long r)) (gM cI cL cC ad X laid gone thr m1 m2 e1 e2 mi1 mi2 na1 na2 fa1 fa2 lets rlen rlaid rgone rthr were none_ beyo aN bN fN lN_ rN pN twos at_ rdig rpow good txt wri ra rb rfive rleft rright rpart)) 0 0 A := by
  refine gOpen_l rfl (Nat.le_of_ble_eq_true rfl) ?_
  intro p e s m args below meth c Q ls hx hb hml hown hts hT hNB hP hK hD hl hret
  have hown : s.vm.findClass R_Md = some m.cls := hown
  have hS : va_S A s.heap s.heap [] := va_S.rf
  have hl : lv_has ls 7 [(0, .ref (ad 0)), (1, .int a1)] := hl
  have h : (if na1 = 0 then (lt_ (if a1 = 0 then (31 : Int32) else (63 : Int32)) fun x1 => lt_ (if a1 = 0 then (2147483647 : Int64) else (9223372036854775807 : Int64)) fun x2 => lt_ (fun (_ : Unit) => lt_ (if mi1 = 0 then x2 else (-x2) - (1 : Int64)) fun x3 => some x3) fun j67 => if ¬ fa1 = 0 then (j67 ()) else (lt_ (fun (_ : Unit) => lt_ (if e1 < 0 then if (-60 : Int32) ≤ e1 then m1 >>> ((-e1).toInt64 &&& 63) else (0 : Int64) else m1 <<< ((e1).toInt64 &&& 63)) fun x4 => lt_ (if mi1 = 0 then x4 else -x4) fun x5 => some x5) fun j83 => if m1 = (0 : Int64) then (j83 ()) else ((F_Md_length n m1).bind fun x6 => if (x6 + e1) ≤ x1 then (j83 ()) else (j67 ())))) else (some (0 : Int64))) = some r := h
  refine lv_aload_n hx hb d_Md_towards_0 rfl (lv_at hl 0 rfl) ?_
  refine va_get (D := D) (ci := 4) (C := R_Md) (T := T_Md) (N := 15) hx hb hT in_Md hown hK hP 0 rfl rfl 11 (by decide) (hT _ m_257) (fun _ h9 => h9) rfl d_Md_towards_1 ?_
  refine lv_if_eq (tgt := 9) hx hb d_Md_towards_4 rfl (fun hc => ?_) (fun hc => ?_)
  · have h := ite_t hc h
    refine lv_iload_n hx hb d_Md_towards_9 rfl (lv_at hl 1 rfl) ?_
    obtain ⟨x1, e_x1, h⟩ := lt_o h
    have hJ20 : ∀ (x1' : Int32) (ls : Array Slot), x1 = x1' → lv_has ls 7 [(0, .ref (ad 0)), (1, .int a1)] → W p l e ({ frames := 1, cells := 0, slots := 0, locals := 24 } : Room) s m args below meth c s.heap [] 0 0 Q (F0 m 20 ls [.int x1']) := by
      intro x1' ls q_x1 hl
      subst q_x1
      refine lv_istore_n hx hb d_Md_towards_20 rfl hl (by decide) rfl (fun ls hl => ?_)
      have hl : lv_has ls 7 [(2, .int x1), (0, .ref (ad 0)), (1, .int a1)] := hl
      refine lv_iload_n hx hb d_Md_towards_21 rfl (lv_at hl 2 rfl) ?_
      obtain ⟨x2, e_x2, h⟩ := lt_o h
      have hJ34 : ∀ (x2' : Int64) (ls : Array Slot), x2 = x2' → lv_has ls 7 [(0, .ref (ad 0)), (2, .int x1)] → W p l e ({ frames := 1, cells := 0, slots := 0, locals := 24 } : Room) s m args below meth c s.heap [] 0 0 Q (F0 m 34 ls [.long x2']) := by
        intro x2' ls q_x2 hl
        subst q_x2
        refine lv_lstore_n hx hb d_Md_towards_34 rfl hl (by decide) rfl (fun ls hl => ?_)
        have hl : lv_has ls 7 [(3, .long x2), (0, .ref (ad 0)), (2, .int x1)] := hl
        refine lv_aload_n hx hb d_Md_towards_35 rfl (lv_at hl 1 rfl) ?_
        refine va_get (D := D) (ci := 4) (C := R_Md) (T := T_Md) (N := 15) hx hb hT in_Md hown hK hP 0 rfl rfl 13 (by decide) (hT _ m_258) (fun _ h9 => h9) rfl d_Md_towards_36 ?_
        obtain ⟨j67, e_j67, h⟩ := lt_o h
        have hJ67 : ∀ (ls : Array Slot) (H : Heap) (locs : List Loc), lv_has ls 7 [(0, .ref (ad 0)), (3, .long x2)] → va_P D cls (gM cI cL cC ad X laid gone thr m1 m2 e1 e2 mi1 mi2 na1 na2 fa1 fa2 lets rlen rlaid rgone rthr were none_ beyo aN bN fN lN_ rN pN twos at_ rdig rpow good txt wri ra rb rfive rleft rright rpart) H → va_D A (gM cI cL cC ad X laid gone thr m1 m2 e1 e2 mi1 mi2 na1 na2 fa1 fa2 lets rlen rlaid rgone rthr were none_ beyo aN bN fN lN_ rN pN twos at_ rdig rpow good txt wri ra rb rfive rleft rright rpart) → va_S A s.heap H locs → j67 () = some r → W p l e ({ frames := 1, cells := 0, slots := 0, locals := 24 } : Room) s m args below meth c H locs 0 0 Q (F0 m 67 ls []) := by
          intro  ls H locs hl hP hD hS h
          rw [e_j67] at h
          refine lv_aload_n hx hb d_Md_towards_67 rfl (lv_at hl 0 rfl) ?_
          refine va_get (D := D) (ci := 4) (C := R_Md) (T := T_Md) (N := 15) hx hb hT in_Md hown hK hP 0 rfl rfl 9 (by decide) (hT _ m_256) (fun _ h9 => h9) rfl d_Md_towards_68 ?_
          obtain ⟨x3, e_x3, h⟩ := lt_o h
          have hJ82 : ∀ (x3' : Int64) (ls : Array Slot), x3 = x3' → lv_has ls 7 [] → W p l e ({ frames := 1, cells := 0, slots := 0, locals := 24 } : Room) s m args below meth c H locs 0 0 Q (F0 m 82 ls [.long x3']) := by
            intro x3' ls q_x3 hl
            subst q_x3
            obtain rfl := Option.some.inj h
            exact hret 82 ls _ _ _ rfl hP hD hS d_Md_towards_82
          refine lv_if_eq (tgt := 81) hx hb d_Md_towards_71 rfl (fun hc => ?_) (fun hc => ?_)
          · have e_x3 := e_x3.trans (if_pos hc)
            refine lv_lload_n hx hb d_Md_towards_81 rfl (lv_at hl 1 rfl) ?_
            exact hJ82 _ ls e_x3 (lv_sub hl [] rfl)
          · have e_x3 := e_x3.trans (if_neg hc)
            refine lv_lload_n hx hb d_Md_towards_74 rfl (lv_at hl 1 rfl) ?_
            refine lv_lneg hx hb d_Md_towards_75 ?_
            refine lv_lconst hx hb d_Md_towards_76 lc_1 ?_
            refine lv_lsub hx hb d_Md_towards_77 ?_
            refine lv_goto (tgt := 82) hx hb d_Md_towards_78 rfl ?_
            exact hJ82 _ ls e_x3 (lv_sub hl [] rfl)
        refine lv_if_ne (tgt := 67) hx hb d_Md_towards_39 rfl (fun hc => ?_) (fun hc => ?_)
        · have h := ite_t hc h
          exact hJ67 ls _ _ (lv_sub hl [1, 0] rfl) hP hD hS h
        · have hc := not_not_intro hc
          have h := ite_f hc h
          refine lv_aload_n hx hb d_Md_towards_42 rfl (lv_at hl 1 rfl) ?_
          refine va_get (D := D) (ci := 4) (C := R_Md) (T := T_Md) (N := 15) hx hb hT in_Md hown hK hP 0 rfl rfl 5 (by decide) (hT _ m_254) (fun _ h9 => h9) rfl d_Md_towards_43 ?_
          refine lv_lconst hx hb d_Md_towards_46 lc_0 ?_
          refine W.lcmp hx hb d_Md_towards_47 ?_
          obtain ⟨j83, e_j83, h⟩ := lt_o h
          have hJ83 : ∀ (ls : Array Slot) (H : Heap) (locs : List Loc), lv_has ls 7 [(0, .ref (ad 0))] → va_P D cls (gM cI cL cC ad X laid gone thr m1 m2 e1 e2 mi1 mi2 na1 na2 fa1 fa2 lets rlen rlaid rgone rthr were none_ beyo aN bN fN lN_ rN pN twos at_ rdig rpow good txt wri ra rb rfive rleft rright rpart) H → va_D A (gM cI cL cC ad X laid gone thr m1 m2 e1 e2 mi1 mi2 na1 na2 fa1 fa2 lets rlen rlaid rgone rthr were none_ beyo aN bN fN lN_ rN pN twos at_ rdig rpow good txt wri ra rb rfive rleft rright rpart) → va_S A s.heap H locs → j83 () = some r → W p l e ({ frames := 1, cells := 0, slots := 0, locals := 24 } : Room) s m args below meth c H locs 0 0 Q (F0 m 83 ls []) := by
            intro  ls H locs hl hP hD hS h
            rw [e_j83] at h
            refine lv_aload_n hx hb d_Md_towards_83 rfl (lv_at hl 0 rfl) ?_
            refine va_get (D := D) (ci := 4) (C := R_Md) (T := T_Md) (N := 15) hx hb hT in_Md hown hK hP 0 rfl rfl 7 (by decide) (hT _ m_255) (fun _ h9 => h9) rfl d_Md_towards_84 ?_
            obtain ⟨x4, e_x4, h⟩ := lt_o h
            have hJ125 : ∀ (x4' : Int64) (ls : Array Slot), x4 = x4' → lv_has ls 7 [(0, .ref (ad 0))] → W p l e ({ frames := 1, cells := 0, slots := 0, locals := 24 } : Room) s m args below meth c H locs 0 0 Q (F0 m 125 ls [.long x4']) := by
              intro x4' ls q_x4 hl
              subst q_x4
              refine lv_lstore hx hb d_Md_towards_125 hl (by decide) rfl (fun ls hl => ?_)
              have hl : lv_has ls 7 [(5, .long x4), (0, .ref (ad 0))] := hl
              refine lv_aload_n hx hb d_Md_towards_127 rfl (lv_at hl 1 rfl) ?_
              refine va_get (D := D) (ci := 4) (C := R_Md) (T := T_Md) (N := 15) hx hb hT in_Md hown hK hP 0 rfl rfl 9 (by decide) (hT _ m_256) (fun _ h9 => h9) rfl d_Md_towards_128 ?_
              obtain ⟨x5, e_x5, h⟩ := lt_o h
              have hJ142 : ∀ (x5' : Int64) (ls : Array Slot), x5 = x5' → lv_has ls 7 [] → W p l e ({ frames := 1, cells := 0, slots := 0, locals := 24 } : Room) s m args below meth c H locs 0 0 Q (F0 m 142 ls [.long x5']) := by
                intro x5' ls q_x5 hl
                subst q_x5
                obtain rfl := Option.some.inj h
                exact hret 142 ls _ _ _ rfl hP hD hS d_Md_towards_142
              refine lv_if_eq (tgt := 140) hx hb d_Md_towards_131 rfl (fun hc => ?_) (fun hc => ?_)
              · have e_x5 := e_x5.trans (if_pos hc)
                refine lv_lload hx hb d_Md_towards_140 (lv_at hl 0 rfl) ?_
                exact hJ142 _ ls e_x5 (lv_sub hl [] rfl)
              · have e_x5 := e_x5.trans (if_neg hc)
                refine lv_lload hx hb d_Md_towards_134 (lv_at hl 0 rfl) ?_
                refine lv_lneg hx hb d_Md_towards_136 ?_
                refine lv_goto (tgt := 142) hx hb d_Md_towards_137 rfl ?_
                exact hJ142 _ ls e_x5 (lv_sub hl [] rfl)
            refine lv_if_lt (tgt := 102) hx hb d_Md_towards_87 rfl (fun hc => ?_) (fun hc => ?_)
            · have e_x4 := e_x4.trans (if_pos hc)
              refine lv_aload_n hx hb d_Md_towards_102 rfl (lv_at hl 0 rfl) ?_
              refine va_get (D := D) (ci := 4) (C := R_Md) (T := T_Md) (N := 15) hx hb hT in_Md hown hK hP 0 rfl rfl 7 (by decide) (hT _ m_255) (fun _ h9 => h9) rfl d_Md_towards_103 ?_
              refine lv_bipush hx hb d_Md_towards_106 bp_m60 ?_
              refine lv_icmp_ge (tgt := 115) hx hb d_Md_towards_108 rfl (fun hc => ?_) (fun hc => ?_)
              · have e_x4 := e_x4.trans (if_pos hc)
                refine lv_aload_n hx hb d_Md_towards_115 rfl (lv_at hl 0 rfl) ?_
                refine va_get (D := D) (ci := 4) (C := R_Md) (T := T_Md) (N := 15) hx hb hT in_Md hown hK hP 0 rfl rfl 5 (by decide) (hT _ m_254) (fun _ h9 => h9) rfl d_Md_towards_116 ?_
                refine lv_aload_n hx hb d_Md_towards_119 rfl (lv_at hl 0 rfl) ?_
                refine va_get (D := D) (ci := 4) (C := R_Md) (T := T_Md) (N := 15) hx hb hT in_Md hown hK hP 0 rfl rfl 7 (by decide) (hT _ m_255) (fun _ h9 => h9) rfl d_Md_towards_120 ?_
                refine lv_ineg hx hb d_Md_towards_123 ?_
                refine lv_lshr hx hb d_Md_towards_124 rfl ?_
                exact hJ125 _ ls e_x4 (lv_sub hl [0] rfl)
              · have e_x4 := e_x4.trans (if_neg hc)
                refine lv_lconst hx hb d_Md_towards_111 lc_0 ?_
                refine lv_goto (tgt := 125) hx hb d_Md_towards_112 rfl ?_
                exact hJ125 _ ls e_x4 (lv_sub hl [0] rfl)
            · have e_x4 := e_x4.trans (if_neg hc)
              refine lv_aload_n hx hb d_Md_towards_90 rfl (lv_at hl 0 rfl) ?_
              refine va_get (D := D) (ci := 4) (C := R_Md) (T := T_Md) (N := 15) hx hb hT in_Md hown hK hP 0 rfl rfl 5 (by decide) (hT _ m_254) (fun _ h9 => h9) rfl d_Md_towards_91 ?_
              refine lv_aload_n hx hb d_Md_towards_94 rfl (lv_at hl 0 rfl) ?_
              refine va_get (D := D) (ci := 4) (C := R_Md) (T := T_Md) (N := 15) hx hb hT in_Md hown hK hP 0 rfl rfl 7 (by decide) (hT _ m_255) (fun _ h9 => h9) rfl d_Md_towards_95 ?_
              refine lv_lshl hx hb d_Md_towards_98 rfl ?_
              refine lv_goto (tgt := 125) hx hb d_Md_towards_99 rfl ?_
              exact hJ125 _ ls e_x4 (lv_sub hl [0] rfl)
          refine lv_if_eq (tgt := 83) hx hb d_Md_towards_48 rfl (fun hc => ?_) (fun hc => ?_)
          · have hc := (lg_cmp_eq _ _).mp hc
            have h := ite_t hc h
            exact hJ83 ls _ _ (lv_sub hl [1] rfl) hP hD hS h
          · have hc := mt (lg_cmp_eq _ _).mpr hc
            have h := ite_f hc h
            refine lv_aload_n hx hb d_Md_towards_51 rfl (lv_at hl 1 rfl) ?_
            refine va_get (D := D) (ci := 4) (C := R_Md) (T := T_Md) (N := 15) hx hb hT in_Md hown hK hP 0 rfl rfl 5 (by decide) (hT _ m_254) (fun _ h9 => h9) rfl d_Md_towards_52 ?_
            obtain ⟨x6, e_x6, h⟩ := bd_o h
            refine q_S (As := [.long m1]) (rest := []) (n := 1) hx hb hml hown hts (c_Md_length l n m1 _ e_x6) rfl rfl m_131 m_132 m_133 m_130 (by decide +kernel) ⟨Nat.le_of_ble_eq_true rfl, Nat.le_of_ble_eq_true rfl⟩ (p0_bl) (fun U hU hW => p0_mv hU hW hNB) rfl hl.1 rfl (Nat.le_of_ble_eq_true rfl) d_Md_towards_55 ⟨Nat.zero_le _, Nat.zero_le _⟩ ?_
            refine lv_aload_n hx hb d_Md_towards_58 rfl (lv_at hl 1 rfl) ?_
            refine va_get (D := D) (ci := 4) (C := R_Md) (T := T_Md) (N := 15) hx hb hT in_Md hown hK hP 0 rfl rfl 7 (by decide) (hT _ m_255) (fun _ h9 => h9) rfl d_Md_towards_59 ?_
            refine lv_iadd hx hb d_Md_towards_62 ?_
            refine lv_iload_n hx hb d_Md_towards_63 rfl (lv_at hl 2 rfl) ?_
            refine lv_icmp_le (tgt := 83) hx hb d_Md_towards_64 rfl (fun hc => ?_) (fun hc => ?_)
            · have h := ite_t hc h
              exact hJ83 ls _ _ (lv_sub hl [1] rfl) hP hD hS h
            · have h := ite_f hc h
              exact hJ67 ls _ _ (lv_sub hl [1, 0] rfl) hP hD hS h
      refine lv_if_eq (tgt := 31) hx hb d_Md_towards_22 rfl (fun hc => ?_) (fun hc => ?_)
      · have e_x2 := e_x2.trans (if_pos hc)
        refine lv_ldc2 hx hb hown (hT _ m_302) d_Md_towards_31 ?_
        exact hJ34 _ ls e_x2 (lv_sub hl [1, 0] rfl)
      · have e_x2 := e_x2.trans (if_neg hc)
        refine lv_ldc2 hx hb hown (hT _ m_303) d_Md_towards_25 ?_
        refine lv_goto (tgt := 34) hx hb d_Md_towards_28 rfl ?_
        exact hJ34 _ ls e_x2 (lv_sub hl [1, 0] rfl)
    refine lv_if_eq (tgt := 18) hx hb d_Md_towards_10 rfl (fun hc => ?_) (fun hc => ?_)
    · have e_x1 := e_x1.trans (if_pos hc)
      refine lv_bipush hx hb d_Md_towards_18 bp_31 ?_
      exact hJ20 _ ls e_x1 (lv_sub hl [0, 1] rfl)
    · have e_x1 := e_x1.trans (if_neg hc)
      refine lv_bipush hx hb d_Md_towards_13 bp_63 ?_
      refine lv_goto (tgt := 20) hx hb d_Md_towards_15 rfl ?_
      exact hJ20 _ ls e_x1 (lv_sub hl [0, 1] rfl)
  · have h := ite_f hc h
    refine lv_lconst hx hb d_Md_towards_7 lc_0 ?_
    obtain rfl := Option.some.inj h
    exact hret 8 ls _ _ _ rfl hP hD hS d_Md_towards_8
-- Md_cast
theorem d_Md_cast_0 : decode b_Md_cast 0 = .ok (.iload_n 3, 1) := by decide +kernel
theorem d_Md_cast_1 : decode b_Md_cast 1 = .ok (.ifCond .lt 21, 3) := by decide +kernel
theorem d_Md_cast_4 : decode b_Md_cast 4 = .ok (.iload_n 3, 1) := by decide +kernel
theorem d_Md_cast_5 : decode b_Md_cast 5 = .ok (.bipush 6, 2) := by decide +kernel
theorem d_Md_cast_7 : decode b_Md_cast 7 = .ok (.if_icmp .gt 15, 3) := by decide +kernel
theorem d_Md_cast_10 : decode b_Md_cast 10 = .ok (.iload 4, 2) := by decide +kernel
theorem d_Md_cast_12 : decode b_Md_cast 12 = .ok (.ifCond .lt 10, 3) := by decide +kernel
theorem d_Md_cast_15 : decode b_Md_cast 15 = .ok (.iload 4, 2) := by decide +kernel
theorem d_Md_cast_17 : decode b_Md_cast 17 = .ok (.bipush 6, 2) := by decide +kernel
theorem d_Md_cast_19 : decode b_Md_cast 19 = .ok (.if_icmp .le 9, 3) := by decide +kernel
theorem d_Md_cast_22 : decode b_Md_cast 22 = .ok (.aload_n 0, 1) := by decide +kernel
theorem d_Md_cast_23 : decode b_Md_cast 23 = .ok (.iconst 1, 1) := by decide +kernel
theorem d_Md_cast_24 : decode b_Md_cast 24 = .ok (.invokevirtual 123, 3) := by decide +kernel
theorem d_Md_cast_27 : decode b_Md_cast 27 = .ok (.lreturn, 1) := by decide +kernel
theorem d_Md_cast_28 : decode b_Md_cast 28 = .ok (.aload_n 0, 1) := by decide +kernel
theorem d_Md_cast_29 : decode b_Md_cast 29 = .ok (.iconst 0, 1) := by decide +kernel
theorem d_Md_cast_30 : decode b_Md_cast 30 = .ok (.putfield 20, 3) := by decide +kernel
theorem d_Md_cast_33 : decode b_Md_cast 33 = .ok (.iload_n 3, 1) := by decide +kernel
theorem d_Md_cast_34 : decode b_Md_cast 34 = .ok (.iconst 4, 1) := by decide +kernel
theorem d_Md_cast_35 : decode b_Md_cast 35 = .ok (.if_icmp .gt 104, 3) := by decide +kernel
theorem d_Md_cast_38 : decode b_Md_cast 38 = .ok (.lload_n 1, 1) := by decide +kernel
theorem d_Md_cast_39 : decode b_Md_cast 39 = .ok (.iload_n 3, 1) := by decide +kernel
theorem d_Md_cast_40 : decode b_Md_cast 40 = .ok (.invokestatic 119, 3) := by decide +kernel
theorem d_Md_cast_43 : decode b_Md_cast 43 = .ok (.lstore 5, 2) := by decide +kernel
theorem d_Md_cast_45 : decode b_Md_cast 45 = .ok (.iload 4, 2) := by decide +kernel
theorem d_Md_cast_47 : decode b_Md_cast 47 = .ok (.iconst 4, 1) := by decide +kernel
theorem d_Md_cast_48 : decode b_Md_cast 48 = .ok (.if_icmp .gt 11, 3) := by decide +kernel
theorem d_Md_cast_51 : decode b_Md_cast 51 = .ok (.lload 5, 2) := by decide +kernel
theorem d_Md_cast_53 : decode b_Md_cast 53 = .ok (.iload 4, 2) := by decide +kernel
theorem d_Md_cast_55 : decode b_Md_cast 55 = .ok (.invokestatic 119, 3) := by decide +kernel
theorem d_Md_cast_58 : decode b_Md_cast 58 = .ok (.lreturn, 1) := by decide +kernel
theorem d_Md_cast_59 : decode b_Md_cast 59 = .ok (.iload 4, 2) := by decide +kernel
theorem d_Md_cast_61 : decode b_Md_cast 61 = .ok (.iconst 5, 1) := by decide +kernel
theorem d_Md_cast_62 : decode b_Md_cast 62 = .ok (.if_icmp .ne 7, 3) := by decide +kernel
theorem d_Md_cast_65 : decode b_Md_cast 65 = .ok (.iconst 1, 1) := by decide +kernel
theorem d_Md_cast_66 : decode b_Md_cast 66 = .ok (.goto 4, 3) := by decide +kernel
theorem d_Md_cast_69 : decode b_Md_cast 69 = .ok (.iconst 0, 1) := by decide +kernel
theorem d_Md_cast_70 : decode b_Md_cast 70 = .ok (.istore 7, 2) := by decide +kernel
theorem d_Md_cast_72 : decode b_Md_cast 72 = .ok (.lload 5, 2) := by decide +kernel
theorem d_Md_cast_74 : decode b_Md_cast 74 = .ok (.ldc2_w 40, 3) := by decide +kernel
theorem d_Md_cast_77 : decode b_Md_cast 77 = .ok (.lcmp, 1) := by decide +kernel
theorem d_Md_cast_78 : decode b_Md_cast 78 = .ok (.ifCond .ne 15, 3) := by decide +kernel
theorem d_Md_cast_81 : decode b_Md_cast 81 = .ok (.iconst 1, 1) := by decide +kernel
theorem d_Md_cast_82 : decode b_Md_cast 82 = .ok (.ldc2_w 141, 3) := by decide +kernel
theorem d_Md_cast_85 : decode b_Md_cast 85 = .ok (.iconst 1, 1) := by decide +kernel
theorem d_Md_cast_86 : decode b_Md_cast 86 = .ok (.iconst 0, 1) := by decide +kernel
theorem d_Md_cast_87 : decode b_Md_cast 87 = .ok (.iload 7, 2) := by decide +kernel
theorem d_Md_cast_89 : decode b_Md_cast 89 = .ok (.invokestatic 93, 3) := by decide +kernel
theorem d_Md_cast_92 : decode b_Md_cast 92 = .ok (.lreturn, 1) := by decide +kernel
theorem d_Md_cast_93 : decode b_Md_cast 93 = .ok (.lload 5, 2) := by decide +kernel
theorem d_Md_cast_95 : decode b_Md_cast 95 = .ok (.lconst 0, 1) := by decide +kernel
theorem d_Md_cast_96 : decode b_Md_cast 96 = .ok (.lcmp, 1) := by decide +kernel
theorem d_Md_cast_97 : decode b_Md_cast 97 = .ok (.ifCond .ne 7, 3) := by decide +kernel
theorem d_Md_cast_100 : decode b_Md_cast 100 = .ok (.lconst 0, 1) := by decide +kernel
theorem d_Md_cast_101 : decode b_Md_cast 101 = .ok (.goto 37, 3) := by decide +kernel
theorem d_Md_cast_104 : decode b_Md_cast 104 = .ok (.lload 5, 2) := by decide +kernel
theorem d_Md_cast_106 : decode b_Md_cast 106 = .ok (.lconst 0, 1) := by decide +kernel
theorem d_Md_cast_107 : decode b_Md_cast 107 = .ok (.lcmp, 1) := by decide +kernel
theorem d_Md_cast_108 : decode b_Md_cast 108 = .ok (.ifCond .ge 7, 3) := by decide +kernel
theorem d_Md_cast_111 : decode b_Md_cast 111 = .ok (.iconst 1, 1) := by decide +kernel
theorem d_Md_cast_112 : decode b_Md_cast 112 = .ok (.goto 4, 3) := by decide +kernel
theorem d_Md_cast_115 : decode b_Md_cast 115 = .ok (.iconst 0, 1) := by decide +kernel
theorem d_Md_cast_116 : decode b_Md_cast 116 = .ok (.lload 5, 2) := by decide +kernel
theorem d_Md_cast_118 : decode b_Md_cast 118 = .ok (.lconst 0, 1) := by decide +kernel
theorem d_Md_cast_119 : decode b_Md_cast 119 = .ok (.lcmp, 1) := by decide +kernel
theorem d_Md_cast_120 : decode b_Md_cast 120 = .ok (.ifCond .ge 9, 3) := by decide +kernel
theorem d_Md_cast_123 : decode b_Md_cast 123 = .ok (.lload 5, 2) := by decide +kernel
theorem d_Md_cast_125 : decode b_Md_cast 125 = .ok (.lneg, 1) := by decide +kernel
theorem d_Md_cast_126 : decode b_Md_cast 126 = .ok (.goto 5, 3) := by decide +kernel
theorem d_Md_cast_129 : decode b_Md_cast 129 = .ok (.lload 5, 2) := by decide +kernel
theorem d_Md_cast_131 : decode b_Md_cast 131 = .ok (.iconst 0, 1) := by decide +kernel
theorem d_Md_cast_132 : decode b_Md_cast 132 = .ok (.iconst 0, 1) := by decide +kernel
theorem d_Md_cast_133 : decode b_Md_cast 133 = .ok (.iload 7, 2) := by decide +kernel
theorem d_Md_cast_135 : decode b_Md_cast 135 = .ok (.invokestatic 93, 3) := by decide +kernel
theorem d_Md_cast_138 : decode b_Md_cast 138 = .ok (.lreturn, 1) := by decide +kernel
theorem d_Md_cast_139 : decode b_Md_cast 139 = .ok (.aload_n 0, 1) := by decide +kernel
theorem d_Md_cast_140 : decode b_Md_cast 140 = .ok (.lload_n 1, 1) := by decide +kernel
theorem d_Md_cast_141 : decode b_Md_cast 141 = .ok (.iload_n 3, 1) := by decide +kernel
theorem d_Md_cast_142 : decode b_Md_cast 142 = .ok (.iconst 5, 1) := by decide +kernel
theorem d_Md_cast_143 : decode b_Md_cast 143 = .ok (.if_icmp .ne 7, 3) := by decide +kernel
theorem d_Md_cast_146 : decode b_Md_cast 146 = .ok (.iconst 1, 1) := by decide +kernel
theorem d_Md_cast_147 : decode b_Md_cast 147 = .ok (.goto 4, 3) := by decide +kernel
theorem d_Md_cast_150 : decode b_Md_cast 150 = .ok (.iconst 0, 1) := by decide +kernel
theorem d_Md_cast_151 : decode b_Md_cast 151 = .ok (.iconst 1, 1) := by decide +kernel
theorem d_Md_cast_152 : decode b_Md_cast 152 = .ok (.invokevirtual 101, 3) := by decide +kernel
theorem d_Md_cast_155 : decode b_Md_cast 155 = .ok (.iload 4, 2) := by decide +kernel
theorem d_Md_cast_157 : decode b_Md_cast 157 = .ok (.iconst 4, 1) := by decide +kernel
theorem d_Md_cast_158 : decode b_Md_cast 158 = .ok (.if_icmp .le 69, 3) := by decide +kernel
theorem d_Md_cast_161 : decode b_Md_cast 161 = .ok (.iload 4, 2) := by decide +kernel
theorem d_Md_cast_163 : decode b_Md_cast 163 = .ok (.iconst 5, 1) := by decide +kernel
theorem d_Md_cast_164 : decode b_Md_cast 164 = .ok (.if_icmp .ne 7, 3) := by decide +kernel
theorem d_Md_cast_167 : decode b_Md_cast 167 = .ok (.iconst 1, 1) := by decide +kernel
theorem d_Md_cast_168 : decode b_Md_cast 168 = .ok (.goto 4, 3) := by decide +kernel
theorem d_Md_cast_171 : decode b_Md_cast 171 = .ok (.iconst 0, 1) := by decide +kernel
theorem d_Md_cast_172 : decode b_Md_cast 172 = .ok (.istore 5, 2) := by decide +kernel
theorem d_Md_cast_174 : decode b_Md_cast 174 = .ok (.aload_n 0, 1) := by decide +kernel
theorem d_Md_cast_175 : decode b_Md_cast 175 = .ok (.getfield 55, 3) := by decide +kernel
theorem d_Md_cast_178 : decode b_Md_cast 178 = .ok (.ifCond .eq 11, 3) := by decide +kernel
theorem d_Md_cast_181 : decode b_Md_cast 181 = .ok (.iload 5, 2) := by decide +kernel
theorem d_Md_cast_183 : decode b_Md_cast 183 = .ok (.invokestatic 89, 3) := by decide +kernel
theorem d_Md_cast_186 : decode b_Md_cast 186 = .ok (.goto 40, 3) := by decide +kernel
theorem d_Md_cast_189 : decode b_Md_cast 189 = .ok (.aload_n 0, 1) := by decide +kernel
theorem d_Md_cast_190 : decode b_Md_cast 190 = .ok (.getfield 58, 3) := by decide +kernel
theorem d_Md_cast_193 : decode b_Md_cast 193 = .ok (.ifCond .eq 15, 3) := by decide +kernel
theorem d_Md_cast_196 : decode b_Md_cast 196 = .ok (.aload_n 0, 1) := by decide +kernel
theorem d_Md_cast_197 : decode b_Md_cast 197 = .ok (.getfield 51, 3) := by decide +kernel
theorem d_Md_cast_200 : decode b_Md_cast 200 = .ok (.iload 5, 2) := by decide +kernel
theorem d_Md_cast_202 : decode b_Md_cast 202 = .ok (.invokestatic 86, 3) := by decide +kernel
theorem d_Md_cast_205 : decode b_Md_cast 205 = .ok (.goto 21, 3) := by decide +kernel
theorem d_Md_cast_208 : decode b_Md_cast 208 = .ok (.aload_n 0, 1) := by decide +kernel
theorem d_Md_cast_209 : decode b_Md_cast 209 = .ok (.getfield 51, 3) := by decide +kernel
theorem d_Md_cast_212 : decode b_Md_cast 212 = .ok (.aload_n 0, 1) := by decide +kernel
theorem d_Md_cast_213 : decode b_Md_cast 213 = .ok (.getfield 44, 3) := by decide +kernel
theorem d_Md_cast_216 : decode b_Md_cast 216 = .ok (.aload_n 0, 1) := by decide +kernel
theorem d_Md_cast_217 : decode b_Md_cast 217 = .ok (.getfield 48, 3) := by decide +kernel
theorem d_Md_cast_220 : decode b_Md_cast 220 = .ok (.iconst 0, 1) := by decide +kernel
theorem d_Md_cast_221 : decode b_Md_cast 221 = .ok (.iload 5, 2) := by decide +kernel
theorem d_Md_cast_223 : decode b_Md_cast 223 = .ok (.invokestatic 93, 3) := by decide +kernel
theorem d_Md_cast_226 : decode b_Md_cast 226 = .ok (.lreturn, 1) := by decide +kernel
theorem d_Md_cast_227 : decode b_Md_cast 227 = .ok (.iload 4, 2) := by decide +kernel
theorem d_Md_cast_229 : decode b_Md_cast 229 = .ok (.iconst 4, 1) := by decide +kernel
theorem d_Md_cast_230 : decode b_Md_cast 230 = .ok (.if_icmp .ne 11, 3) := by decide +kernel
theorem d_Md_cast_233 : decode b_Md_cast 233 = .ok (.aload_n 0, 1) := by decide +kernel
theorem d_Md_cast_234 : decode b_Md_cast 234 = .ok (.iconst 1, 1) := by decide +kernel
theorem d_Md_cast_235 : decode b_Md_cast 235 = .ok (.invokevirtual 143, 3) := by decide +kernel
theorem d_Md_cast_238 : decode b_Md_cast 238 = .ok (.goto 13, 3) := by decide +kernel
theorem d_Md_cast_241 : decode b_Md_cast 241 = .ok (.aload_n 0, 1) := by decide +kernel
theorem d_Md_cast_242 : decode b_Md_cast 242 = .ok (.iconst 0, 1) := by decide +kernel
theorem d_Md_cast_243 : decode b_Md_cast 243 = .ok (.invokevirtual 143, 3) := by decide +kernel
theorem d_Md_cast_246 : decode b_Md_cast 246 = .ok (.iload 4, 2) := by decide +kernel
theorem d_Md_cast_248 : decode b_Md_cast 248 = .ok (.invokestatic 119, 3) := by decide +kernel
theorem d_Md_cast_251 : decode b_Md_cast 251 = .ok (.lreturn, 1) := by decide +kernel
def F_Md_cast (n : Nat) (thr : Int32) (m1 : Int64) (m2 : Int64) (e1 : Int32) (e2 : Int32) (mi1 : Int32) (mi2 : Int32) (na1 : Int32) (na2 : Int32) (fa1 : Int32) (fa2 : Int32) (a1 : Int64) (a2 : Int32) (a3 : Int32) : Option (Int64 × Int32 × Int64 × Int64 × Int32 × Int32 × Int32 × Int32 × Int32 × Int32 × Int32 × Int32) := lt_ (fun (thr_1 : Int32) (m1_2 : Int64) (m2_3 : Int64) (e1_4 : Int32) (e2_5 : Int32) (mi1_6 : Int32) (mi2_7 : Int32) (na1_8 : Int32) (na2_9 : Int32) (fa1_10 : Int32) (fa2_11 : Int32) => lt_ (F_Md_fails thr_1 (1 : Int32)) fun x12 => some (x12.1, x12.2, m1_2, m2_3, e1_4, e2_5, mi1_6, mi2_7, na1_8, na2_9, fa1_10, fa2_11)) fun j22 => if a2 < 0 then (j22 thr m1 m2 e1 e2 mi1 mi2 na1 na2 fa1 fa2) else (if (6 : Int32) < a2 then (j22 thr m1 m2 e1 e2 mi1 mi2 na1 na2 fa1 fa2) else (if a3 < 0 then (j22 thr m1 m2 e1 e2 mi1 mi2 na1 na2 fa1 fa2) else (if a3 ≤ (6 : Int32) then (if (4 : Int32) < a2 then (lt_ (if ¬ a2 = (5 : Int32) then (0 : Int32) else (1 : Int32)) fun x13 => lt_ (F_Md_apart m1 m2 e1 e2 mi1 mi2 na1 na2 fa1 fa2 a1 x13 (1 : Int32)) fun x14 => if a3 ≤ (4 : Int32) then (lt_ (fun (y15 : Int64) (thr_16 : Int32) (m1_17 : Int64) (m2_18 : Int64) (e1_19 : Int32) (e2_20 : Int32) (mi1_21 : Int32) (mi2_22 : Int32) (na1_23 : Int32) (na2_24 : Int32) (fa1_25 : Int32) (fa2_26 : Int32) => some (y15, thr_16, m1_17, m2_18, e1_19, e2_20, mi1_21, mi2_22, na1_23, na2_24, fa1_25, fa2_26)) fun j251 => if ¬ a3 = (4 : Int32) then ((F_Md_towards n x14.1 x14.2.2.1 x14.2.2.2.2.1 x14.2.2.2.2.2.2.1 x14.2.2.2.2.2.2.2.2.1 (0 : Int32)).bind fun x27 => j251 (F_Md_cut x27 a3) (0 : Int32) x14.1 x14.2.1 x14.2.2.1 x14.2.2.2.1 x14.2.2.2.2.1 x14.2.2.2.2.2.1 x14.2.2.2.2.2.2.1 x14.2.2.2.2.2.2.2.1 x14.2.2.2.2.2.2.2.2.1 x14.2.2.2.2.2.2.2.2.2) else ((F_Md_towards n x14.1 x14.2.2.1 x14.2.2.2.2.1 x14.2.2.2.2.2.2.1 x14.2.2.2.2.2.2.2.2.1 (1 : Int32)).bind fun x28 => j251 x28 (0 : Int32) x14.1 x14.2.1 x14.2.2.1 x14.2.2.2.1 x14.2.2.2.2.1 x14.2.2.2.2.2.1 x14.2.2.2.2.2.2.1 x14.2.2.2.2.2.2.2.1 x14.2.2.2.2.2.2.2.2.1 x14.2.2.2.2.2.2.2.2.2)) else (lt_ (if ¬ a3 = (5 : Int32) then (0 : Int32) else (1 : Int32)) fun x29 => lt_ (fun (y30 : Int64) (thr_31 : Int32) (m1_32 : Int64) (m2_33 : Int64) (e1_34 : Int32) (e2_35 : Int32) (mi1_36 : Int32) (mi2_37 : Int32) (na1_38 : Int32) (na2_39 : Int32) (fa1_40 : Int32) (fa2_41 : Int32) => some (y30, thr_31, m1_32, m2_33, e1_34, e2_35, mi1_36, mi2_37, na1_38, na2_39, fa1_40, fa2_41)) fun j226 => if x14.2.2.2.2.2.2.1 = 0 then (if x14.2.2.2.2.2.2.2.2.1 = 0 then ((F_Md_round n x14.2.2.2.2.1 x14.1 x14.2.2.1 (0 : Int32) x29).bind fun x42 => j226 x42 (0 : Int32) x14.1 x14.2.1 x14.2.2.1 x14.2.2.2.1 x14.2.2.2.2.1 x14.2.2.2.2.2.1 x14.2.2.2.2.2.2.1 x14.2.2.2.2.2.2.2.1 x14.2.2.2.2.2.2.2.2.1 x14.2.2.2.2.2.2.2.2.2) else (j226 (F_Md_far x14.2.2.2.2.1 x29) (0 : Int32) x14.1 x14.2.1 x14.2.2.1 x14.2.2.2.1 x14.2.2.2.2.1 x14.2.2.2.2.2.1 x14.2.2.2.2.2.2.1 x14.2.2.2.2.2.2.2.1 x14.2.2.2.2.2.2.2.2.1 x14.2.2.2.2.2.2.2.2.2)) else (j226 (F_Md_nan x29) (0 : Int32) x14.1 x14.2.1 x14.2.2.1 x14.2.2.2.1 x14.2.2.2.2.1 x14.2.2.2.2.2.1 x14.2.2.2.2.2.2.1 x14.2.2.2.2.2.2.2.1 x14.2.2.2.2.2.2.2.2.1 x14.2.2.2.2.2.2.2.2.2))) else (lt_ (F_Md_cut a1 a2) fun x43 => if (4 : Int32) < a3 then (lt_ (if ¬ a3 = (5 : Int32) then (0 : Int32) else (1 : Int32)) fun x44 => if ¬ x43 = (-9223372036854775808 : Int64) then (lt_ (fun (y45 : Int64) (thr_46 : Int32) (m1_47 : Int64) (m2_48 : Int64) (e1_49 : Int32) (e2_50 : Int32) (mi1_51 : Int32) (mi2_52 : Int32) (na1_53 : Int32) (na2_54 : Int32) (fa1_55 : Int32) (fa2_56 : Int32) => some (y45, thr_46, m1_47, m2_48, e1_49, e2_50, mi1_51, mi2_52, na1_53, na2_54, fa1_55, fa2_56)) fun j138 => if ¬ x43 = (0 : Int64) then (lt_ (if (0 : Int64) ≤ x43 then (0 : Int32) else (1 : Int32)) fun x57 => lt_ (if (0 : Int64) ≤ x43 then x43 else -x43) fun x58 => (F_Md_round n x57 x58 (0 : Int32) (0 : Int32) x44).bind fun x59 => j138 x59 (0 : Int32) m1 m2 e1 e2 mi1 mi2 na1 na2 fa1 fa2) else (j138 (0 : Int64) (0 : Int32) m1 m2 e1 e2 mi1 mi2 na1 na2 fa1 fa2)) else ((F_Md_round n (1 : Int32) (4611686018427387904 : Int64) (1 : Int32) (0 : Int32) x44).bind fun x60 => some (x60, (0 : Int32), m1, m2, e1, e2, mi1, mi2, na1, na2, fa1, fa2))) else (some (F_Md_cut x43 a3, (0 : Int32), m1, m2, e1, e2, mi1, mi2, na1, na2, fa1, fa2)))) else (j22 thr m1 m2 e1 e2 mi1 mi2 na1 na2 fa1 fa2))))
set_option maxHeartbeats 4000000 in
set_option maxRecDepth 100000 in
theorem c_Md_cast (l : Launch) (D : va_G) (A : Nat → Prop) (cI cL cC : ClassId) (ad : Nat → Nat) (X : va_W) (laid : Int32) (gone : Int32) (thr : Int32) (m1 : Int64) (m2 : Int64) (e1 : Int32) (e2 : Int32) (mi1 : Int32) (mi2 : Int32) (na1 : Int32) (na2 : Int32) (fa1 : Int32) (fa2 : Int32) (lets : Nat → Int32) (rlen : Int32) (rlaid : Int32) (rgone : Int32) (rthr : Int32) (were : Int32) (none_ : Int32) (beyo : Int32) (aN : Int32) (bN : Int32) (fN : Int32) (lN_ : Int32) (rN : Int32) (pN : Int32) (twos : Int32) (at_ : Int32) (rdig : Int32) (rpow : Int32) (good : Int32) (txt : Nat → Int32) (wri : Nat → Int32) (ra : Nat → Int32) (rb : Nat → Int32) (rfive : Nat → Int32) (rleft : Nat → Int32) (rright : Nat → Int32) (rpart : Nat → Int32) (n : Nat) (a1 : Int64) (a2 : Int32) (a3 : Int32) (r : Int64 × Int32 × Int64 × Int64 × Int32 × Int32 × Int32 × Int32 × Int32 × Int32 × Int32 × Int32) (h : F_Md_cast n thr m1 m2 e1 e2 mi1 mi2 na1 na2 fa1 fa2 a1 a2 a3 = some r) : Met l y_Md_cast (.code y_Md_cast b_Md_cast 8 (some .long) :: BIG) ({ frames := 3, cells := 0, slots := 0, locals := 77 } : Room) (va_Pc [.ref (ad 0), .long a1, .int a2, .int a3] (gPre D A (tysV cI cL cC) (gM cI cL cC ad X laid gone thr m1 m2 e1 e2 mi1 mi2 na1 na2 fa1 fa2 lets rlen rlaid rgone rthr were none_ beyo aN bN fN lN_ rN pN twos at_ rdig rpow good txt wri ra rb rfive rleft rright rpart))) (gQ D A (some (.long r.1)) (gM cI cL cC ad X laid gone r.2.1 r.2.2.1 r.2.2.2.1 r.2.2.2.2.1 r.2.2.2.2.2.1 r.2.2.2.2.2.2.1 r.2.2.2.2.2.2.2.1 r.2.2.2.2.2.2.2.2.1 r.2.2.2.2.2.2.2.2.2.1 r.2.2.2.2.2.2.2.2.2.2.1 r.2.2.2.2.2.2.2.2.2.2.2 lets rlen rlaid rgone rthr were none_ beyo aN bN fN lN_ rN pN twos at_ rdig rpow good txt wri ra rb rfive rleft rright rpart)) 0 0 A := by
  refine gOpen_l rfl (Nat.le_of_ble_eq_true rfl) ?_
  intro p e s m args below meth c Q ls hx hb hml hown hts hT hNB hP hK hD hl hret
  have hown : s.vm.findClass R_Md = some m.cls := hown
  have hS : va_S A s.heap s.heap [] := va_S.rf
  have hl : lv_has ls 8 [(0, .ref (ad 0)), (1, .long a1), (3, .int a2), (4, .int a3)] := hl
  have h : (lt_ (fun (thr_1 : Int32) (m1_2 : Int64) (m2_3 : Int64) (e1_4 : Int32) (e2_5 : Int32) (mi1_6 : Int32) (mi2_7 : Int32) (na1_8 : Int32) (na2_9 : Int32) (fa1_10 : Int32) (fa2_11 : Int32) => lt_ (F_Md_fails thr_1 (1 : Int32)) fun x12 => some (x12.1, x12.2, m1_2, m2_3, e1_4, e2_5, mi1_6, mi2_7, na1_8, na2_9, fa1_10, fa2_11)) fun j22 => if a2 < 0 then (j22 thr m1 m2 e1 e2 mi1 mi2 na1 na2 fa1 fa2) else (if (6 : Int32) < a2 then (j22 thr m1 m2 e1 e2 mi1 mi2 na1 na2 fa1 fa2) else (if a3 < 0 then (j22 thr m1 m2 e1 e2 mi1 mi2 na1 na2 fa1 fa2) else (if a3 ≤ (6 : Int32) then (if (4 : Int32) < a2 then (lt_ (if ¬ a2 = (5 : Int32) then (0 : Int32) else (1 : Int32)) fun x13 => lt_ (F_Md_apart m1 m2 e1 e2 mi1 mi2 na1 na2 fa1 fa2 a1 x13 (1 : Int32)) fun x14 => if a3 ≤ (4 : Int32) then (lt_ (fun (y15 : Int64) (thr_16 : Int32) (m1_17 : Int64) (m2_18 : Int64) (e1_19 : Int32) (e2_20 : Int32) (mi1_21 : Int32) (mi2_22 : Int32) (na1_23 : Int32) (na2_24 : Int32) (fa1_25 : Int32) (fa2_26 : Int32) => some (y15, thr_16, m1_17, m2_18, e1_19, e2_20, mi1_21, mi2_22, na1_23, na2_24, fa1_25, fa2_26)) fun j251 => if ¬ a3 = (4 : Int32) then ((F_Md_towards n x14.1 x14.2.2.1 x14.2.2.2.2.1 x14.2.2.2.2.2.2.1 x14.2.2.2.2.2.2.2.2.1 (0 : Int32)).bind fun x27 => j251 (F_Md_cut x27 a3) (0 : Int32) x14.1 x14.2.1 x14.2.2.1 x14.2.2.2.1 x14.2.2.2.2.1 x14.2.2.2.2.2.1 x14.2.2.2.2.2.2.1 x14.2.2.2.2.2.2.2.1 x14.2.2.2.2.2.2.2.2.1 x14.2.2.2.2.2.2.2.2.2) else ((F_Md_towards n x14.1 x14.2.2.1 x14.2.2.2.2.1 x14.2.2.2.2.2.2.1 x14.2.2.2.2.2.2.2.2.1 (1 : Int32)).bind fun x28 => j251 x28 (0 : Int32) x14.1 x14.2.1 x14.2.2.1 x14.2.2.2.1 x14.2.2.2.2.1 x14.2.2.2.2.2.1 x14.2.2.2.2.2.2.1 x14.2.2.2.2.2.2.2.1 x14.2.2.2.2.2.2.2.2.1 x14.2.2.2.2.2.2.2.2.2)) else (lt_ (if ¬ a3 = (5 : Int32) then (0 : Int32) else (1 : Int32)) fun x29 => lt_ (fun (y30 : Int64) (thr_31 : Int32) (m1_32 : Int64) (m2_33 : Int64) (e1_34 : Int32) (e2_35 : Int32) (mi1_36 : Int32) (mi2_37 : Int32) (na1_38 : Int32) (na2_39 : Int32) (fa1_40 : Int32) (fa2_41 : Int32) => some (y30, thr_31, m1_32, m2_33, e1_34, e2_35, mi1_36, mi2_37, na1_38, na2_39, fa1_40, fa2_41)) fun j226 => if x14.2.2.2.2.2.2.1 = 0 then (if x14.2.2.2.2.2.2.2.2.1 = 0 then ((F_Md_round n x14.2.2.2.2.1 x14.1 x14.2.2.1 (0 : Int32) x29).bind fun x42 => j226 x42 (0 : Int32) x14.1 x14.2.1 x14.2.2.1 x14.2.2.2.1 x14.2.2.2.2.1 x14.2.2.2.2.2.1 x14.2.2.2.2.2.2.1 x14.2.2.2.2.2.2.2.1 x14.2.2.2.2.2.2.2.2.1 x14.2.2.2.2.2.2.2.2.2) else (j226 (F_Md_far x14.2.2.2.2.1 x29) (0 : Int32) x14.1 x14.2.1 x14.2.2.1 x14.2.2.2.1 x14.2.2.2.2.1 x14.2.2.2.2.2.1 x14.2.2.2.2.2.2.1 x14.2.2.2.2.2.2.2.1 x14.2.2.2.2.2.2.2.2.1 x14.2.2.2.2.2.2.2.2.2)) else (j226 (F_Md_nan x29) (0 : Int32) x14.1 x14.2.1 x14.2.2.1 x14.2.2.2.1 x14.2.2.2.2.1 x14.2.2.2.2.2.1 x14.2.2.2.2.2.2.1 x14.2.2.2.2.2.2.2.1 x14.2.2.2.2.2.2.2.2.1 x14.2.2.2.2.2.2.2.2.2))) else (lt_ (F_Md_cut a1 a2) fun x43 => if (4 : Int32) < a3 then (lt_ (if ¬ a3 = (5 : Int32) then (0 : Int32) else (1 : Int32)) fun x44 => if ¬ x43 = (-9223372036854775808 : Int64) then (lt_ (fun (y45 : Int64) (thr_46 : Int32) (m1_47 : Int64) (m2_48 : Int64) (e1_49 : Int32) (e2_50 : Int32) (mi1_51 : Int32) (mi2_52 : Int32) (na1_53 : Int32) (na2_54 : Int32) (fa1_55 : Int32) (fa2_56 : Int32) => some (y45, thr_46, m1_47, m2_48, e1_49, e2_50, mi1_51, mi2_52, na1_53, na2_54, fa1_55, fa2_56)) fun j138 => if ¬ x43 = (0 : Int64) then (lt_ (if (0 : Int64) ≤ x43 then (0 : Int32) else (1 : Int32)) fun x57 => lt_ (if (0 : Int64) ≤ x43 then x43 else -x43) fun x58 => (F_Md_round n x57 x58 (0 : Int32) (0 : Int32) x44).bind fun x59 => j138 x59 (0 : Int32) m1 m2 e1 e2 mi1 mi2 na1 na2 fa1 fa2) else (j138 (0 : Int64) (0 : Int32) m1 m2 e1 e2 mi1 mi2 na1 na2 fa1 fa2)) else ((F_Md_round n (1 : Int32) (4611686018427387904 : Int64) (1 : Int32) (0 : Int32) x44).bind fun x60 => some (x60, (0 : Int32), m1, m2, e1, e2, mi1, mi2, na1, na2, fa1, fa2))) else (some (F_Md_cut x43 a3, (0 : Int32), m1, m2, e1, e2, mi1, mi2, na1, na2, fa1, fa2)))) else (j22 thr m1 m2 e1 e2 mi1 mi2 na1 na2 fa1 fa2))))) = some r := h
  refine lv_iload_n hx hb d_Md_cast_0 rfl (lv_at hl 2 rfl) ?_
  obtain ⟨j22, e_j22, h⟩ := lt_o h
  have hJ22 : ∀ (thr_1 : Int32) (m1_2 : Int64) (m2_3 : Int64) (e1_4 : Int32) (e2_5 : Int32) (mi1_6 : Int32) (mi2_7 : Int32) (na1_8 : Int32) (na2_9 : Int32) (fa1_10 : Int32) (fa2_11 : Int32) (ls : Array Slot) (H : Heap) (locs : List Loc), lv_has ls 8 [(0, .ref (ad 0))] → va_P D cls (gM cI cL cC ad X laid gone thr_1 m1_2 m2_3 e1_4 e2_5 mi1_6 mi2_7 na1_8 na2_9 fa1_10 fa2_11 lets rlen rlaid rgone rthr were none_ beyo aN bN fN lN_ rN pN twos at_ rdig rpow good txt wri ra rb rfive rleft rright rpart) H → va_D A (gM cI cL cC ad X laid gone thr_1 m1_2 m2_3 e1_4 e2_5 mi1_6 mi2_7 na1_8 na2_9 fa1_10 fa2_11 lets rlen rlaid rgone rthr were none_ beyo aN bN fN lN_ rN pN twos at_ rdig rpow good txt wri ra rb rfive rleft rright rpart) → va_S A s.heap H locs → j22 thr_1 m1_2 m2_3 e1_4 e2_5 mi1_6 mi2_7 na1_8 na2_9 fa1_10 fa2_11 = some r → W p l e ({ frames := 3, cells := 0, slots := 0, locals := 77 } : Room) s m args below meth c H locs 0 0 Q (F0 m 22 ls []) := by
    intro thr_1 m1_2 m2_3 e1_4 e2_5 mi1_6 mi2_7 na1_8 na2_9 fa1_10 fa2_11 ls H locs hl hP hD hS h
    rw [e_j22] at h
    refine lv_aload_n hx hb d_Md_cast_22 rfl (lv_at hl 0 rfl) ?_
    refine lv_iconst hx hb d_Md_cast_23 ic_1 ?_
    obtain ⟨x12, e_x12, h⟩ := lt_o h
    refine q_GV (D := D) (A := A) (C := R_Md) (b := ad 0) (As := [.int (1 : Int32)]) (rest := []) (n := 1) hx hb hml hown hts (c_Md_fails l D A cI cL cC ad X laid gone thr_1 m1_2 m2_3 e1_4 e2_5 mi1_6 mi2_7 na1_8 na2_9 fa1_10 fa2_11 lets rlen rlaid rgone rthr were none_ beyo aN bN fN lN_ rN pN twos at_ rdig rpow good txt wri ra rb rfive rleft rright rpart (1 : Int32) x12 e_x12.symm) rfl rfl m_290 m_291 m_292 m_293 m_130 (by decide +kernel) ⟨Nat.le_of_ble_eq_true rfl, Nat.le_of_ble_eq_true rfl⟩ (va_recv hK hP (ci := 4) rfl (q0 := 0) rfl) hNB hK hP hD hS rfl hl.1 rfl (Nat.le_of_ble_eq_true rfl) d_Md_cast_24 ⟨Nat.zero_le _, Nat.zero_le _⟩ (fun H locs hP hD hS => ?_)
    have hP : va_P D cls (gM cI cL cC ad X laid gone x12.2 m1_2 m2_3 e1_4 e2_5 mi1_6 mi2_7 na1_8 na2_9 fa1_10 fa2_11 lets rlen rlaid rgone rthr were none_ beyo aN bN fN lN_ rN pN twos at_ rdig rpow good txt wri ra rb rfive rleft rright rpart) H := hP
    have hD : va_D A (gM cI cL cC ad X laid gone x12.2 m1_2 m2_3 e1_4 e2_5 mi1_6 mi2_7 na1_8 na2_9 fa1_10 fa2_11 lets rlen rlaid rgone rthr were none_ beyo aN bN fN lN_ rN pN twos at_ rdig rpow good txt wri ra rb rfive rleft rright rpart) := hD
    obtain rfl := Option.some.inj h
    exact hret 27 ls _ _ _ rfl hP hD hS d_Md_cast_27
  refine lv_if_lt (tgt := 22) hx hb d_Md_cast_1 rfl (fun hc => ?_) (fun hc => ?_)
  · have h := ite_t hc h
    exact hJ22 _ _ _ _ _ _ _ _ _ _ _ ls _ _ (lv_sub hl [0] rfl) hP hD hS h
  · have h := ite_f hc h
    refine lv_iload_n hx hb d_Md_cast_4 rfl (lv_at hl 2 rfl) ?_
    refine lv_bipush hx hb d_Md_cast_5 bp_6 ?_
    refine lv_icmp_gt (tgt := 22) hx hb d_Md_cast_7 rfl (fun hc => ?_) (fun hc => ?_)
    · have h := ite_t hc h
      exact hJ22 _ _ _ _ _ _ _ _ _ _ _ ls _ _ (lv_sub hl [0] rfl) hP hD hS h
    · have h := ite_f hc h
      refine lv_iload hx hb d_Md_cast_10 (lv_at hl 3 rfl) ?_
      refine lv_if_lt (tgt := 22) hx hb d_Md_cast_12 rfl (fun hc => ?_) (fun hc => ?_)
      · have h := ite_t hc h
        exact hJ22 _ _ _ _ _ _ _ _ _ _ _ ls _ _ (lv_sub hl [0] rfl) hP hD hS h
      · have h := ite_f hc h
        refine lv_iload hx hb d_Md_cast_15 (lv_at hl 3 rfl) ?_
        refine lv_bipush hx hb d_Md_cast_17 bp_6 ?_
        refine lv_icmp_le (tgt := 28) hx hb d_Md_cast_19 rfl (fun hc => ?_) (fun hc => ?_)
        · have h := ite_t hc h
          refine lv_aload_n hx hb d_Md_cast_28 rfl (lv_at hl 0 rfl) ?_
          refine lv_iconst hx hb d_Md_cast_29 ic_0 ?_
          refine va_put (D := D) (ci := 4) (C := R_Md) (T := T_Md) (N := 15) hx hb hT in_Md ty_Md tyok_Md nm_Md hown hK hP hD hS 0 rfl rfl 4 (by decide) (hT _ m_247) (fun _ h9 => h9) rfl (ty := .int) (by decide +kernel) rfl rfl (by decide : 4 < 15) d_Md_cast_30 (fun H locs hP hD hS => ?_)
          have hP : va_P D cls (gM cI cL cC ad X laid gone (0 : Int32) m1 m2 e1 e2 mi1 mi2 na1 na2 fa1 fa2 lets rlen rlaid rgone rthr were none_ beyo aN bN fN lN_ rN pN twos at_ rdig rpow good txt wri ra rb rfive rleft rright rpart) H := hP
          have hD : va_D A (gM cI cL cC ad X laid gone (0 : Int32) m1 m2 e1 e2 mi1 mi2 na1 na2 fa1 fa2 lets rlen rlaid rgone rthr were none_ beyo aN bN fN lN_ rN pN twos at_ rdig rpow good txt wri ra rb rfive rleft rright rpart) := hD
          refine lv_iload_n hx hb d_Md_cast_33 rfl (lv_at hl 2 rfl) ?_
          refine lv_iconst hx hb d_Md_cast_34 ic_4 ?_
          refine lv_icmp_gt (tgt := 139) hx hb d_Md_cast_35 rfl (fun hc => ?_) (fun hc => ?_)
          · have h := ite_t hc h
            refine lv_aload_n hx hb d_Md_cast_139 rfl (lv_at hl 0 rfl) ?_
            refine lv_lload_n hx hb d_Md_cast_140 rfl (lv_at hl 1 rfl) ?_
            refine lv_iload_n hx hb d_Md_cast_141 rfl (lv_at hl 2 rfl) ?_
            refine lv_iconst hx hb d_Md_cast_142 ic_5 ?_
            obtain ⟨x13, e_x13, h⟩ := lt_o h
            have hJ151 : ∀ (x13' : Int32) (ls : Array Slot), x13 = x13' → lv_has ls 8 [(0, .ref (ad 0)), (4, .int a3)] → W p l e ({ frames := 3, cells := 0, slots := 0, locals := 77 } : Room) s m args below meth c H locs 0 0 Q (F0 m 151 ls [.int x13', .long a1, .ref (ad 0)]) := by
              intro x13' ls q_x13 hl
              subst q_x13
              refine lv_iconst hx hb d_Md_cast_151 ic_1 ?_
              obtain ⟨x14, e_x14, h⟩ := lt_o h
              refine q_GV (D := D) (A := A) (C := R_Md) (b := ad 0) (As := [.long a1, .int x13, .int (1 : Int32)]) (rest := []) (n := 3) hx hb hml hown hts (c_Md_apart l D A cI cL cC ad X laid gone (0 : Int32) m1 m2 e1 e2 mi1 mi2 na1 na2 fa1 fa2 lets rlen rlaid rgone rthr were none_ beyo aN bN fN lN_ rN pN twos at_ rdig rpow good txt wri ra rb rfive rleft rright rpart a1 x13 (1 : Int32) x14 e_x14.symm) rfl rfl m_267 m_268 m_269 m_270 m_130 (by decide +kernel) ⟨Nat.le_of_ble_eq_true rfl, Nat.le_of_ble_eq_true rfl⟩ (va_recv hK hP (ci := 4) rfl (q0 := 0) rfl) hNB hK hP hD hS rfl hl.1 rfl (Nat.le_of_ble_eq_true rfl) d_Md_cast_152 ⟨Nat.zero_le _, Nat.zero_le _⟩ (fun H locs hP hD hS => ?_)
              have hP : va_P D cls (gM cI cL cC ad X laid gone (0 : Int32) x14.1 x14.2.1 x14.2.2.1 x14.2.2.2.1 x14.2.2.2.2.1 x14.2.2.2.2.2.1 x14.2.2.2.2.2.2.1 x14.2.2.2.2.2.2.2.1 x14.2.2.2.2.2.2.2.2.1 x14.2.2.2.2.2.2.2.2.2 lets rlen rlaid rgone rthr were none_ beyo aN bN fN lN_ rN pN twos at_ rdig rpow good txt wri ra rb rfive rleft rright rpart) H := hP
              have hD : va_D A (gM cI cL cC ad X laid gone (0 : Int32) x14.1 x14.2.1 x14.2.2.1 x14.2.2.2.1 x14.2.2.2.2.1 x14.2.2.2.2.2.1 x14.2.2.2.2.2.2.1 x14.2.2.2.2.2.2.2.1 x14.2.2.2.2.2.2.2.2.1 x14.2.2.2.2.2.2.2.2.2 lets rlen rlaid rgone rthr were none_ beyo aN bN fN lN_ rN pN twos at_ rdig rpow good txt wri ra rb rfive rleft rright rpart) := hD
              refine lv_iload hx hb d_Md_cast_155 (lv_at hl 1 rfl) ?_
              refine lv_iconst hx hb d_Md_cast_157 ic_4 ?_
              refine lv_icmp_le (tgt := 227) hx hb d_Md_cast_158 rfl (fun hc => ?_) (fun hc => ?_)
              · have h := ite_t hc h
                refine lv_iload hx hb d_Md_cast_227 (lv_at hl 1 rfl) ?_
                refine lv_iconst hx hb d_Md_cast_229 ic_4 ?_
                obtain ⟨j251, e_j251, h⟩ := lt_o h
                have hJ251 : ∀ (y15 : Int64) (thr_16 : Int32) (m1_17 : Int64) (m2_18 : Int64) (e1_19 : Int32) (e2_20 : Int32) (mi1_21 : Int32) (mi2_22 : Int32) (na1_23 : Int32) (na2_24 : Int32) (fa1_25 : Int32) (fa2_26 : Int32) (ls : Array Slot) (H : Heap) (locs : List Loc), lv_has ls 8 [] → va_P D cls (gM cI cL cC ad X laid gone thr_16 m1_17 m2_18 e1_19 e2_20 mi1_21 mi2_22 na1_23 na2_24 fa1_25 fa2_26 lets rlen rlaid rgone rthr were none_ beyo aN bN fN lN_ rN pN twos at_ rdig rpow good txt wri ra rb rfive rleft rright rpart) H → va_D A (gM cI cL cC ad X laid gone thr_16 m1_17 m2_18 e1_19 e2_20 mi1_21 mi2_22 na1_23 na2_24 fa1_25 fa2_26 lets rlen rlaid rgone rthr were none_ beyo aN bN fN lN_ rN pN twos at_ rdig rpow good txt wri ra rb rfive rleft rright rpart) → va_S A s.heap H locs → j251 y15 thr_16 m1_17 m2_18 e1_19 e2_20 mi1_21 mi2_22 na1_23 na2_24 fa1_25 fa2_26 = some r → W p l e ({ frames := 3, cells := 0, slots := 0, locals := 77 } : Room) s m args below meth c H locs 0 0 Q (F0 m 251 ls [.long y15]) := by
                  intro y15 thr_16 m1_17 m2_18 e1_19 e2_20 mi1_21 mi2_22 na1_23 na2_24 fa1_25 fa2_26 ls H locs hl hP hD hS h
                  rw [e_j251] at h
                  obtain rfl := Option.some.inj h
                  exact hret 251 ls _ _ _ rfl hP hD hS d_Md_cast_251
                refine lv_icmp_ne (tgt := 241) hx hb d_Md_cast_230 rfl (fun hc => ?_) (fun hc => ?_)
                · have h := ite_t hc h
                  refine lv_aload_n hx hb d_Md_cast_241 rfl (lv_at hl 0 rfl) ?_
                  refine lv_iconst hx hb d_Md_cast_242 ic_0 ?_
                  obtain ⟨x27, e_x27, h⟩ := bd_o h
                  refine q_GV (D := D) (A := A) (C := R_Md) (b := ad 0) (As := [.int (0 : Int32)]) (rest := []) (n := 1) hx hb hml hown hts (c_Md_towards l D A cI cL cC ad X laid gone (0 : Int32) x14.1 x14.2.1 x14.2.2.1 x14.2.2.2.1 x14.2.2.2.2.1 x14.2.2.2.2.2.1 x14.2.2.2.2.2.2.1 x14.2.2.2.2.2.2.2.1 x14.2.2.2.2.2.2.2.2.1 x14.2.2.2.2.2.2.2.2.2 lets rlen rlaid rgone rthr were none_ beyo aN bN fN lN_ rN pN twos at_ rdig rpow good txt wri ra rb rfive rleft rright rpart n (0 : Int32) x27 e_x27) rfl rfl m_304 m_305 m_306 m_307 m_130 (by decide +kernel) ⟨Nat.le_of_ble_eq_true rfl, Nat.le_of_ble_eq_true rfl⟩ (va_recv hK hP (ci := 4) rfl (q0 := 0) rfl) hNB hK hP hD hS rfl hl.1 rfl (Nat.le_of_ble_eq_true rfl) d_Md_cast_243 ⟨Nat.zero_le _, Nat.zero_le _⟩ (fun H locs hP hD hS => ?_)
                  have hP : va_P D cls (gM cI cL cC ad X laid gone (0 : Int32) x14.1 x14.2.1 x14.2.2.1 x14.2.2.2.1 x14.2.2.2.2.1 x14.2.2.2.2.2.1 x14.2.2.2.2.2.2.1 x14.2.2.2.2.2.2.2.1 x14.2.2.2.2.2.2.2.2.1 x14.2.2.2.2.2.2.2.2.2 lets rlen rlaid rgone rthr were none_ beyo aN bN fN lN_ rN pN twos at_ rdig rpow good txt wri ra rb rfive rleft rright rpart) H := hP
                  have hD : va_D A (gM cI cL cC ad X laid gone (0 : Int32) x14.1 x14.2.1 x14.2.2.1 x14.2.2.2.1 x14.2.2.2.2.1 x14.2.2.2.2.2.1 x14.2.2.2.2.2.2.1 x14.2.2.2.2.2.2.2.1 x14.2.2.2.2.2.2.2.2.1 x14.2.2.2.2.2.2.2.2.2 lets rlen rlaid rgone rthr were none_ beyo aN bN fN lN_ rN pN twos at_ rdig rpow good txt wri ra rb rfive rleft rright rpart) := hD
                  refine lv_iload hx hb d_Md_cast_246 (lv_at hl 1 rfl) ?_
                  refine q_S (As := [.long x27, .int a3]) (rest := []) (n := 2) hx hb hml hown hts (c_Md_cut l x27 a3) rfl rfl m_287 m_288 m_289 m_130 (by decide +kernel) ⟨Nat.le_of_ble_eq_true rfl, Nat.le_of_ble_eq_true rfl⟩ (p0_bl) (fun U hU hW => p0_mv hU hW hNB) rfl hl.1 rfl (Nat.le_of_ble_eq_true rfl) d_Md_cast_248 ⟨Nat.zero_le _, Nat.zero_le _⟩ ?_
                  exact hJ251 _ _ _ _ _ _ _ _ _ _ _ _ ls _ _ (lv_sub hl [] rfl) hP hD hS h
                · have hc := not_not_intro hc
                  have h := ite_f hc h
                  refine lv_aload_n hx hb d_Md_cast_233 rfl (lv_at hl 0 rfl) ?_
                  refine lv_iconst hx hb d_Md_cast_234 ic_1 ?_
                  obtain ⟨x28, e_x28, h⟩ := bd_o h
                  refine q_GV (D := D) (A := A) (C := R_Md) (b := ad 0) (As := [.int (1 : Int32)]) (rest := []) (n := 1) hx hb hml hown hts (c_Md_towards l D A cI cL cC ad X laid gone (0 : Int32) x14.1 x14.2.1 x14.2.2.1 x14.2.2.2.1 x14.2.2.2.2.1 x14.2.2.2.2.2.1 x14.2.2.2.2.2.2.1 x14.2.2.2.2.2.2.2.1 x14.2.2.2.2.2.2.2.2.1 x14.2.2.2.2.2.2.2.2.2 lets rlen rlaid rgone rthr were none_ beyo aN bN fN lN_ rN pN twos at_ rdig rpow good txt wri ra rb rfive rleft rright rpart n (1 : Int32) x28 e_x28) rfl rfl m_304 m_305 m_306 m_307 m_130 (by decide +kernel) ⟨Nat.le_of_ble_eq_true rfl, Nat.le_of_ble_eq_true rfl⟩ (va_recv hK hP (ci := 4) rfl (q0 := 0) rfl) hNB hK hP hD hS rfl hl.1 rfl (Nat.le_of_ble_eq_true rfl) d_Md_cast_235 ⟨Nat.zero_le _, Nat.zero_le _⟩ (fun H locs hP hD hS => ?_)
                  have hP : va_P D cls (gM cI cL cC ad X laid gone (0 : Int32) x14.1 x14.2.1 x14.2.2.1 x14.2.2.2.1 x14.2.2.2.2.1 x14.2.2.2.2.2.1 x14.2.2.2.2.2.2.1 x14.2.2.2.2.2.2.2.1 x14.2.2.2.2.2.2.2.2.1 x14.2.2.2.2.2.2.2.2.2 lets rlen rlaid rgone rthr were none_ beyo aN bN fN lN_ rN pN twos at_ rdig rpow good txt wri ra rb rfive rleft rright rpart) H := hP
                  have hD : va_D A (gM cI cL cC ad X laid gone (0 : Int32) x14.1 x14.2.1 x14.2.2.1 x14.2.2.2.1 x14.2.2.2.2.1 x14.2.2.2.2.2.1 x14.2.2.2.2.2.2.1 x14.2.2.2.2.2.2.2.1 x14.2.2.2.2.2.2.2.2.1 x14.2.2.2.2.2.2.2.2.2 lets rlen rlaid rgone rthr were none_ beyo aN bN fN lN_ rN pN twos at_ rdig rpow good txt wri ra rb rfive rleft rright rpart) := hD
                  refine lv_goto (tgt := 251) hx hb d_Md_cast_238 rfl ?_
                  exact hJ251 _ _ _ _ _ _ _ _ _ _ _ _ ls _ _ (lv_sub hl [] rfl) hP hD hS h
              · have h := ite_f hc h
                refine lv_iload hx hb d_Md_cast_161 (lv_at hl 1 rfl) ?_
                refine lv_iconst hx hb d_Md_cast_163 ic_5 ?_
                obtain ⟨x29, e_x29, h⟩ := lt_o h
                have hJ172 : ∀ (x29' : Int32) (ls : Array Slot), x29 = x29' → lv_has ls 8 [(0, .ref (ad 0))] → W p l e ({ frames := 3, cells := 0, slots := 0, locals := 77 } : Room) s m args below meth c H locs 0 0 Q (F0 m 172 ls [.int x29']) := by
                  intro x29' ls q_x29 hl
                  subst q_x29
                  refine lv_istore hx hb d_Md_cast_172 hl (by decide) rfl (fun ls hl => ?_)
                  have hl : lv_has ls 8 [(5, .int x29), (0, .ref (ad 0))] := hl
                  refine lv_aload_n hx hb d_Md_cast_174 rfl (lv_at hl 1 rfl) ?_
                  refine va_get (D := D) (ci := 4) (C := R_Md) (T := T_Md) (N := 15) hx hb hT in_Md hown hK hP 0 rfl rfl 11 (by decide) (hT _ m_257) (fun _ h9 => h9) rfl d_Md_cast_175 ?_
                  obtain ⟨j226, e_j226, h⟩ := lt_o h
                  have hJ226 : ∀ (y30 : Int64) (thr_31 : Int32) (m1_32 : Int64) (m2_33 : Int64) (e1_34 : Int32) (e2_35 : Int32) (mi1_36 : Int32) (mi2_37 : Int32) (na1_38 : Int32) (na2_39 : Int32) (fa1_40 : Int32) (fa2_41 : Int32) (ls : Array Slot) (H : Heap) (locs : List Loc), lv_has ls 8 [] → va_P D cls (gM cI cL cC ad X laid gone thr_31 m1_32 m2_33 e1_34 e2_35 mi1_36 mi2_37 na1_38 na2_39 fa1_40 fa2_41 lets rlen rlaid rgone rthr were none_ beyo aN bN fN lN_ rN pN twos at_ rdig rpow good txt wri ra rb rfive rleft rright rpart) H → va_D A (gM cI cL cC ad X laid gone thr_31 m1_32 m2_33 e1_34 e2_35 mi1_36 mi2_37 na1_38 na2_39 fa1_40 fa2_41 lets rlen rlaid rgone rthr were none_ beyo aN bN fN lN_ rN pN twos at_ rdig rpow good txt wri ra rb rfive rleft rright rpart) → va_S A s.heap H locs → j226 y30 thr_31 m1_32 m2_33 e1_34 e2_35 mi1_36 mi2_37 na1_38 na2_39 fa1_40 fa2_41 = some r → W p l e ({ frames := 3, cells := 0, slots := 0, locals := 77 } : Room) s m args below meth c H locs 0 0 Q (F0 m 226 ls [.long y30]) := by
                    intro y30 thr_31 m1_32 m2_33 e1_34 e2_35 mi1_36 mi2_37 na1_38 na2_39 fa1_40 fa2_41 ls H locs hl hP hD hS h
                    rw [e_j226] at h
                    obtain rfl := Option.some.inj h
                    exact hret 226 ls _ _ _ rfl hP hD hS d_Md_cast_226
                  refine lv_if_eq (tgt := 189) hx hb d_Md_cast_178 rfl (fun hc => ?_) (fun hc => ?_)
                  · have h := ite_t hc h
                    refine lv_aload_n hx hb d_Md_cast_189 rfl (lv_at hl 1 rfl) ?_
                    refine va_get (D := D) (ci := 4) (C := R_Md) (T := T_Md) (N := 15) hx hb hT in_Md hown hK hP 0 rfl rfl 13 (by decide) (hT _ m_258) (fun _ h9 => h9) rfl d_Md_cast_190 ?_
                    refine lv_if_eq (tgt := 208) hx hb d_Md_cast_193 rfl (fun hc => ?_) (fun hc => ?_)
                    · have h := ite_t hc h
                      refine lv_aload_n hx hb d_Md_cast_208 rfl (lv_at hl 1 rfl) ?_
                      refine va_get (D := D) (ci := 4) (C := R_Md) (T := T_Md) (N := 15) hx hb hT in_Md hown hK hP 0 rfl rfl 9 (by decide) (hT _ m_256) (fun _ h9 => h9) rfl d_Md_cast_209 ?_
                      refine lv_aload_n hx hb d_Md_cast_212 rfl (lv_at hl 1 rfl) ?_
                      refine va_get (D := D) (ci := 4) (C := R_Md) (T := T_Md) (N := 15) hx hb hT in_Md hown hK hP 0 rfl rfl 5 (by decide) (hT _ m_254) (fun _ h9 => h9) rfl d_Md_cast_213 ?_
                      refine lv_aload_n hx hb d_Md_cast_216 rfl (lv_at hl 1 rfl) ?_
                      refine va_get (D := D) (ci := 4) (C := R_Md) (T := T_Md) (N := 15) hx hb hT in_Md hown hK hP 0 rfl rfl 7 (by decide) (hT _ m_255) (fun _ h9 => h9) rfl d_Md_cast_217 ?_
                      refine lv_iconst hx hb d_Md_cast_220 ic_0 ?_
                      refine lv_iload hx hb d_Md_cast_221 (lv_at hl 0 rfl) ?_
                      obtain ⟨x42, e_x42, h⟩ := bd_o h
                      refine q_S (As := [.int x14.2.2.2.2.1, .long x14.1, .int x14.2.2.1, .int (0 : Int32), .int x29]) (rest := []) (n := 5) hx hb hml hown hts (c_Md_round l n x14.2.2.2.2.1 x14.1 x14.2.2.1 (0 : Int32) x29 _ e_x42) rfl rfl m_262 m_263 m_264 m_130 (by decide +kernel) ⟨Nat.le_of_ble_eq_true rfl, Nat.le_of_ble_eq_true rfl⟩ (p0_bl) (fun U hU hW => p0_mv hU hW hNB) rfl hl.1 rfl (Nat.le_of_ble_eq_true rfl) d_Md_cast_223 ⟨Nat.zero_le _, Nat.zero_le _⟩ ?_
                      exact hJ226 _ _ _ _ _ _ _ _ _ _ _ _ ls _ _ (lv_sub hl [] rfl) hP hD hS h
                    · have h := ite_f hc h
                      refine lv_aload_n hx hb d_Md_cast_196 rfl (lv_at hl 1 rfl) ?_
                      refine va_get (D := D) (ci := 4) (C := R_Md) (T := T_Md) (N := 15) hx hb hT in_Md hown hK hP 0 rfl rfl 9 (by decide) (hT _ m_256) (fun _ h9 => h9) rfl d_Md_cast_197 ?_
                      refine lv_iload hx hb d_Md_cast_200 (lv_at hl 0 rfl) ?_
                      refine q_S (As := [.int x14.2.2.2.2.1, .int x29]) (rest := []) (n := 2) hx hb hml hown hts (c_Md_far l x14.2.2.2.2.1 x29) rfl rfl m_135 m_136 m_137 m_130 (by decide +kernel) ⟨Nat.le_of_ble_eq_true rfl, Nat.le_of_ble_eq_true rfl⟩ (p0_bl) (fun U hU hW => p0_mv hU hW hNB) rfl hl.1 rfl (Nat.le_of_ble_eq_true rfl) d_Md_cast_202 ⟨Nat.zero_le _, Nat.zero_le _⟩ ?_
                      refine lv_goto (tgt := 226) hx hb d_Md_cast_205 rfl ?_
                      exact hJ226 _ _ _ _ _ _ _ _ _ _ _ _ ls _ _ (lv_sub hl [] rfl) hP hD hS h
                  · have h := ite_f hc h
                    refine lv_iload hx hb d_Md_cast_181 (lv_at hl 0 rfl) ?_
                    refine q_S (As := [.int x29]) (rest := []) (n := 1) hx hb hml hown hts (c_Md_nan l x29) rfl rfl m_259 m_260 m_261 m_130 (by decide +kernel) ⟨Nat.le_of_ble_eq_true rfl, Nat.le_of_ble_eq_true rfl⟩ (p0_bl) (fun U hU hW => p0_mv hU hW hNB) rfl hl.1 rfl (Nat.le_of_ble_eq_true rfl) d_Md_cast_183 ⟨Nat.zero_le _, Nat.zero_le _⟩ ?_
                    refine lv_goto (tgt := 226) hx hb d_Md_cast_186 rfl ?_
                    exact hJ226 _ _ _ _ _ _ _ _ _ _ _ _ ls _ _ (lv_sub hl [] rfl) hP hD hS h
                refine lv_icmp_ne (tgt := 171) hx hb d_Md_cast_164 rfl (fun hc => ?_) (fun hc => ?_)
                · have e_x29 := e_x29.trans (if_pos hc)
                  refine lv_iconst hx hb d_Md_cast_171 ic_0 ?_
                  exact hJ172 _ ls e_x29 (lv_sub hl [0] rfl)
                · have hc := not_not_intro hc
                  have e_x29 := e_x29.trans (if_neg hc)
                  refine lv_iconst hx hb d_Md_cast_167 ic_1 ?_
                  refine lv_goto (tgt := 172) hx hb d_Md_cast_168 rfl ?_
                  exact hJ172 _ ls e_x29 (lv_sub hl [0] rfl)
            refine lv_icmp_ne (tgt := 150) hx hb d_Md_cast_143 rfl (fun hc => ?_) (fun hc => ?_)
            · have e_x13 := e_x13.trans (if_pos hc)
              refine lv_iconst hx hb d_Md_cast_150 ic_0 ?_
              exact hJ151 _ ls e_x13 (lv_sub hl [0, 3] rfl)
            · have hc := not_not_intro hc
              have e_x13 := e_x13.trans (if_neg hc)
              refine lv_iconst hx hb d_Md_cast_146 ic_1 ?_
              refine lv_goto (tgt := 151) hx hb d_Md_cast_147 rfl ?_
              exact hJ151 _ ls e_x13 (lv_sub hl [0, 3] rfl)
          · have h := ite_f hc h
            refine lv_lload_n hx hb d_Md_cast_38 rfl (lv_at hl 1 rfl) ?_
            refine lv_iload_n hx hb d_Md_cast_39 rfl (lv_at hl 2 rfl) ?_
            refine q_S (As := [.long a1, .int a2]) (rest := []) (n := 2) hx hb hml hown hts (c_Md_cut l a1 a2) rfl rfl m_287 m_288 m_289 m_130 (by decide +kernel) ⟨Nat.le_of_ble_eq_true rfl, Nat.le_of_ble_eq_true rfl⟩ (p0_bl) (fun U hU hW => p0_mv hU hW hNB) rfl hl.1 rfl (Nat.le_of_ble_eq_true rfl) d_Md_cast_40 ⟨Nat.zero_le _, Nat.zero_le _⟩ ?_
            refine lv_topl (fun x43 e_x43 => ?_)
            have h := lt_h e_x43 h
            refine lv_lstore hx hb d_Md_cast_43 hl (by decide) rfl (fun ls hl => ?_)
            have hl : lv_has ls 8 [(5, .long x43), (0, .ref (ad 0)), (1, .long a1), (3, .int a2), (4, .int a3)] := hl
            refine lv_iload hx hb d_Md_cast_45 (lv_at hl 4 rfl) ?_
            refine lv_iconst hx hb d_Md_cast_47 ic_4 ?_
            refine lv_icmp_gt (tgt := 59) hx hb d_Md_cast_48 rfl (fun hc => ?_) (fun hc => ?_)
            · have h := ite_t hc h
              refine lv_iload hx hb d_Md_cast_59 (lv_at hl 4 rfl) ?_
              refine lv_iconst hx hb d_Md_cast_61 ic_5 ?_
              obtain ⟨x44, e_x44, h⟩ := lt_o h
              have hJ70 : ∀ (x44' : Int32) (ls : Array Slot), x44 = x44' → lv_has ls 8 [(5, .long x43)] → W p l e ({ frames := 3, cells := 0, slots := 0, locals := 77 } : Room) s m args below meth c H locs 0 0 Q (F0 m 70 ls [.int x44']) := by
                intro x44' ls q_x44 hl
                subst q_x44
                refine lv_istore hx hb d_Md_cast_70 hl (by decide) rfl (fun ls hl => ?_)
                have hl : lv_has ls 8 [(7, .int x44), (5, .long x43)] := hl
                refine lv_lload hx hb d_Md_cast_72 (lv_at hl 1 rfl) ?_
                refine lv_ldc2 hx hb hown (hT _ m_123) d_Md_cast_74 ?_
                refine W.lcmp hx hb d_Md_cast_77 ?_
                refine lv_if_ne (tgt := 93) hx hb d_Md_cast_78 rfl (fun hc => ?_) (fun hc => ?_)
                · have hc := mt (lg_cmp_eq _ _).mpr hc
                  have h := ite_t hc h
                  refine lv_lload hx hb d_Md_cast_93 (lv_at hl 1 rfl) ?_
                  refine lv_lconst hx hb d_Md_cast_95 lc_0 ?_
                  refine W.lcmp hx hb d_Md_cast_96 ?_
                  obtain ⟨j138, e_j138, h⟩ := lt_o h
                  have hJ138 : ∀ (y45 : Int64) (thr_46 : Int32) (m1_47 : Int64) (m2_48 : Int64) (e1_49 : Int32) (e2_50 : Int32) (mi1_51 : Int32) (mi2_52 : Int32) (na1_53 : Int32) (na2_54 : Int32) (fa1_55 : Int32) (fa2_56 : Int32) (ls : Array Slot) (H : Heap) (locs : List Loc), lv_has ls 8 [] → va_P D cls (gM cI cL cC ad X laid gone thr_46 m1_47 m2_48 e1_49 e2_50 mi1_51 mi2_52 na1_53 na2_54 fa1_55 fa2_56 lets rlen rlaid rgone rthr were none_ beyo aN bN fN lN_ rN pN twos at_ rdig rpow good txt wri ra rb rfive rleft rright rpart) H → va_D A (gM cI cL cC ad X laid gone thr_46 m1_47 m2_48 e1_49 e2_50 mi1_51 mi2_52 na1_53 na2_54 fa1_55 fa2_56 lets rlen rlaid rgone rthr were none_ beyo aN bN fN lN_ rN pN twos at_ rdig rpow good txt wri ra rb rfive rleft rright rpart) → va_S A s.heap H locs → j138 y45 thr_46 m1_47 m2_48 e1_49 e2_50 mi1_51 mi2_52 na1_53 na2_54 fa1_55 fa2_56 = some r → W p l e ({ frames := 3, cells := 0, slots := 0, locals := 77 } : Room) s m args below meth c H locs 0 0 Q (F0 m 138 ls [.long y45]) := by
                    intro y45 thr_46 m1_47 m2_48 e1_49 e2_50 mi1_51 mi2_52 na1_53 na2_54 fa1_55 fa2_56 ls H locs hl hP hD hS h
                    rw [e_j138] at h
                    obtain rfl := Option.some.inj h
                    exact hret 138 ls _ _ _ rfl hP hD hS d_Md_cast_138
                  refine lv_if_ne (tgt := 104) hx hb d_Md_cast_97 rfl (fun hc => ?_) (fun hc => ?_)
                  · have hc := mt (lg_cmp_eq _ _).mpr hc
                    have h := ite_t hc h
                    refine lv_lload hx hb d_Md_cast_104 (lv_at hl 1 rfl) ?_
                    refine lv_lconst hx hb d_Md_cast_106 lc_0 ?_
                    refine W.lcmp hx hb d_Md_cast_107 ?_
                    obtain ⟨x57, e_x57, h⟩ := lt_o h
                    have hJ116 : ∀ (x57' : Int32) (ls : Array Slot), x57 = x57' → lv_has ls 8 [(5, .long x43), (7, .int x44)] → W p l e ({ frames := 3, cells := 0, slots := 0, locals := 77 } : Room) s m args below meth c H locs 0 0 Q (F0 m 116 ls [.int x57']) := by
                      intro x57' ls q_x57 hl
                      subst q_x57
                      refine lv_lload hx hb d_Md_cast_116 (lv_at hl 0 rfl) ?_
                      refine lv_lconst hx hb d_Md_cast_118 lc_0 ?_
                      refine W.lcmp hx hb d_Md_cast_119 ?_
                      obtain ⟨x58, e_x58, h⟩ := lt_o h
                      have hJ131 : ∀ (x58' : Int64) (ls : Array Slot), x58 = x58' → lv_has ls 8 [(7, .int x44)] → W p l e ({ frames := 3, cells := 0, slots := 0, locals := 77 } : Room) s m args below meth c H locs 0 0 Q (F0 m 131 ls [.long x58', .int x57]) := by
                        intro x58' ls q_x58 hl
                        subst q_x58
                        refine lv_iconst hx hb d_Md_cast_131 ic_0 ?_
                        refine lv_iconst hx hb d_Md_cast_132 ic_0 ?_
                        refine lv_iload hx hb d_Md_cast_133 (lv_at hl 0 rfl) ?_
                        obtain ⟨x59, e_x59, h⟩ := bd_o h
                        refine q_S (As := [.int x57, .long x58, .int (0 : Int32), .int (0 : Int32), .int x44]) (rest := []) (n := 5) hx hb hml hown hts (c_Md_round l n x57 x58 (0 : Int32) (0 : Int32) x44 _ e_x59) rfl rfl m_262 m_263 m_264 m_130 (by decide +kernel) ⟨Nat.le_of_ble_eq_true rfl, Nat.le_of_ble_eq_true rfl⟩ (p0_bl) (fun U hU hW => p0_mv hU hW hNB) rfl hl.1 rfl (Nat.le_of_ble_eq_true rfl) d_Md_cast_135 ⟨Nat.zero_le _, Nat.zero_le _⟩ ?_
                        exact hJ138 _ _ _ _ _ _ _ _ _ _ _ _ ls _ _ (lv_sub hl [] rfl) hP hD hS h
                      refine lv_if_ge (tgt := 129) hx hb d_Md_cast_120 rfl (fun hc => ?_) (fun hc => ?_)
                      · have hc := (lg_cmp_ge _ _).mp hc
                        have e_x58 := e_x58.trans (if_pos hc)
                        refine lv_lload hx hb d_Md_cast_129 (lv_at hl 0 rfl) ?_
                        exact hJ131 _ ls e_x58 (lv_sub hl [1] rfl)
                      · have hc := mt (lg_cmp_ge _ _).mpr hc
                        have e_x58 := e_x58.trans (if_neg hc)
                        refine lv_lload hx hb d_Md_cast_123 (lv_at hl 0 rfl) ?_
                        refine lv_lneg hx hb d_Md_cast_125 ?_
                        refine lv_goto (tgt := 131) hx hb d_Md_cast_126 rfl ?_
                        exact hJ131 _ ls e_x58 (lv_sub hl [1] rfl)
                    refine lv_if_ge (tgt := 115) hx hb d_Md_cast_108 rfl (fun hc => ?_) (fun hc => ?_)
                    · have hc := (lg_cmp_ge _ _).mp hc
                      have e_x57 := e_x57.trans (if_pos hc)
                      refine lv_iconst hx hb d_Md_cast_115 ic_0 ?_
                      exact hJ116 _ ls e_x57 (lv_sub hl [1, 0] rfl)
                    · have hc := mt (lg_cmp_ge _ _).mpr hc
                      have e_x57 := e_x57.trans (if_neg hc)
                      refine lv_iconst hx hb d_Md_cast_111 ic_1 ?_
                      refine lv_goto (tgt := 116) hx hb d_Md_cast_112 rfl ?_
                      exact hJ116 _ ls e_x57 (lv_sub hl [1, 0] rfl)
                  · have hc := not_not_intro ((lg_cmp_eq _ _).mp hc)
                    have h := ite_f hc h
                    refine lv_lconst hx hb d_Md_cast_100 lc_0 ?_
                    refine lv_goto (tgt := 138) hx hb d_Md_cast_101 rfl ?_
                    exact hJ138 _ _ _ _ _ _ _ _ _ _ _ _ ls _ _ (lv_sub hl [] rfl) hP hD hS h
                · have hc := not_not_intro ((lg_cmp_eq _ _).mp hc)
                  have h := ite_f hc h
                  refine lv_iconst hx hb d_Md_cast_81 ic_1 ?_
                  refine lv_ldc2 hx hb hown (hT _ m_308) d_Md_cast_82 ?_
                  refine lv_iconst hx hb d_Md_cast_85 ic_1 ?_
                  refine lv_iconst hx hb d_Md_cast_86 ic_0 ?_
                  refine lv_iload hx hb d_Md_cast_87 (lv_at hl 0 rfl) ?_
                  obtain ⟨x60, e_x60, h⟩ := bd_o h
                  refine q_S (As := [.int (1 : Int32), .long (4611686018427387904 : Int64), .int (1 : Int32), .int (0 : Int32), .int x44]) (rest := []) (n := 5) hx hb hml hown hts (c_Md_round l n (1 : Int32) (4611686018427387904 : Int64) (1 : Int32) (0 : Int32) x44 _ e_x60) rfl rfl m_262 m_263 m_264 m_130 (by decide +kernel) ⟨Nat.le_of_ble_eq_true rfl, Nat.le_of_ble_eq_true rfl⟩ (p0_bl) (fun U hU hW => p0_mv hU hW hNB) rfl hl.1 rfl (Nat.le_of_ble_eq_true rfl) d_Md_cast_89 ⟨Nat.zero_le _, Nat.zero_le _⟩ ?_
                  obtain rfl := Option.some.inj h
                  exact hret 92 ls _ _ _ rfl hP hD hS d_Md_cast_92
              refine lv_icmp_ne (tgt := 69) hx hb d_Md_cast_62 rfl (fun hc => ?_) (fun hc => ?_)
              · have e_x44 := e_x44.trans (if_pos hc)
                refine lv_iconst hx hb d_Md_cast_69 ic_0 ?_
                exact hJ70 _ ls e_x44 (lv_sub hl [0] rfl)
              · have hc := not_not_intro hc
                have e_x44 := e_x44.trans (if_neg hc)
                refine lv_iconst hx hb d_Md_cast_65 ic_1 ?_
                refine lv_goto (tgt := 70) hx hb d_Md_cast_66 rfl ?_
                exact hJ70 _ ls e_x44 (lv_sub hl [0] rfl)
            · have h := ite_f hc h
              refine lv_lload hx hb d_Md_cast_51 (lv_at hl 0 rfl) ?_
              refine lv_iload hx hb d_Md_cast_53 (lv_at hl 4 rfl) ?_
              refine q_S (As := [.long x43, .int a3]) (rest := []) (n := 2) hx hb hml hown hts (c_Md_cut l x43 a3) rfl rfl m_287 m_288 m_289 m_130 (by decide +kernel) ⟨Nat.le_of_ble_eq_true rfl, Nat.le_of_ble_eq_true rfl⟩ (p0_bl) (fun U hU hW => p0_mv hU hW hNB) rfl hl.1 rfl (Nat.le_of_ble_eq_true rfl) d_Md_cast_55 ⟨Nat.zero_le _, Nat.zero_le _⟩ ?_
              obtain rfl := Option.some.inj h
              exact hret 58 ls _ _ _ rfl hP hD hS d_Md_cast_58
        · have h := ite_f hc h
          exact hJ22 _ _ _ _ _ _ _ _ _ _ _ ls _ _ (lv_sub hl [0] rfl) hP hD hS h
-- Md_compare
theorem d_Md_compare_0 : decode b_Md_compare 0 = .ok (.iload 5, 2) := by decide +kernel
theorem d_Md_compare_2 : decode b_Md_compare 2 = .ok (.iconst 3, 1) := by decide +kernel
theorem d_Md_compare_3 : decode b_Md_compare 3 = .ok (.if_icmp .lt 10, 3) := by decide +kernel
theorem d_Md_compare_6 : decode b_Md_compare 6 = .ok (.iload 5, 2) := by decide +kernel
theorem d_Md_compare_8 : decode b_Md_compare 8 = .ok (.bipush 6, 2) := by decide +kernel
theorem d_Md_compare_10 : decode b_Md_compare 10 = .ok (.if_icmp .le 10, 3) := by decide +kernel
theorem d_Md_compare_13 : decode b_Md_compare 13 = .ok (.aload_n 0, 1) := by decide +kernel
theorem d_Md_compare_14 : decode b_Md_compare 14 = .ok (.iconst 1, 1) := by decide +kernel
theorem d_Md_compare_15 : decode b_Md_compare 15 = .ok (.invokevirtual 123, 3) := by decide +kernel
theorem d_Md_compare_18 : decode b_Md_compare 18 = .ok (.l2i, 1) := by decide +kernel
theorem d_Md_compare_19 : decode b_Md_compare 19 = .ok (.ireturn, 1) := by decide +kernel
theorem d_Md_compare_20 : decode b_Md_compare 20 = .ok (.aload_n 0, 1) := by decide +kernel
theorem d_Md_compare_21 : decode b_Md_compare 21 = .ok (.iconst 0, 1) := by decide +kernel
theorem d_Md_compare_22 : decode b_Md_compare 22 = .ok (.putfield 20, 3) := by decide +kernel
theorem d_Md_compare_25 : decode b_Md_compare 25 = .ok (.iload 5, 2) := by decide +kernel
theorem d_Md_compare_27 : decode b_Md_compare 27 = .ok (.iconst 4, 1) := by decide +kernel
theorem d_Md_compare_28 : decode b_Md_compare 28 = .ok (.if_icmp .gt 45, 3) := by decide +kernel
theorem d_Md_compare_31 : decode b_Md_compare 31 = .ok (.lload_n 1, 1) := by decide +kernel
theorem d_Md_compare_32 : decode b_Md_compare 32 = .ok (.iload 5, 2) := by decide +kernel
theorem d_Md_compare_34 : decode b_Md_compare 34 = .ok (.invokestatic 119, 3) := by decide +kernel
theorem d_Md_compare_37 : decode b_Md_compare 37 = .ok (.lstore 6, 2) := by decide +kernel
theorem d_Md_compare_39 : decode b_Md_compare 39 = .ok (.lload_n 3, 1) := by decide +kernel
theorem d_Md_compare_40 : decode b_Md_compare 40 = .ok (.iload 5, 2) := by decide +kernel
theorem d_Md_compare_42 : decode b_Md_compare 42 = .ok (.invokestatic 119, 3) := by decide +kernel
theorem d_Md_compare_45 : decode b_Md_compare 45 = .ok (.lstore 8, 2) := by decide +kernel
theorem d_Md_compare_47 : decode b_Md_compare 47 = .ok (.lload 6, 2) := by decide +kernel
theorem d_Md_compare_49 : decode b_Md_compare 49 = .ok (.lload 8, 2) := by decide +kernel
theorem d_Md_compare_51 : decode b_Md_compare 51 = .ok (.lcmp, 1) := by decide +kernel
theorem d_Md_compare_52 : decode b_Md_compare 52 = .ok (.ifCond .ge 7, 3) := by decide +kernel
theorem d_Md_compare_55 : decode b_Md_compare 55 = .ok (.iconst (-1), 1) := by decide +kernel
theorem d_Md_compare_56 : decode b_Md_compare 56 = .ok (.goto 16, 3) := by decide +kernel
theorem d_Md_compare_59 : decode b_Md_compare 59 = .ok (.lload 6, 2) := by decide +kernel
theorem d_Md_compare_61 : decode b_Md_compare 61 = .ok (.lload 8, 2) := by decide +kernel
theorem d_Md_compare_63 : decode b_Md_compare 63 = .ok (.lcmp, 1) := by decide +kernel
theorem d_Md_compare_64 : decode b_Md_compare 64 = .ok (.ifCond .le 7, 3) := by decide +kernel
theorem d_Md_compare_67 : decode b_Md_compare 67 = .ok (.iconst 1, 1) := by decide +kernel
theorem d_Md_compare_68 : decode b_Md_compare 68 = .ok (.goto 4, 3) := by decide +kernel
theorem d_Md_compare_71 : decode b_Md_compare 71 = .ok (.iconst 0, 1) := by decide +kernel
theorem d_Md_compare_72 : decode b_Md_compare 72 = .ok (.ireturn, 1) := by decide +kernel
theorem d_Md_compare_73 : decode b_Md_compare 73 = .ok (.iload 5, 2) := by decide +kernel
theorem d_Md_compare_75 : decode b_Md_compare 75 = .ok (.iconst 5, 1) := by decide +kernel
theorem d_Md_compare_76 : decode b_Md_compare 76 = .ok (.if_icmp .ne 7, 3) := by decide +kernel
theorem d_Md_compare_79 : decode b_Md_compare 79 = .ok (.iconst 1, 1) := by decide +kernel
theorem d_Md_compare_80 : decode b_Md_compare 80 = .ok (.goto 4, 3) := by decide +kernel
theorem d_Md_compare_83 : decode b_Md_compare 83 = .ok (.iconst 0, 1) := by decide +kernel
theorem d_Md_compare_84 : decode b_Md_compare 84 = .ok (.istore 6, 2) := by decide +kernel
theorem d_Md_compare_86 : decode b_Md_compare 86 = .ok (.aload_n 0, 1) := by decide +kernel
theorem d_Md_compare_87 : decode b_Md_compare 87 = .ok (.lload_n 1, 1) := by decide +kernel
theorem d_Md_compare_88 : decode b_Md_compare 88 = .ok (.iload 6, 2) := by decide +kernel
theorem d_Md_compare_90 : decode b_Md_compare 90 = .ok (.iconst 1, 1) := by decide +kernel
theorem d_Md_compare_91 : decode b_Md_compare 91 = .ok (.invokevirtual 101, 3) := by decide +kernel
theorem d_Md_compare_94 : decode b_Md_compare 94 = .ok (.aload_n 0, 1) := by decide +kernel
theorem d_Md_compare_95 : decode b_Md_compare 95 = .ok (.lload_n 3, 1) := by decide +kernel
theorem d_Md_compare_96 : decode b_Md_compare 96 = .ok (.iload 6, 2) := by decide +kernel
theorem d_Md_compare_98 : decode b_Md_compare 98 = .ok (.iconst 0, 1) := by decide +kernel
theorem d_Md_compare_99 : decode b_Md_compare 99 = .ok (.invokevirtual 101, 3) := by decide +kernel
theorem d_Md_compare_102 : decode b_Md_compare 102 = .ok (.aload_n 0, 1) := by decide +kernel
theorem d_Md_compare_103 : decode b_Md_compare 103 = .ok (.getfield 55, 3) := by decide +kernel
theorem d_Md_compare_106 : decode b_Md_compare 106 = .ok (.ifCond .ne 10, 3) := by decide +kernel
theorem d_Md_compare_109 : decode b_Md_compare 109 = .ok (.aload_n 0, 1) := by decide +kernel
theorem d_Md_compare_110 : decode b_Md_compare 110 = .ok (.getfield 70, 3) := by decide +kernel
theorem d_Md_compare_113 : decode b_Md_compare 113 = .ok (.ifCond .eq 5, 3) := by decide +kernel
theorem d_Md_compare_116 : decode b_Md_compare 116 = .ok (.iconst 2, 1) := by decide +kernel
theorem d_Md_compare_117 : decode b_Md_compare 117 = .ok (.ireturn, 1) := by decide +kernel
theorem d_Md_compare_118 : decode b_Md_compare 118 = .ok (.iload 6, 2) := by decide +kernel
theorem d_Md_compare_120 : decode b_Md_compare 120 = .ok (.ifCond .eq 9, 3) := by decide +kernel
theorem d_Md_compare_123 : decode b_Md_compare 123 = .ok (.ldc2_w 139, 3) := by decide +kernel
theorem d_Md_compare_126 : decode b_Md_compare 126 = .ok (.goto 6, 3) := by decide +kernel
theorem d_Md_compare_129 : decode b_Md_compare 129 = .ok (.ldc2_w 135, 3) := by decide +kernel
theorem d_Md_compare_132 : decode b_Md_compare 132 = .ok (.lstore 7, 2) := by decide +kernel
theorem d_Md_compare_134 : decode b_Md_compare 134 = .ok (.aload_n 0, 1) := by decide +kernel
theorem d_Md_compare_135 : decode b_Md_compare 135 = .ok (.getfield 51, 3) := by decide +kernel
theorem d_Md_compare_138 : decode b_Md_compare 138 = .ok (.ifCond .eq 11, 3) := by decide +kernel
theorem d_Md_compare_141 : decode b_Md_compare 141 = .ok (.lload_n 1, 1) := by decide +kernel
theorem d_Md_compare_142 : decode b_Md_compare 142 = .ok (.lload 7, 2) := by decide +kernel
theorem d_Md_compare_144 : decode b_Md_compare 144 = .ok (.land, 1) := by decide +kernel
theorem d_Md_compare_145 : decode b_Md_compare 145 = .ok (.lneg, 1) := by decide +kernel
theorem d_Md_compare_146 : decode b_Md_compare 146 = .ok (.goto 7, 3) := by decide +kernel
theorem d_Md_compare_149 : decode b_Md_compare 149 = .ok (.lload_n 1, 1) := by decide +kernel
theorem d_Md_compare_150 : decode b_Md_compare 150 = .ok (.lload 7, 2) := by decide +kernel
theorem d_Md_compare_152 : decode b_Md_compare 152 = .ok (.land, 1) := by decide +kernel
theorem d_Md_compare_153 : decode b_Md_compare 153 = .ok (.lstore 9, 2) := by decide +kernel
theorem d_Md_compare_155 : decode b_Md_compare 155 = .ok (.aload_n 0, 1) := by decide +kernel
theorem d_Md_compare_156 : decode b_Md_compare 156 = .ok (.getfield 67, 3) := by decide +kernel
theorem d_Md_compare_159 : decode b_Md_compare 159 = .ok (.ifCond .eq 11, 3) := by decide +kernel
theorem d_Md_compare_162 : decode b_Md_compare 162 = .ok (.lload_n 3, 1) := by decide +kernel
theorem d_Md_compare_163 : decode b_Md_compare 163 = .ok (.lload 7, 2) := by decide +kernel
theorem d_Md_compare_165 : decode b_Md_compare 165 = .ok (.land, 1) := by decide +kernel
theorem d_Md_compare_166 : decode b_Md_compare 166 = .ok (.lneg, 1) := by decide +kernel
theorem d_Md_compare_167 : decode b_Md_compare 167 = .ok (.goto 7, 3) := by decide +kernel
theorem d_Md_compare_170 : decode b_Md_compare 170 = .ok (.lload_n 3, 1) := by decide +kernel
theorem d_Md_compare_171 : decode b_Md_compare 171 = .ok (.lload 7, 2) := by decide +kernel
theorem d_Md_compare_173 : decode b_Md_compare 173 = .ok (.land, 1) := by decide +kernel
theorem d_Md_compare_174 : decode b_Md_compare 174 = .ok (.lstore 11, 2) := by decide +kernel
theorem d_Md_compare_176 : decode b_Md_compare 176 = .ok (.lload 9, 2) := by decide +kernel
theorem d_Md_compare_178 : decode b_Md_compare 178 = .ok (.lload 11, 2) := by decide +kernel
theorem d_Md_compare_180 : decode b_Md_compare 180 = .ok (.lcmp, 1) := by decide +kernel
theorem d_Md_compare_181 : decode b_Md_compare 181 = .ok (.ifCond .ge 7, 3) := by decide +kernel
theorem d_Md_compare_184 : decode b_Md_compare 184 = .ok (.iconst (-1), 1) := by decide +kernel
theorem d_Md_compare_185 : decode b_Md_compare 185 = .ok (.goto 16, 3) := by decide +kernel
theorem d_Md_compare_188 : decode b_Md_compare 188 = .ok (.lload 9, 2) := by decide +kernel
theorem d_Md_compare_190 : decode b_Md_compare 190 = .ok (.lload 11, 2) := by decide +kernel
theorem d_Md_compare_192 : decode b_Md_compare 192 = .ok (.lcmp, 1) := by decide +kernel
theorem d_Md_compare_193 : decode b_Md_compare 193 = .ok (.ifCond .le 7, 3) := by decide +kernel
theorem d_Md_compare_196 : decode b_Md_compare 196 = .ok (.iconst 1, 1) := by decide +kernel
theorem d_Md_compare_197 : decode b_Md_compare 197 = .ok (.goto 4, 3) := by decide +kernel
theorem d_Md_compare_200 : decode b_Md_compare 200 = .ok (.iconst 0, 1) := by decide +kernel
theorem d_Md_compare_201 : decode b_Md_compare 201 = .ok (.ireturn, 1) := by decide +kernel
def F_Md_compare (thr : Int32) (m1 : Int64) (m2 : Int64) (e1 : Int32) (e2 : Int32) (mi1 : Int32) (mi2 : Int32) (na1 : Int32) (na2 : Int32) (fa1 : Int32) (fa2 : Int32) (a1 : Int64) (a2 : Int64) (a3 : Int32) : Int32 × Int32 × Int64 × Int64 × Int32 × Int32 × Int32 × Int32 × Int32 × Int32 × Int32 × Int32 := lt_ (fun (thr_1 : Int32) (m1_2 : Int64) (m2_3 : Int64) (e1_4 : Int32) (e2_5 : Int32) (mi1_6 : Int32) (mi2_7 : Int32) (na1_8 : Int32) (na2_9 : Int32) (fa1_10 : Int32) (fa2_11 : Int32) => lt_ (F_Md_fails thr_1 (1 : Int32)) fun x12 => ((x12.1).toInt32, x12.2, m1_2, m2_3, e1_4, e2_5, mi1_6, mi2_7, na1_8, na2_9, fa1_10, fa2_11)) fun j13 => if a3 < (3 : Int32) then (j13 thr m1 m2 e1 e2 mi1 mi2 na1 na2 fa1 fa2) else (if a3 ≤ (6 : Int32) then (if (4 : Int32) < a3 then (lt_ (if ¬ a3 = (5 : Int32) then (0 : Int32) else (1 : Int32)) fun x13 => lt_ (F_Md_apart m1 m2 e1 e2 mi1 mi2 na1 na2 fa1 fa2 a1 x13 (1 : Int32)) fun x14 => lt_ (F_Md_apart x14.1 x14.2.1 x14.2.2.1 x14.2.2.2.1 x14.2.2.2.2.1 x14.2.2.2.2.2.1 x14.2.2.2.2.2.2.1 x14.2.2.2.2.2.2.2.1 x14.2.2.2.2.2.2.2.2.1 x14.2.2.2.2.2.2.2.2.2 a2 x13 (0 : Int32)) fun x15 => lt_ (fun (thr_16 : Int32) (m1_17 : Int64) (m2_18 : Int64) (e1_19 : Int32) (e2_20 : Int32) (mi1_21 : Int32) (mi2_22 : Int32) (na1_23 : Int32) (na2_24 : Int32) (fa1_25 : Int32) (fa2_26 : Int32) => ((2 : Int32), thr_16, m1_17, m2_18, e1_19, e2_20, mi1_21, mi2_22, na1_23, na2_24, fa1_25, fa2_26)) fun j116 => if ¬ x15.2.2.2.2.2.2.1 = 0 then (j116 (0 : Int32) x15.1 x15.2.1 x15.2.2.1 x15.2.2.2.1 x15.2.2.2.2.1 x15.2.2.2.2.2.1 x15.2.2.2.2.2.2.1 x15.2.2.2.2.2.2.2.1 x15.2.2.2.2.2.2.2.2.1 x15.2.2.2.2.2.2.2.2.2) else (if x15.2.2.2.2.2.2.2.1 = 0 then (lt_ (if x13 = 0 then (9223372036854775807 : Int64) else (2147483647 : Int64)) fun x27 => lt_ (if x15.2.2.2.2.1 = 0 then a1 &&& x27 else -(a1 &&& x27)) fun x28 => lt_ (if x15.2.2.2.2.2.1 = 0 then a2 &&& x27 else -(a2 &&& x27)) fun x29 => lt_ (if x29 ≤ x28 then if x28 ≤ x29 then (0 : Int32) else (1 : Int32) else (-1 : Int32)) fun x30 => (x30, (0 : Int32), x15.1, x15.2.1, x15.2.2.1, x15.2.2.2.1, x15.2.2.2.2.1, x15.2.2.2.2.2.1, x15.2.2.2.2.2.2.1, x15.2.2.2.2.2.2.2.1, x15.2.2.2.2.2.2.2.2.1, x15.2.2.2.2.2.2.2.2.2)) else (j116 (0 : Int32) x15.1 x15.2.1 x15.2.2.1 x15.2.2.2.1 x15.2.2.2.2.1 x15.2.2.2.2.2.1 x15.2.2.2.2.2.2.1 x15.2.2.2.2.2.2.2.1 x15.2.2.2.2.2.2.2.2.1 x15.2.2.2.2.2.2.2.2.2))) else (lt_ (F_Md_cut a1 a3) fun x31 => lt_ (F_Md_cut a2 a3) fun x32 => lt_ (if x32 ≤ x31 then if x31 ≤ x32 then (0 : Int32) else (1 : Int32) else (-1 : Int32)) fun x33 => (x33, (0 : Int32), m1, m2, e1, e2, mi1, mi2, na1, na2, fa1, fa2))) else (j13 thr m1 m2 e1 e2 mi1 mi2 na1 na2 fa1 fa2))
set_option maxHeartbeats 4000000 in
set_option maxRecDepth 100000 in
theorem c_Md_compare (l : Launch) (D : va_G) (A : Nat → Prop) (cI cL cC : ClassId) (ad : Nat → Nat) (X : va_W) (laid : Int32) (gone : Int32) (thr : Int32) (m1 : Int64) (m2 : Int64) (e1 : Int32) (e2 : Int32) (mi1 : Int32) (mi2 : Int32) (na1 : Int32) (na2 : Int32) (fa1 : Int32) (fa2 : Int32) (lets : Nat → Int32) (rlen : Int32) (rlaid : Int32) (rgone : Int32) (rthr : Int32) (were : Int32) (none_ : Int32) (beyo : Int32) (aN : Int32) (bN : Int32) (fN : Int32) (lN_ : Int32) (rN : Int32) (pN : Int32) (twos : Int32) (at_ : Int32) (rdig : Int32) (rpow : Int32) (good : Int32) (txt : Nat → Int32) (wri : Nat → Int32) (ra : Nat → Int32) (rb : Nat → Int32) (rfive : Nat → Int32) (rleft : Nat → Int32) (rright : Nat → Int32) (rpart : Nat → Int32) (a1 : Int64) (a2 : Int64) (a3 : Int32) (r : Int32 × Int32 × Int64 × Int64 × Int32 × Int32 × Int32 × Int32 × Int32 × Int32 × Int32 × Int32) (h : F_Md_compare thr m1 m2 e1 e2 mi1 mi2 na1 na2 fa1 fa2 a1 a2 a3 = r) : Met l y_Md_compare (.code y_Md_compare b_Md_compare 13 (some .int) :: BIG) ({ frames := 1, cells := 0, slots := 0, locals := 35 } : Room) (va_Pc [.ref (ad 0), .long a1, .long a2, .int a3] (gPre D A (tysV cI cL cC) (gM cI cL cC ad X laid gone thr m1 m2 e1 e2 mi1 mi2 na1 na2 fa1 fa2 lets rlen rlaid rgone rthr were none_ beyo aN bN fN lN_ rN pN twos at_ rdig rpow good txt wri ra rb rfive rleft rright rpart))) (gQ D A (some (.int r.1)) (gM cI cL cC ad X laid gone r.2.1 r.2.2.1 r.2.2.2.1 r.2.2.2.2.1 r.2.2.2.2.2.1 r.2.2.2.2.2.2.1 r.2.2.2.2.2.2.2.1 r.2.2.2.2.2.2.2.2.1 r.2.2.2.2.2.2.2.2.2.1 r.2.2.2.2.2.2.2.2.2.2.1 r.2.2.2.2.2.2.2.2.2.2.2 lets rlen rlaid rgone rthr were none_ beyo aN bN fN lN_ rN pN twos at_ rdig rpow good txt wri ra rb rfive rleft rright rpart)) 0 0 A := by
  refine gOpen_i rfl (Nat.le_of_ble_eq_true rfl) ?_
  intro p e s m args below meth c Q ls hx hb hml hown hts hT hNB hP hK hD hl hret
  have hown : s.vm.findClass R_Md = some m.cls := hown
  have hS : va_S A s.heap s.heap [] := va_S.rf
  have hl : lv_has ls 13 [(0, .ref (ad 0)), (1, .long a1), (3, .long a2), (5, .int a3)] := hl
  have h : (lt_ (fun (thr_1 : Int32) (m1_2 : Int64) (m2_3 : Int64) (e1_4 : Int32) (e2_5 : Int32) (mi1_6 : Int32) (mi2_7 : Int32) (na1_8 : Int32) (na2_9 : Int32) (fa1_10 : Int32) (fa2_11 : Int32) => lt_ (F_Md_fails thr_1 (1 : Int32)) fun x12 => ((x12.1).toInt32, x12.2, m1_2, m2_3, e1_4, e2_5, mi1_6, mi2_7, na1_8, na2_9, fa1_10, fa2_11)) fun j13 => if a3 < (3 : Int32) then (j13 thr m1 m2 e1 e2 mi1 mi2 na1 na2 fa1 fa2) else (if a3 ≤ (6 : Int32) then (if (4 : Int32) < a3 then (lt_ (if ¬ a3 = (5 : Int32) then (0 : Int32) else (1 : Int32)) fun x13 => lt_ (F_Md_apart m1 m2 e1 e2 mi1 mi2 na1 na2 fa1 fa2 a1 x13 (1 : Int32)) fun x14 => lt_ (F_Md_apart x14.1 x14.2.1 x14.2.2.1 x14.2.2.2.1 x14.2.2.2.2.1 x14.2.2.2.2.2.1 x14.2.2.2.2.2.2.1 x14.2.2.2.2.2.2.2.1 x14.2.2.2.2.2.2.2.2.1 x14.2.2.2.2.2.2.2.2.2 a2 x13 (0 : Int32)) fun x15 => lt_ (fun (thr_16 : Int32) (m1_17 : Int64) (m2_18 : Int64) (e1_19 : Int32) (e2_20 : Int32) (mi1_21 : Int32) (mi2_22 : Int32) (na1_23 : Int32) (na2_24 : Int32) (fa1_25 : Int32) (fa2_26 : Int32) => ((2 : Int32), thr_16, m1_17, m2_18, e1_19, e2_20, mi1_21, mi2_22, na1_23, na2_24, fa1_25, fa2_26)) fun j116 => if ¬ x15.2.2.2.2.2.2.1 = 0 then (j116 (0 : Int32) x15.1 x15.2.1 x15.2.2.1 x15.2.2.2.1 x15.2.2.2.2.1 x15.2.2.2.2.2.1 x15.2.2.2.2.2.2.1 x15.2.2.2.2.2.2.2.1 x15.2.2.2.2.2.2.2.2.1 x15.2.2.2.2.2.2.2.2.2) else (if x15.2.2.2.2.2.2.2.1 = 0 then (lt_ (if x13 = 0 then (9223372036854775807 : Int64) else (2147483647 : Int64)) fun x27 => lt_ (if x15.2.2.2.2.1 = 0 then a1 &&& x27 else -(a1 &&& x27)) fun x28 => lt_ (if x15.2.2.2.2.2.1 = 0 then a2 &&& x27 else -(a2 &&& x27)) fun x29 => lt_ (if x29 ≤ x28 then if x28 ≤ x29 then (0 : Int32) else (1 : Int32) else (-1 : Int32)) fun x30 => (x30, (0 : Int32), x15.1, x15.2.1, x15.2.2.1, x15.2.2.2.1, x15.2.2.2.2.1, x15.2.2.2.2.2.1, x15.2.2.2.2.2.2.1, x15.2.2.2.2.2.2.2.1, x15.2.2.2.2.2.2.2.2.1, x15.2.2.2.2.2.2.2.2.2)) else (j116 (0 : Int32) x15.1 x15.2.1 x15.2.2.1 x15.2.2.2.1 x15.2.2.2.2.1 x15.2.2.2.2.2.1 x15.2.2.2.2.2.2.1 x15.2.2.2.2.2.2.2.1 x15.2.2.2.2.2.2.2.2.1 x15.2.2.2.2.2.2.2.2.2))) else (lt_ (F_Md_cut a1 a3) fun x31 => lt_ (F_Md_cut a2 a3) fun x32 => lt_ (if x32 ≤ x31 then if x31 ≤ x32 then (0 : Int32) else (1 : Int32) else (-1 : Int32)) fun x33 => (x33, (0 : Int32), m1, m2, e1, e2, mi1, mi2, na1, na2, fa1, fa2))) else (j13 thr m1 m2 e1 e2 mi1 mi2 na1 na2 fa1 fa2))) = r := h
  refine lv_iload hx hb d_Md_compare_0 (lv_at hl 3 rfl) ?_
  refine lv_iconst hx hb d_Md_compare_2 ic_3 ?_
  obtain ⟨j13, e_j13, h⟩ := lt_o h
  have hJ13 : ∀ (thr_1 : Int32) (m1_2 : Int64) (m2_3 : Int64) (e1_4 : Int32) (e2_5 : Int32) (mi1_6 : Int32) (mi2_7 : Int32) (na1_8 : Int32) (na2_9 : Int32) (fa1_10 : Int32) (fa2_11 : Int32) (ls : Array Slot) (H : Heap) (locs : List Loc), lv_has ls 13 [(0, .ref (ad 0))] → va_P D cls (gM cI cL cC ad X laid gone thr_1 m1_2 m2_3 e1_4 e2_5 mi1_6 mi2_7 na1_8 na2_9 fa1_10 fa2_11 lets rlen rlaid rgone rthr were none_ beyo aN bN fN lN_ rN pN twos at_ rdig rpow good txt wri ra rb rfive rleft rright rpart) H → va_D A (gM cI cL cC ad X laid gone thr_1 m1_2 m2_3 e1_4 e2_5 mi1_6 mi2_7 na1_8 na2_9 fa1_10 fa2_11 lets rlen rlaid rgone rthr were none_ beyo aN bN fN lN_ rN pN twos at_ rdig rpow good txt wri ra rb rfive rleft rright rpart) → va_S A s.heap H locs → j13 thr_1 m1_2 m2_3 e1_4 e2_5 mi1_6 mi2_7 na1_8 na2_9 fa1_10 fa2_11 = r → W p l e ({ frames := 1, cells := 0, slots := 0, locals := 35 } : Room) s m args below meth c H locs 0 0 Q (F0 m 13 ls []) := by
    intro thr_1 m1_2 m2_3 e1_4 e2_5 mi1_6 mi2_7 na1_8 na2_9 fa1_10 fa2_11 ls H locs hl hP hD hS h
    rw [e_j13] at h
    refine lv_aload_n hx hb d_Md_compare_13 rfl (lv_at hl 0 rfl) ?_
    refine lv_iconst hx hb d_Md_compare_14 ic_1 ?_
    obtain ⟨x12, e_x12, h⟩ := lt_o h
    refine q_GV (D := D) (A := A) (C := R_Md) (b := ad 0) (As := [.int (1 : Int32)]) (rest := []) (n := 1) hx hb hml hown hts (c_Md_fails l D A cI cL cC ad X laid gone thr_1 m1_2 m2_3 e1_4 e2_5 mi1_6 mi2_7 na1_8 na2_9 fa1_10 fa2_11 lets rlen rlaid rgone rthr were none_ beyo aN bN fN lN_ rN pN twos at_ rdig rpow good txt wri ra rb rfive rleft rright rpart (1 : Int32) x12 e_x12.symm) rfl rfl m_290 m_291 m_292 m_293 m_130 (by decide +kernel) ⟨Nat.le_of_ble_eq_true rfl, Nat.le_of_ble_eq_true rfl⟩ (va_recv hK hP (ci := 4) rfl (q0 := 0) rfl) hNB hK hP hD hS rfl hl.1 rfl (Nat.le_of_ble_eq_true rfl) d_Md_compare_15 ⟨Nat.zero_le _, Nat.zero_le _⟩ (fun H locs hP hD hS => ?_)
    have hP : va_P D cls (gM cI cL cC ad X laid gone x12.2 m1_2 m2_3 e1_4 e2_5 mi1_6 mi2_7 na1_8 na2_9 fa1_10 fa2_11 lets rlen rlaid rgone rthr were none_ beyo aN bN fN lN_ rN pN twos at_ rdig rpow good txt wri ra rb rfive rleft rright rpart) H := hP
    have hD : va_D A (gM cI cL cC ad X laid gone x12.2 m1_2 m2_3 e1_4 e2_5 mi1_6 mi2_7 na1_8 na2_9 fa1_10 fa2_11 lets rlen rlaid rgone rthr were none_ beyo aN bN fN lN_ rN pN twos at_ rdig rpow good txt wri ra rb rfive rleft rright rpart) := hD
    refine lv_l2i hx hb d_Md_compare_18 rfl ?_
    subst h
    exact hret 19 ls _ _ _ rfl hP hD hS d_Md_compare_19
  refine lv_icmp_lt (tgt := 13) hx hb d_Md_compare_3 rfl (fun hc => ?_) (fun hc => ?_)
  · have h := ite_t hc h
    exact hJ13 _ _ _ _ _ _ _ _ _ _ _ ls _ _ (lv_sub hl [0] rfl) hP hD hS h
  · have h := ite_f hc h
    refine lv_iload hx hb d_Md_compare_6 (lv_at hl 3 rfl) ?_
    refine lv_bipush hx hb d_Md_compare_8 bp_6 ?_
    refine lv_icmp_le (tgt := 20) hx hb d_Md_compare_10 rfl (fun hc => ?_) (fun hc => ?_)
    · have h := ite_t hc h
      refine lv_aload_n hx hb d_Md_compare_20 rfl (lv_at hl 0 rfl) ?_
      refine lv_iconst hx hb d_Md_compare_21 ic_0 ?_
      refine va_put (D := D) (ci := 4) (C := R_Md) (T := T_Md) (N := 15) hx hb hT in_Md ty_Md tyok_Md nm_Md hown hK hP hD hS 0 rfl rfl 4 (by decide) (hT _ m_247) (fun _ h9 => h9) rfl (ty := .int) (by decide +kernel) rfl rfl (by decide : 4 < 15) d_Md_compare_22 (fun H locs hP hD hS => ?_)
      have hP : va_P D cls (gM cI cL cC ad X laid gone (0 : Int32) m1 m2 e1 e2 mi1 mi2 na1 na2 fa1 fa2 lets rlen rlaid rgone rthr were none_ beyo aN bN fN lN_ rN pN twos at_ rdig rpow good txt wri ra rb rfive rleft rright rpart) H := hP
      have hD : va_D A (gM cI cL cC ad X laid gone (0 : Int32) m1 m2 e1 e2 mi1 mi2 na1 na2 fa1 fa2 lets rlen rlaid rgone rthr were none_ beyo aN bN fN lN_ rN pN twos at_ rdig rpow good txt wri ra rb rfive rleft rright rpart) := hD
      refine lv_iload hx hb d_Md_compare_25 (lv_at hl 3 rfl) ?_
      refine lv_iconst hx hb d_Md_compare_27 ic_4 ?_
      refine lv_icmp_gt (tgt := 73) hx hb d_Md_compare_28 rfl (fun hc => ?_) (fun hc => ?_)
      · have h := ite_t hc h
        refine lv_iload hx hb d_Md_compare_73 (lv_at hl 3 rfl) ?_
        refine lv_iconst hx hb d_Md_compare_75 ic_5 ?_
        obtain ⟨x13, e_x13, h⟩ := lt_o h
        have hJ84 : ∀ (x13' : Int32) (ls : Array Slot), x13 = x13' → lv_has ls 13 [(0, .ref (ad 0)), (1, .long a1), (3, .long a2)] → W p l e ({ frames := 1, cells := 0, slots := 0, locals := 35 } : Room) s m args below meth c H locs 0 0 Q (F0 m 84 ls [.int x13']) := by
          intro x13' ls q_x13 hl
          subst q_x13
          refine lv_istore hx hb d_Md_compare_84 hl (by decide) rfl (fun ls hl => ?_)
          have hl : lv_has ls 13 [(6, .int x13), (0, .ref (ad 0)), (1, .long a1), (3, .long a2)] := hl
          refine lv_aload_n hx hb d_Md_compare_86 rfl (lv_at hl 1 rfl) ?_
          refine lv_lload_n hx hb d_Md_compare_87 rfl (lv_at hl 2 rfl) ?_
          refine lv_iload hx hb d_Md_compare_88 (lv_at hl 0 rfl) ?_
          refine lv_iconst hx hb d_Md_compare_90 ic_1 ?_
          obtain ⟨x14, e_x14, h⟩ := lt_o h
          refine q_GV (D := D) (A := A) (C := R_Md) (b := ad 0) (As := [.long a1, .int x13, .int (1 : Int32)]) (rest := []) (n := 3) hx hb hml hown hts (c_Md_apart l D A cI cL cC ad X laid gone (0 : Int32) m1 m2 e1 e2 mi1 mi2 na1 na2 fa1 fa2 lets rlen rlaid rgone rthr were none_ beyo aN bN fN lN_ rN pN twos at_ rdig rpow good txt wri ra rb rfive rleft rright rpart a1 x13 (1 : Int32) x14 e_x14.symm) rfl rfl m_267 m_268 m_269 m_270 m_130 (by decide +kernel) ⟨Nat.le_of_ble_eq_true rfl, Nat.le_of_ble_eq_true rfl⟩ (va_recv hK hP (ci := 4) rfl (q0 := 0) rfl) hNB hK hP hD hS rfl hl.1 rfl (Nat.le_of_ble_eq_true rfl) d_Md_compare_91 ⟨Nat.zero_le _, Nat.zero_le _⟩ (fun H locs hP hD hS => ?_)
          have hP : va_P D cls (gM cI cL cC ad X laid gone (0 : Int32) x14.1 x14.2.1 x14.2.2.1 x14.2.2.2.1 x14.2.2.2.2.1 x14.2.2.2.2.2.1 x14.2.2.2.2.2.2.1 x14.2.2.2.2.2.2.2.1 x14.2.2.2.2.2.2.2.2.1 x14.2.2.2.2.2.2.2.2.2 lets rlen rlaid rgone rthr were none_ beyo aN bN fN lN_ rN pN twos at_ rdig rpow good txt wri ra rb rfive rleft rright rpart) H := hP
          have hD : va_D A (gM cI cL cC ad X laid gone (0 : Int32) x14.1 x14.2.1 x14.2.2.1 x14.2.2.2.1 x14.2.2.2.2.1 x14.2.2.2.2.2.1 x14.2.2.2.2.2.2.1 x14.2.2.2.2.2.2.2.1 x14.2.2.2.2.2.2.2.2.1 x14.2.2.2.2.2.2.2.2.2 lets rlen rlaid rgone rthr were none_ beyo aN bN fN lN_ rN pN twos at_ rdig rpow good txt wri ra rb rfive rleft rright rpart) := hD
          refine lv_aload_n hx hb d_Md_compare_94 rfl (lv_at hl 1 rfl) ?_
          refine lv_lload_n hx hb d_Md_compare_95 rfl (lv_at hl 3 rfl) ?_
          refine lv_iload hx hb d_Md_compare_96 (lv_at hl 0 rfl) ?_
          refine lv_iconst hx hb d_Md_compare_98 ic_0 ?_
          obtain ⟨x15, e_x15, h⟩ := lt_o h
          refine q_GV (D := D) (A := A) (C := R_Md) (b := ad 0) (As := [.long a2, .int x13, .int (0 : Int32)]) (rest := []) (n := 3) hx hb hml hown hts (c_Md_apart l D A cI cL cC ad X laid gone (0 : Int32) x14.1 x14.2.1 x14.2.2.1 x14.2.2.2.1 x14.2.2.2.2.1 x14.2.2.2.2.2.1 x14.2.2.2.2.2.2.1 x14.2.2.2.2.2.2.2.1 x14.2.2.2.2.2.2.2.2.1 x14.2.2.2.2.2.2.2.2.2 lets rlen rlaid rgone rthr were none_ beyo aN bN fN lN_ rN pN twos at_ rdig rpow good txt wri ra rb rfive rleft rright rpart a2 x13 (0 : Int32) x15 e_x15.symm) rfl rfl m_267 m_268 m_269 m_270 m_130 (by decide +kernel) ⟨Nat.le_of_ble_eq_true rfl, Nat.le_of_ble_eq_true rfl⟩ (va_recv hK hP (ci := 4) rfl (q0 := 0) rfl) hNB hK hP hD hS rfl hl.1 rfl (Nat.le_of_ble_eq_true rfl) d_Md_compare_99 ⟨Nat.zero_le _, Nat.zero_le _⟩ (fun H locs hP hD hS => ?_)
          have hP : va_P D cls (gM cI cL cC ad X laid gone (0 : Int32) x15.1 x15.2.1 x15.2.2.1 x15.2.2.2.1 x15.2.2.2.2.1 x15.2.2.2.2.2.1 x15.2.2.2.2.2.2.1 x15.2.2.2.2.2.2.2.1 x15.2.2.2.2.2.2.2.2.1 x15.2.2.2.2.2.2.2.2.2 lets rlen rlaid rgone rthr were none_ beyo aN bN fN lN_ rN pN twos at_ rdig rpow good txt wri ra rb rfive rleft rright rpart) H := hP
          have hD : va_D A (gM cI cL cC ad X laid gone (0 : Int32) x15.1 x15.2.1 x15.2.2.1 x15.2.2.2.1 x15.2.2.2.2.1 x15.2.2.2.2.2.1 x15.2.2.2.2.2.2.1 x15.2.2.2.2.2.2.2.1 x15.2.2.2.2.2.2.2.2.1 x15.2.2.2.2.2.2.2.2.2 lets rlen rlaid rgone rthr were none_ beyo aN bN fN lN_ rN pN twos at_ rdig rpow good txt wri ra rb rfive rleft rright rpart) := hD
          refine lv_aload_n hx hb d_Md_compare_102 rfl (lv_at hl 1 rfl) ?_
          refine va_get (D := D) (ci := 4) (C := R_Md) (T := T_Md) (N := 15) hx hb hT in_Md hown hK hP 0 rfl rfl 11 (by decide) (hT _ m_257) (fun _ h9 => h9) rfl d_Md_compare_103 ?_
          obtain ⟨j116, e_j116, h⟩ := lt_o h
          have hJ116 : ∀ (thr_16 : Int32) (m1_17 : Int64) (m2_18 : Int64) (e1_19 : Int32) (e2_20 : Int32) (mi1_21 : Int32) (mi2_22 : Int32) (na1_23 : Int32) (na2_24 : Int32) (fa1_25 : Int32) (fa2_26 : Int32) (ls : Array Slot) (H : Heap) (locs : List Loc), lv_has ls 13 [] → va_P D cls (gM cI cL cC ad X laid gone thr_16 m1_17 m2_18 e1_19 e2_20 mi1_21 mi2_22 na1_23 na2_24 fa1_25 fa2_26 lets rlen rlaid rgone rthr were none_ beyo aN bN fN lN_ rN pN twos at_ rdig rpow good txt wri ra rb rfive rleft rright rpart) H → va_D A (gM cI cL cC ad X laid gone thr_16 m1_17 m2_18 e1_19 e2_20 mi1_21 mi2_22 na1_23 na2_24 fa1_25 fa2_26 lets rlen rlaid rgone rthr were none_ beyo aN bN fN lN_ rN pN twos at_ rdig rpow good txt wri ra rb rfive rleft rright rpart) → va_S A s.heap H locs → j116 thr_16 m1_17 m2_18 e1_19 e2_20 mi1_21 mi2_22 na1_23 na2_24 fa1_25 fa2_26 = r → W p l e ({ frames := 1, cells := 0, slots := 0, locals := 35 } : Room) s m args below meth c H locs 0 0 Q (F0 m 116 ls []) := by
            intro thr_16 m1_17 m2_18 e1_19 e2_20 mi1_21 mi2_22 na1_23 na2_24 fa1_25 fa2_26 ls H locs hl hP hD hS h
            rw [e_j116] at h
            refine lv_iconst hx hb d_Md_compare_116 ic_2 ?_
            subst h
            exact hret 117 ls _ _ _ rfl hP hD hS d_Md_compare_117
          refine lv_if_ne (tgt := 116) hx hb d_Md_compare_106 rfl (fun hc => ?_) (fun hc => ?_)
          · have h := ite_t hc h
            exact hJ116 _ _ _ _ _ _ _ _ _ _ _ ls _ _ (lv_sub hl [] rfl) hP hD hS h
          · have hc := not_not_intro hc
            have h := ite_f hc h
            refine lv_aload_n hx hb d_Md_compare_109 rfl (lv_at hl 1 rfl) ?_
            refine va_get (D := D) (ci := 4) (C := R_Md) (T := T_Md) (N := 15) hx hb hT in_Md hown hK hP 0 rfl rfl 12 (by decide) (hT _ m_252) (fun _ h9 => h9) rfl d_Md_compare_110 ?_
            refine lv_if_eq (tgt := 118) hx hb d_Md_compare_113 rfl (fun hc => ?_) (fun hc => ?_)
            · have h := ite_t hc h
              refine lv_iload hx hb d_Md_compare_118 (lv_at hl 0 rfl) ?_
              obtain ⟨x27, e_x27, h⟩ := lt_o h
              have hJ132 : ∀ (x27' : Int64) (ls : Array Slot), x27 = x27' → lv_has ls 13 [(0, .ref (ad 0)), (1, .long a1), (3, .long a2)] → W p l e ({ frames := 1, cells := 0, slots := 0, locals := 35 } : Room) s m args below meth c H locs 0 0 Q (F0 m 132 ls [.long x27']) := by
                intro x27' ls q_x27 hl
                subst q_x27
                refine lv_lstore hx hb d_Md_compare_132 hl (by decide) rfl (fun ls hl => ?_)
                have hl : lv_has ls 13 [(7, .long x27), (0, .ref (ad 0)), (1, .long a1), (3, .long a2)] := hl
                refine lv_aload_n hx hb d_Md_compare_134 rfl (lv_at hl 1 rfl) ?_
                refine va_get (D := D) (ci := 4) (C := R_Md) (T := T_Md) (N := 15) hx hb hT in_Md hown hK hP 0 rfl rfl 9 (by decide) (hT _ m_256) (fun _ h9 => h9) rfl d_Md_compare_135 ?_
                obtain ⟨x28, e_x28, h⟩ := lt_o h
                have hJ153 : ∀ (x28' : Int64) (ls : Array Slot), x28 = x28' → lv_has ls 13 [(0, .ref (ad 0)), (3, .long a2), (7, .long x27)] → W p l e ({ frames := 1, cells := 0, slots := 0, locals := 35 } : Room) s m args below meth c H locs 0 0 Q (F0 m 153 ls [.long x28']) := by
                  intro x28' ls q_x28 hl
                  subst q_x28
                  refine lv_lstore hx hb d_Md_compare_153 hl (by decide) rfl (fun ls hl => ?_)
                  have hl : lv_has ls 13 [(9, .long x28), (0, .ref (ad 0)), (3, .long a2), (7, .long x27)] := hl
                  refine lv_aload_n hx hb d_Md_compare_155 rfl (lv_at hl 1 rfl) ?_
                  refine va_get (D := D) (ci := 4) (C := R_Md) (T := T_Md) (N := 15) hx hb hT in_Md hown hK hP 0 rfl rfl 10 (by decide) (hT _ m_251) (fun _ h9 => h9) rfl d_Md_compare_156 ?_
                  obtain ⟨x29, e_x29, h⟩ := lt_o h
                  have hJ174 : ∀ (x29' : Int64) (ls : Array Slot), x29 = x29' → lv_has ls 13 [(9, .long x28)] → W p l e ({ frames := 1, cells := 0, slots := 0, locals := 35 } : Room) s m args below meth c H locs 0 0 Q (F0 m 174 ls [.long x29']) := by
                    intro x29' ls q_x29 hl
                    subst q_x29
                    refine lv_lstore hx hb d_Md_compare_174 hl (by decide) rfl (fun ls hl => ?_)
                    have hl : lv_has ls 13 [(11, .long x29), (9, .long x28)] := hl
                    refine lv_lload hx hb d_Md_compare_176 (lv_at hl 1 rfl) ?_
                    refine lv_lload hx hb d_Md_compare_178 (lv_at hl 0 rfl) ?_
                    refine W.lcmp hx hb d_Md_compare_180 ?_
                    obtain ⟨x30, e_x30, h⟩ := lt_o h
                    have hJ201 : ∀ (x30' : Int32) (ls : Array Slot), x30 = x30' → lv_has ls 13 [] → W p l e ({ frames := 1, cells := 0, slots := 0, locals := 35 } : Room) s m args below meth c H locs 0 0 Q (F0 m 201 ls [.int x30']) := by
                      intro x30' ls q_x30 hl
                      subst q_x30
                      subst h
                      exact hret 201 ls _ _ _ rfl hP hD hS d_Md_compare_201
                    refine lv_if_ge (tgt := 188) hx hb d_Md_compare_181 rfl (fun hc => ?_) (fun hc => ?_)
                    · have hc := (lg_cmp_ge _ _).mp hc
                      have e_x30 := e_x30.trans (if_pos hc)
                      refine lv_lload hx hb d_Md_compare_188 (lv_at hl 1 rfl) ?_
                      refine lv_lload hx hb d_Md_compare_190 (lv_at hl 0 rfl) ?_
                      refine W.lcmp hx hb d_Md_compare_192 ?_
                      refine lv_if_le (tgt := 200) hx hb d_Md_compare_193 rfl (fun hc => ?_) (fun hc => ?_)
                      · have hc := (lg_cmp_le _ _).mp hc
                        have e_x30 := e_x30.trans (if_pos hc)
                        refine lv_iconst hx hb d_Md_compare_200 ic_0 ?_
                        exact hJ201 _ ls e_x30 (lv_sub hl [] rfl)
                      · have hc := mt (lg_cmp_le _ _).mpr hc
                        have e_x30 := e_x30.trans (if_neg hc)
                        refine lv_iconst hx hb d_Md_compare_196 ic_1 ?_
                        refine lv_goto (tgt := 201) hx hb d_Md_compare_197 rfl ?_
                        exact hJ201 _ ls e_x30 (lv_sub hl [] rfl)
                    · have hc := mt (lg_cmp_ge _ _).mpr hc
                      have e_x30 := e_x30.trans (if_neg hc)
                      refine lv_iconst hx hb d_Md_compare_184 ic_m1 ?_
                      refine lv_goto (tgt := 201) hx hb d_Md_compare_185 rfl ?_
                      exact hJ201 _ ls e_x30 (lv_sub hl [] rfl)
                  refine lv_if_eq (tgt := 170) hx hb d_Md_compare_159 rfl (fun hc => ?_) (fun hc => ?_)
                  · have e_x29 := e_x29.trans (if_pos hc)
                    refine lv_lload_n hx hb d_Md_compare_170 rfl (lv_at hl 2 rfl) ?_
                    refine lv_lload hx hb d_Md_compare_171 (lv_at hl 3 rfl) ?_
                    refine lv_land hx hb d_Md_compare_173 ?_
                    exact hJ174 _ ls e_x29 (lv_sub hl [0] rfl)
                  · have e_x29 := e_x29.trans (if_neg hc)
                    refine lv_lload_n hx hb d_Md_compare_162 rfl (lv_at hl 2 rfl) ?_
                    refine lv_lload hx hb d_Md_compare_163 (lv_at hl 3 rfl) ?_
                    refine lv_land hx hb d_Md_compare_165 ?_
                    refine lv_lneg hx hb d_Md_compare_166 ?_
                    refine lv_goto (tgt := 174) hx hb d_Md_compare_167 rfl ?_
                    exact hJ174 _ ls e_x29 (lv_sub hl [0] rfl)
                refine lv_if_eq (tgt := 149) hx hb d_Md_compare_138 rfl (fun hc => ?_) (fun hc => ?_)
                · have e_x28 := e_x28.trans (if_pos hc)
                  refine lv_lload_n hx hb d_Md_compare_149 rfl (lv_at hl 2 rfl) ?_
                  refine lv_lload hx hb d_Md_compare_150 (lv_at hl 0 rfl) ?_
                  refine lv_land hx hb d_Md_compare_152 ?_
                  exact hJ153 _ ls e_x28 (lv_sub hl [1, 3, 0] rfl)
                · have e_x28 := e_x28.trans (if_neg hc)
                  refine lv_lload_n hx hb d_Md_compare_141 rfl (lv_at hl 2 rfl) ?_
                  refine lv_lload hx hb d_Md_compare_142 (lv_at hl 0 rfl) ?_
                  refine lv_land hx hb d_Md_compare_144 ?_
                  refine lv_lneg hx hb d_Md_compare_145 ?_
                  refine lv_goto (tgt := 153) hx hb d_Md_compare_146 rfl ?_
                  exact hJ153 _ ls e_x28 (lv_sub hl [1, 3, 0] rfl)
              refine lv_if_eq (tgt := 129) hx hb d_Md_compare_120 rfl (fun hc => ?_) (fun hc => ?_)
              · have e_x27 := e_x27.trans (if_pos hc)
                refine lv_ldc2 hx hb hown (hT _ m_303) d_Md_compare_129 ?_
                exact hJ132 _ ls e_x27 (lv_sub hl [1, 2, 3] rfl)
              · have e_x27 := e_x27.trans (if_neg hc)
                refine lv_ldc2 hx hb hown (hT _ m_302) d_Md_compare_123 ?_
                refine lv_goto (tgt := 132) hx hb d_Md_compare_126 rfl ?_
                exact hJ132 _ ls e_x27 (lv_sub hl [1, 2, 3] rfl)
            · have h := ite_f hc h
              exact hJ116 _ _ _ _ _ _ _ _ _ _ _ ls _ _ (lv_sub hl [] rfl) hP hD hS h
        refine lv_icmp_ne (tgt := 83) hx hb d_Md_compare_76 rfl (fun hc => ?_) (fun hc => ?_)
        · have e_x13 := e_x13.trans (if_pos hc)
          refine lv_iconst hx hb d_Md_compare_83 ic_0 ?_
          exact hJ84 _ ls e_x13 (lv_sub hl [0, 1, 2] rfl)
        · have hc := not_not_intro hc
          have e_x13 := e_x13.trans (if_neg hc)
          refine lv_iconst hx hb d_Md_compare_79 ic_1 ?_
          refine lv_goto (tgt := 84) hx hb d_Md_compare_80 rfl ?_
          exact hJ84 _ ls e_x13 (lv_sub hl [0, 1, 2] rfl)
      · have h := ite_f hc h
        refine lv_lload_n hx hb d_Md_compare_31 rfl (lv_at hl 1 rfl) ?_
        refine lv_iload hx hb d_Md_compare_32 (lv_at hl 3 rfl) ?_
        refine q_S (As := [.long a1, .int a3]) (rest := []) (n := 2) hx hb hml hown hts (c_Md_cut l a1 a3) rfl rfl m_287 m_288 m_289 m_130 (by decide +kernel) ⟨Nat.le_of_ble_eq_true rfl, Nat.le_of_ble_eq_true rfl⟩ (p0_bl) (fun U hU hW => p0_mv hU hW hNB) rfl hl.1 rfl (Nat.le_of_ble_eq_true rfl) d_Md_compare_34 ⟨Nat.zero_le _, Nat.zero_le _⟩ ?_
        refine lv_topl (fun x31 e_x31 => ?_)
        have h := lt_h e_x31 h
        refine lv_lstore hx hb d_Md_compare_37 hl (by decide) rfl (fun ls hl => ?_)
        have hl : lv_has ls 13 [(6, .long x31), (0, .ref (ad 0)), (1, .long a1), (3, .long a2), (5, .int a3)] := hl
        refine lv_lload_n hx hb d_Md_compare_39 rfl (lv_at hl 3 rfl) ?_
        refine lv_iload hx hb d_Md_compare_40 (lv_at hl 4 rfl) ?_
        refine q_S (As := [.long a2, .int a3]) (rest := []) (n := 2) hx hb hml hown hts (c_Md_cut l a2 a3) rfl rfl m_287 m_288 m_289 m_130 (by decide +kernel) ⟨Nat.le_of_ble_eq_true rfl, Nat.le_of_ble_eq_true rfl⟩ (p0_bl) (fun U hU hW => p0_mv hU hW hNB) rfl hl.1 rfl (Nat.le_of_ble_eq_true rfl) d_Md_compare_42 ⟨Nat.zero_le _, Nat.zero_le _⟩ ?_
        refine lv_topl (fun x32 e_x32 => ?_)
        have h := lt_h e_x32 h
        refine lv_lstore hx hb d_Md_compare_45 hl (by decide) rfl (fun ls hl => ?_)
        have hl : lv_has ls 13 [(8, .long x32), (6, .long x31), (0, .ref (ad 0)), (1, .long a1), (3, .long a2), (5, .int a3)] := hl
        refine lv_lload hx hb d_Md_compare_47 (lv_at hl 1 rfl) ?_
        refine lv_lload hx hb d_Md_compare_49 (lv_at hl 0 rfl) ?_
        refine W.lcmp hx hb d_Md_compare_51 ?_
        obtain ⟨x33, e_x33, h⟩ := lt_o h
        have hJ72 : ∀ (x33' : Int32) (ls : Array Slot), x33 = x33' → lv_has ls 13 [] → W p l e ({ frames := 1, cells := 0, slots := 0, locals := 35 } : Room) s m args below meth c H locs 0 0 Q (F0 m 72 ls [.int x33']) := by
          intro x33' ls q_x33 hl
          subst q_x33
          subst h
          exact hret 72 ls _ _ _ rfl hP hD hS d_Md_compare_72
        refine lv_if_ge (tgt := 59) hx hb d_Md_compare_52 rfl (fun hc => ?_) (fun hc => ?_)
        · have hc := (lg_cmp_ge _ _).mp hc
          have e_x33 := e_x33.trans (if_pos hc)
          refine lv_lload hx hb d_Md_compare_59 (lv_at hl 1 rfl) ?_
          refine lv_lload hx hb d_Md_compare_61 (lv_at hl 0 rfl) ?_
          refine W.lcmp hx hb d_Md_compare_63 ?_
          refine lv_if_le (tgt := 71) hx hb d_Md_compare_64 rfl (fun hc => ?_) (fun hc => ?_)
          · have hc := (lg_cmp_le _ _).mp hc
            have e_x33 := e_x33.trans (if_pos hc)
            refine lv_iconst hx hb d_Md_compare_71 ic_0 ?_
            exact hJ72 _ ls e_x33 (lv_sub hl [] rfl)
          · have hc := mt (lg_cmp_le _ _).mpr hc
            have e_x33 := e_x33.trans (if_neg hc)
            refine lv_iconst hx hb d_Md_compare_67 ic_1 ?_
            refine lv_goto (tgt := 72) hx hb d_Md_compare_68 rfl ?_
            exact hJ72 _ ls e_x33 (lv_sub hl [] rfl)
        · have hc := mt (lg_cmp_ge _ _).mpr hc
          have e_x33 := e_x33.trans (if_neg hc)
          refine lv_iconst hx hb d_Md_compare_55 ic_m1 ?_
          refine lv_goto (tgt := 72) hx hb d_Md_compare_56 rfl ?_
          exact hJ72 _ ls e_x33 (lv_sub hl [] rfl)
    · have h := ite_f hc h
      exact hJ13 _ _ _ _ _ _ _ _ _ _ _ ls _ _ (lv_sub hl [0] rfl) hP hD hS h
