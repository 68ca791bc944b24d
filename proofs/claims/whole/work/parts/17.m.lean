-- Md_over
theorem d_Md_over_0 : decode b_Md_over 0 = .ok (.aload_n 0, 1) := by decide +kernel
theorem d_Md_over_1 : decode b_Md_over 1 = .ok (.getfield 51, 3) := by decide +kernel
theorem d_Md_over_4 : decode b_Md_over 4 = .ok (.aload_n 0, 1) := by decide +kernel
theorem d_Md_over_5 : decode b_Md_over 5 = .ok (.getfield 67, 3) := by decide +kernel
theorem d_Md_over_8 : decode b_Md_over 8 = .ok (.if_icmp .eq 7, 3) := by decide +kernel
theorem d_Md_over_11 : decode b_Md_over 11 = .ok (.iconst 1, 1) := by decide +kernel
theorem d_Md_over_12 : decode b_Md_over 12 = .ok (.goto 4, 3) := by decide +kernel
theorem d_Md_over_15 : decode b_Md_over 15 = .ok (.iconst 0, 1) := by decide +kernel
theorem d_Md_over_16 : decode b_Md_over 16 = .ok (.istore_n 2, 1) := by decide +kernel
theorem d_Md_over_17 : decode b_Md_over 17 = .ok (.aload_n 0, 1) := by decide +kernel
theorem d_Md_over_18 : decode b_Md_over 18 = .ok (.getfield 55, 3) := by decide +kernel
theorem d_Md_over_21 : decode b_Md_over 21 = .ok (.ifCond .ne 56, 3) := by decide +kernel
theorem d_Md_over_24 : decode b_Md_over 24 = .ok (.aload_n 0, 1) := by decide +kernel
theorem d_Md_over_25 : decode b_Md_over 25 = .ok (.getfield 70, 3) := by decide +kernel
theorem d_Md_over_28 : decode b_Md_over 28 = .ok (.ifCond .ne 49, 3) := by decide +kernel
theorem d_Md_over_31 : decode b_Md_over 31 = .ok (.aload_n 0, 1) := by decide +kernel
theorem d_Md_over_32 : decode b_Md_over 32 = .ok (.getfield 58, 3) := by decide +kernel
theorem d_Md_over_35 : decode b_Md_over 35 = .ok (.ifCond .eq 10, 3) := by decide +kernel
theorem d_Md_over_38 : decode b_Md_over 38 = .ok (.aload_n 0, 1) := by decide +kernel
theorem d_Md_over_39 : decode b_Md_over 39 = .ok (.getfield 73, 3) := by decide +kernel
theorem d_Md_over_42 : decode b_Md_over 42 = .ok (.ifCond .ne 35, 3) := by decide +kernel
theorem d_Md_over_45 : decode b_Md_over 45 = .ok (.aload_n 0, 1) := by decide +kernel
theorem d_Md_over_46 : decode b_Md_over 46 = .ok (.getfield 58, 3) := by decide +kernel
theorem d_Md_over_49 : decode b_Md_over 49 = .ok (.ifCond .ne 33, 3) := by decide +kernel
theorem d_Md_over_52 : decode b_Md_over 52 = .ok (.aload_n 0, 1) := by decide +kernel
theorem d_Md_over_53 : decode b_Md_over 53 = .ok (.getfield 73, 3) := by decide +kernel
theorem d_Md_over_56 : decode b_Md_over 56 = .ok (.ifCond .ne 26, 3) := by decide +kernel
theorem d_Md_over_59 : decode b_Md_over 59 = .ok (.aload_n 0, 1) := by decide +kernel
theorem d_Md_over_60 : decode b_Md_over 60 = .ok (.getfield 44, 3) := by decide +kernel
theorem d_Md_over_63 : decode b_Md_over 63 = .ok (.lconst 0, 1) := by decide +kernel
theorem d_Md_over_64 : decode b_Md_over 64 = .ok (.lcmp, 1) := by decide +kernel
theorem d_Md_over_65 : decode b_Md_over 65 = .ok (.ifCond .ne 17, 3) := by decide +kernel
theorem d_Md_over_68 : decode b_Md_over 68 = .ok (.aload_n 0, 1) := by decide +kernel
theorem d_Md_over_69 : decode b_Md_over 69 = .ok (.getfield 61, 3) := by decide +kernel
theorem d_Md_over_72 : decode b_Md_over 72 = .ok (.lconst 0, 1) := by decide +kernel
theorem d_Md_over_73 : decode b_Md_over 73 = .ok (.lcmp, 1) := by decide +kernel
theorem d_Md_over_74 : decode b_Md_over 74 = .ok (.ifCond .ne 8, 3) := by decide +kernel
theorem d_Md_over_77 : decode b_Md_over 77 = .ok (.iload_n 1, 1) := by decide +kernel
theorem d_Md_over_78 : decode b_Md_over 78 = .ok (.invokestatic 89, 3) := by decide +kernel
theorem d_Md_over_81 : decode b_Md_over 81 = .ok (.lreturn, 1) := by decide +kernel
theorem d_Md_over_82 : decode b_Md_over 82 = .ok (.aload_n 0, 1) := by decide +kernel
theorem d_Md_over_83 : decode b_Md_over 83 = .ok (.getfield 58, 3) := by decide +kernel
theorem d_Md_over_86 : decode b_Md_over 86 = .ok (.ifCond .ne 19, 3) := by decide +kernel
theorem d_Md_over_89 : decode b_Md_over 89 = .ok (.aload_n 0, 1) := by decide +kernel
theorem d_Md_over_90 : decode b_Md_over 90 = .ok (.getfield 73, 3) := by decide +kernel
theorem d_Md_over_93 : decode b_Md_over 93 = .ok (.ifCond .ne 18, 3) := by decide +kernel
theorem d_Md_over_96 : decode b_Md_over 96 = .ok (.aload_n 0, 1) := by decide +kernel
theorem d_Md_over_97 : decode b_Md_over 97 = .ok (.getfield 61, 3) := by decide +kernel
theorem d_Md_over_100 : decode b_Md_over 100 = .ok (.lconst 0, 1) := by decide +kernel
theorem d_Md_over_101 : decode b_Md_over 101 = .ok (.lcmp, 1) := by decide +kernel
theorem d_Md_over_102 : decode b_Md_over 102 = .ok (.ifCond .ne 9, 3) := by decide +kernel
theorem d_Md_over_105 : decode b_Md_over 105 = .ok (.iload_n 2, 1) := by decide +kernel
theorem d_Md_over_106 : decode b_Md_over 106 = .ok (.iload_n 1, 1) := by decide +kernel
theorem d_Md_over_107 : decode b_Md_over 107 = .ok (.invokestatic 86, 3) := by decide +kernel
theorem d_Md_over_110 : decode b_Md_over 110 = .ok (.lreturn, 1) := by decide +kernel
theorem d_Md_over_111 : decode b_Md_over 111 = .ok (.aload_n 0, 1) := by decide +kernel
theorem d_Md_over_112 : decode b_Md_over 112 = .ok (.getfield 73, 3) := by decide +kernel
theorem d_Md_over_115 : decode b_Md_over 115 = .ok (.ifCond .ne 12, 3) := by decide +kernel
theorem d_Md_over_118 : decode b_Md_over 118 = .ok (.aload_n 0, 1) := by decide +kernel
theorem d_Md_over_119 : decode b_Md_over 119 = .ok (.getfield 44, 3) := by decide +kernel
theorem d_Md_over_122 : decode b_Md_over 122 = .ok (.lconst 0, 1) := by decide +kernel
theorem d_Md_over_123 : decode b_Md_over 123 = .ok (.lcmp, 1) := by decide +kernel
theorem d_Md_over_124 : decode b_Md_over 124 = .ok (.ifCond .ne 9, 3) := by decide +kernel
theorem d_Md_over_127 : decode b_Md_over 127 = .ok (.iload_n 2, 1) := by decide +kernel
theorem d_Md_over_128 : decode b_Md_over 128 = .ok (.iload_n 1, 1) := by decide +kernel
theorem d_Md_over_129 : decode b_Md_over 129 = .ok (.invokestatic 32, 3) := by decide +kernel
theorem d_Md_over_132 : decode b_Md_over 132 = .ok (.lreturn, 1) := by decide +kernel
theorem d_Md_over_133 : decode b_Md_over 133 = .ok (.bipush 61, 2) := by decide +kernel
theorem d_Md_over_135 : decode b_Md_over 135 = .ok (.aload_n 0, 1) := by decide +kernel
theorem d_Md_over_136 : decode b_Md_over 136 = .ok (.getfield 44, 3) := by decide +kernel
theorem d_Md_over_139 : decode b_Md_over 139 = .ok (.invokestatic 76, 3) := by decide +kernel
theorem d_Md_over_142 : decode b_Md_over 142 = .ok (.isub, 1) := by decide +kernel
theorem d_Md_over_143 : decode b_Md_over 143 = .ok (.istore_n 3, 1) := by decide +kernel
theorem d_Md_over_144 : decode b_Md_over 144 = .ok (.bipush 61, 2) := by decide +kernel
theorem d_Md_over_146 : decode b_Md_over 146 = .ok (.aload_n 0, 1) := by decide +kernel
theorem d_Md_over_147 : decode b_Md_over 147 = .ok (.getfield 61, 3) := by decide +kernel
theorem d_Md_over_150 : decode b_Md_over 150 = .ok (.invokestatic 76, 3) := by decide +kernel
theorem d_Md_over_153 : decode b_Md_over 153 = .ok (.isub, 1) := by decide +kernel
theorem d_Md_over_154 : decode b_Md_over 154 = .ok (.istore 4, 2) := by decide +kernel
theorem d_Md_over_156 : decode b_Md_over 156 = .ok (.aload_n 0, 1) := by decide +kernel
theorem d_Md_over_157 : decode b_Md_over 157 = .ok (.getfield 44, 3) := by decide +kernel
theorem d_Md_over_160 : decode b_Md_over 160 = .ok (.iload_n 3, 1) := by decide +kernel
theorem d_Md_over_161 : decode b_Md_over 161 = .ok (.lshl, 1) := by decide +kernel
theorem d_Md_over_162 : decode b_Md_over 162 = .ok (.lstore 5, 2) := by decide +kernel
theorem d_Md_over_164 : decode b_Md_over 164 = .ok (.aload_n 0, 1) := by decide +kernel
theorem d_Md_over_165 : decode b_Md_over 165 = .ok (.getfield 61, 3) := by decide +kernel
theorem d_Md_over_168 : decode b_Md_over 168 = .ok (.iload 4, 2) := by decide +kernel
theorem d_Md_over_170 : decode b_Md_over 170 = .ok (.lshl, 1) := by decide +kernel
theorem d_Md_over_171 : decode b_Md_over 171 = .ok (.lstore 7, 2) := by decide +kernel
theorem d_Md_over_173 : decode b_Md_over 173 = .ok (.lconst 0, 1) := by decide +kernel
theorem d_Md_over_174 : decode b_Md_over 174 = .ok (.lstore 9, 2) := by decide +kernel
theorem d_Md_over_176 : decode b_Md_over 176 = .ok (.iconst 0, 1) := by decide +kernel
theorem d_Md_over_177 : decode b_Md_over 177 = .ok (.istore 11, 2) := by decide +kernel
theorem d_Md_over_179 : decode b_Md_over 179 = .ok (.iload 11, 2) := by decide +kernel
theorem d_Md_over_181 : decode b_Md_over 181 = .ok (.bipush 62, 2) := by decide +kernel
theorem d_Md_over_183 : decode b_Md_over 183 = .ok (.if_icmp .ge 42, 3) := by decide +kernel
theorem d_Md_over_186 : decode b_Md_over 186 = .ok (.lload 9, 2) := by decide +kernel
theorem d_Md_over_188 : decode b_Md_over 188 = .ok (.iconst 1, 1) := by decide +kernel
theorem d_Md_over_189 : decode b_Md_over 189 = .ok (.lshl, 1) := by decide +kernel
theorem d_Md_over_190 : decode b_Md_over 190 = .ok (.lstore 9, 2) := by decide +kernel
theorem d_Md_over_192 : decode b_Md_over 192 = .ok (.lload 5, 2) := by decide +kernel
theorem d_Md_over_194 : decode b_Md_over 194 = .ok (.lload 7, 2) := by decide +kernel
theorem d_Md_over_196 : decode b_Md_over 196 = .ok (.lcmp, 1) := by decide +kernel
theorem d_Md_over_197 : decode b_Md_over 197 = .ok (.ifCond .lt 16, 3) := by decide +kernel
theorem d_Md_over_200 : decode b_Md_over 200 = .ok (.lload 5, 2) := by decide +kernel
theorem d_Md_over_202 : decode b_Md_over 202 = .ok (.lload 7, 2) := by decide +kernel
theorem d_Md_over_204 : decode b_Md_over 204 = .ok (.lsub, 1) := by decide +kernel
theorem d_Md_over_205 : decode b_Md_over 205 = .ok (.lstore 5, 2) := by decide +kernel
theorem d_Md_over_207 : decode b_Md_over 207 = .ok (.lload 9, 2) := by decide +kernel
theorem d_Md_over_209 : decode b_Md_over 209 = .ok (.lconst 1, 1) := by decide +kernel
theorem d_Md_over_210 : decode b_Md_over 210 = .ok (.ladd, 1) := by decide +kernel
theorem d_Md_over_211 : decode b_Md_over 211 = .ok (.lstore 9, 2) := by decide +kernel
theorem d_Md_over_213 : decode b_Md_over 213 = .ok (.lload 5, 2) := by decide +kernel
theorem d_Md_over_215 : decode b_Md_over 215 = .ok (.iconst 1, 1) := by decide +kernel
theorem d_Md_over_216 : decode b_Md_over 216 = .ok (.lshl, 1) := by decide +kernel
theorem d_Md_over_217 : decode b_Md_over 217 = .ok (.lstore 5, 2) := by decide +kernel
theorem d_Md_over_219 : decode b_Md_over 219 = .ok (.iinc 11 1, 3) := by decide +kernel
theorem d_Md_over_222 : decode b_Md_over 222 = .ok (.goto (-43), 3) := by decide +kernel
theorem d_Md_over_225 : decode b_Md_over 225 = .ok (.iload_n 2, 1) := by decide +kernel
theorem d_Md_over_226 : decode b_Md_over 226 = .ok (.lload 9, 2) := by decide +kernel
theorem d_Md_over_228 : decode b_Md_over 228 = .ok (.aload_n 0, 1) := by decide +kernel
theorem d_Md_over_229 : decode b_Md_over 229 = .ok (.getfield 48, 3) := by decide +kernel
theorem d_Md_over_232 : decode b_Md_over 232 = .ok (.iload_n 3, 1) := by decide +kernel
theorem d_Md_over_233 : decode b_Md_over 233 = .ok (.isub, 1) := by decide +kernel
theorem d_Md_over_234 : decode b_Md_over 234 = .ok (.aload_n 0, 1) := by decide +kernel
theorem d_Md_over_235 : decode b_Md_over 235 = .ok (.getfield 64, 3) := by decide +kernel
theorem d_Md_over_238 : decode b_Md_over 238 = .ok (.isub, 1) := by decide +kernel
theorem d_Md_over_239 : decode b_Md_over 239 = .ok (.iload 4, 2) := by decide +kernel
theorem d_Md_over_241 : decode b_Md_over 241 = .ok (.iadd, 1) := by decide +kernel
theorem d_Md_over_242 : decode b_Md_over 242 = .ok (.bipush 61, 2) := by decide +kernel
theorem d_Md_over_244 : decode b_Md_over 244 = .ok (.isub, 1) := by decide +kernel
theorem d_Md_over_245 : decode b_Md_over 245 = .ok (.lload 5, 2) := by decide +kernel
theorem d_Md_over_247 : decode b_Md_over 247 = .ok (.lconst 0, 1) := by decide +kernel
theorem d_Md_over_248 : decode b_Md_over 248 = .ok (.lcmp, 1) := by decide +kernel
theorem d_Md_over_249 : decode b_Md_over 249 = .ok (.ifCond .eq 7, 3) := by decide +kernel
theorem d_Md_over_252 : decode b_Md_over 252 = .ok (.iconst 1, 1) := by decide +kernel
theorem d_Md_over_253 : decode b_Md_over 253 = .ok (.goto 4, 3) := by decide +kernel
theorem d_Md_over_256 : decode b_Md_over 256 = .ok (.iconst 0, 1) := by decide +kernel
theorem d_Md_over_257 : decode b_Md_over 257 = .ok (.iload_n 1, 1) := by decide +kernel
theorem d_Md_over_258 : decode b_Md_over 258 = .ok (.invokestatic 93, 3) := by decide +kernel
theorem d_Md_over_261 : decode b_Md_over 261 = .ok (.lreturn, 1) := by decide +kernel
def F_Md_over_L179 (m1 : Int64) (m2 : Int64) (e1 : Int32) (e2 : Int32) (mi1 : Int32) (mi2 : Int32) (na1 : Int32) (na2 : Int32) (fa1 : Int32) (fa2 : Int32) (a1 : Int32) (x1 : Int32) (x3 : Int32) (x5 : Int32) (x7 : Int64) (j225 : (Int64 → Int64 → Option (Int64))) : Nat → Int64 → Int64 → Int32 → Option (Int64)
  | 0, _, _, _ => none
  | n+1, y12, y13, y14 => if (62 : Int32) ≤ y14 then (j225 y12 y13) else (lt_ (y13 <<< (((1 : Int32)).toInt64 &&& 63)) fun x15 => lt_ (if y12 < x7 then y12 else y12 - x7) fun x16 => lt_ (if y12 < x7 then x15 else x15 + (1 : Int64)) fun x17 => lt_ (x16 <<< (((1 : Int32)).toInt64 &&& 63)) fun x18 => lt_ (y14 + Int32.ofInt 1) fun x19 => F_Md_over_L179 m1 m2 e1 e2 mi1 mi2 na1 na2 fa1 fa2 a1 x1 x3 x5 x7 j225 n x18 x17 x19)
def F_Md_over (n : Nat) (m1 : Int64) (m2 : Int64) (e1 : Int32) (e2 : Int32) (mi1 : Int32) (mi2 : Int32) (na1 : Int32) (na2 : Int32) (fa1 : Int32) (fa2 : Int32) (a1 : Int32) : Option (Int64) := lt_ (if mi1 = mi2 then (0 : Int32) else (1 : Int32)) fun x1 => lt_ (fun (_ : Unit) => some (F_Md_nan a1)) fun j77 => if ¬ na1 = 0 then (j77 ()) else (if ¬ na2 = 0 then (j77 ()) else (lt_ (fun (_ : Unit) => lt_ (fun (_ : Unit) => lt_ (fun (_ : Unit) => some (F_Md_far x1 a1)) fun j105 => if ¬ fa1 = 0 then (j105 ()) else (lt_ (fun (_ : Unit) => lt_ (fun (_ : Unit) => some (F_Md_sign x1 a1)) fun j127 => if ¬ fa2 = 0 then (j127 ()) else (if ¬ m1 = (0 : Int64) then ((F_Md_length n m1).bind fun x2 => lt_ ((61 : Int32) - x2) fun x3 => (F_Md_length n m2).bind fun x4 => lt_ ((61 : Int32) - x4) fun x5 => lt_ (m1 <<< ((x3).toInt64 &&& 63)) fun x6 => lt_ (m2 <<< ((x5).toInt64 &&& 63)) fun x7 => lt_ (fun (y8 : Int64) (y9 : Int64) => lt_ (if y8 = (0 : Int64) then (0 : Int32) else (1 : Int32)) fun x10 => (F_Md_round n x1 y9 ((((e1 - x3) - e2) + x5) - (61 : Int32)) x10 a1).bind fun x11 => some x11) fun j225 => F_Md_over_L179 m1 m2 e1 e2 mi1 mi2 na1 na2 fa1 fa2 a1 x1 x3 x5 x7 j225 n x6 (0 : Int64) (0 : Int32)) else (j127 ()))) fun j111 => if ¬ fa2 = 0 then (j111 ()) else (if ¬ m2 = (0 : Int64) then (j111 ()) else (j105 ())))) fun j82 => if ¬ fa1 = 0 then (j82 ()) else (if ¬ fa2 = 0 then (j82 ()) else (if ¬ m1 = (0 : Int64) then (j82 ()) else (if ¬ m2 = (0 : Int64) then (j82 ()) else (j77 ()))))) fun j45 => if fa1 = 0 then (j45 ()) else (if ¬ fa2 = 0 then (j77 ()) else (j45 ()))))
set_option maxHeartbeats 4000000 in
set_option maxRecDepth 100000 in
theorem c_Md_over (l : Launch) (D : va_G) (A : Nat → Prop) (cI cL cC : ClassId) (ad : Nat → Nat) (X : va_W) (laid : Int32) (gone : Int32) (thr : Int32) (m1 : Int64) (m2 : Int64) (e1 : Int32) (e2 : Int32) (mi1 : Int32) (mi2 : Int32) (na1 : Int32) (na2 : Int32) (fa1 : Int32) (fa2 : Int32) (lets : Nat → Int32) (rlen : Int32) (rlaid : Int32) (rgone : Int32) (rthr : Int32) (were : Int32) (none_ : Int32) (beyo : Int32) (aN : Int32) (bN : Int32) (fN : Int32) (lN_ : Int32) (rN : Int32) (pN : Int32) (twos : Int32) (at_ : Int32) (rdig : Int32) (rpow : Int32) (good : Int32) (txt : Nat → Int32) (wri : Nat → Int32) (ra : Nat → Int32) (rb : Nat → Int32) (rfive : Nat → Int32) (rleft : Nat → Int32) (rright : Nat → Int32) (rpart : Nat → Int32) (n : Nat) (a1 : Int32) (r : Int64) (h : F_Md_over n m1 m2 e1 e2 mi1 mi2 na1 na2 fa1 fa2 a1 = some r) : Met l y_Md_over (.code y_Md_over b_Md_over 12 (some .long) :: BIG) ({ frames := 3, cells := 0, slots := 0, locals := 77 } : Room) (va_Pc [.ref (ad 0), .int a1] (gPre D A (tysV cI cL cC) (gM cI cL cC ad X laid gone thr m1 m2 e1 e2 mi1 mi2 na1 na2 fa1 fa2 lets rlen rlaid rgone rthr were none_ beyo aN bN fN lN_ rN pN twos at_ rdig rpow good txt wri ra rb rfive rleft rright rpart))) (gQ D A (some (.long r)) (gM cI cL cC ad X laid gone thr m1 m2 e1 e2 mi1 mi2 na1 na2 fa1 fa2 lets rlen rlaid rgone rthr were none_ beyo aN bN fN lN_ rN pN twos at_ rdig rpow good txt wri ra rb rfive rleft rright rpart)) 0 0 A := by
  refine gOpen_l rfl (Nat.le_of_ble_eq_true rfl) ?_
  intro p e s m args below meth c Q ls hx hb hml hown hts hT hNB hP hK hD hl hret
  have hown : s.vm.findClass R_Md = some m.cls := hown
  have hS : va_S A s.heap s.heap [] := va_S.rf
  have hl : lv_has ls 12 [(0, .ref (ad 0)), (1, .int a1)] := hl
  have h : (lt_ (if mi1 = mi2 then (0 : Int32) else (1 : Int32)) fun x1 => lt_ (fun (_ : Unit) => some (F_Md_nan a1)) fun j77 => if ¬ na1 = 0 then (j77 ()) else (if ¬ na2 = 0 then (j77 ()) else (lt_ (fun (_ : Unit) => lt_ (fun (_ : Unit) => lt_ (fun (_ : Unit) => some (F_Md_far x1 a1)) fun j105 => if ¬ fa1 = 0 then (j105 ()) else (lt_ (fun (_ : Unit) => lt_ (fun (_ : Unit) => some (F_Md_sign x1 a1)) fun j127 => if ¬ fa2 = 0 then (j127 ()) else (if ¬ m1 = (0 : Int64) then ((F_Md_length n m1).bind fun x2 => lt_ ((61 : Int32) - x2) fun x3 => (F_Md_length n m2).bind fun x4 => lt_ ((61 : Int32) - x4) fun x5 => lt_ (m1 <<< ((x3).toInt64 &&& 63)) fun x6 => lt_ (m2 <<< ((x5).toInt64 &&& 63)) fun x7 => lt_ (fun (y8 : Int64) (y9 : Int64) => lt_ (if y8 = (0 : Int64) then (0 : Int32) else (1 : Int32)) fun x10 => (F_Md_round n x1 y9 ((((e1 - x3) - e2) + x5) - (61 : Int32)) x10 a1).bind fun x11 => some x11) fun j225 => F_Md_over_L179 m1 m2 e1 e2 mi1 mi2 na1 na2 fa1 fa2 a1 x1 x3 x5 x7 j225 n x6 (0 : Int64) (0 : Int32)) else (j127 ()))) fun j111 => if ¬ fa2 = 0 then (j111 ()) else (if ¬ m2 = (0 : Int64) then (j111 ()) else (j105 ())))) fun j82 => if ¬ fa1 = 0 then (j82 ()) else (if ¬ fa2 = 0 then (j82 ()) else (if ¬ m1 = (0 : Int64) then (j82 ()) else (if ¬ m2 = (0 : Int64) then (j82 ()) else (j77 ()))))) fun j45 => if fa1 = 0 then (j45 ()) else (if ¬ fa2 = 0 then (j77 ()) else (j45 ()))))) = some r := h
  refine lv_aload_n hx hb d_Md_over_0 rfl (lv_at hl 0 rfl) ?_
  refine va_get (D := D) (ci := 4) (C := R_Md) (T := T_Md) (N := 15) hx hb hT in_Md hown hK hP 0 rfl rfl 9 (by decide) (hT _ m_256) (fun _ h9 => h9) rfl d_Md_over_1 ?_
  refine lv_aload_n hx hb d_Md_over_4 rfl (lv_at hl 0 rfl) ?_
  refine va_get (D := D) (ci := 4) (C := R_Md) (T := T_Md) (N := 15) hx hb hT in_Md hown hK hP 0 rfl rfl 10 (by decide) (hT _ m_251) (fun _ h9 => h9) rfl d_Md_over_5 ?_
  obtain ⟨x1, e_x1, h⟩ := lt_o h
  have hJ16 : ∀ (x1' : Int32) (ls : Array Slot), x1 = x1' → lv_has ls 12 [(0, .ref (ad 0)), (1, .int a1)] → W p l e ({ frames := 3, cells := 0, slots := 0, locals := 77 } : Room) s m args below meth c s.heap [] 0 0 Q (F0 m 16 ls [.int x1']) := by
    intro x1' ls q_x1 hl
    subst q_x1
    refine lv_istore_n hx hb d_Md_over_16 rfl hl (by decide) rfl (fun ls hl => ?_)
    have hl : lv_has ls 12 [(2, .int x1), (0, .ref (ad 0)), (1, .int a1)] := hl
    refine lv_aload_n hx hb d_Md_over_17 rfl (lv_at hl 1 rfl) ?_
    refine va_get (D := D) (ci := 4) (C := R_Md) (T := T_Md) (N := 15) hx hb hT in_Md hown hK hP 0 rfl rfl 11 (by decide) (hT _ m_257) (fun _ h9 => h9) rfl d_Md_over_18 ?_
    obtain ⟨j77, e_j77, h⟩ := lt_o h
    have hJ77 : ∀ (ls : Array Slot) (H : Heap) (locs : List Loc), lv_has ls 12 [(1, .int a1)] → va_P D cls (gM cI cL cC ad X laid gone thr m1 m2 e1 e2 mi1 mi2 na1 na2 fa1 fa2 lets rlen rlaid rgone rthr were none_ beyo aN bN fN lN_ rN pN twos at_ rdig rpow good txt wri ra rb rfive rleft rright rpart) H → va_D A (gM cI cL cC ad X laid gone thr m1 m2 e1 e2 mi1 mi2 na1 na2 fa1 fa2 lets rlen rlaid rgone rthr were none_ beyo aN bN fN lN_ rN pN twos at_ rdig rpow good txt wri ra rb rfive rleft rright rpart) → va_S A s.heap H locs → j77 () = some r → W p l e ({ frames := 3, cells := 0, slots := 0, locals := 77 } : Room) s m args below meth c H locs 0 0 Q (F0 m 77 ls []) := by
      intro  ls H locs hl hP hD hS h
      rw [e_j77] at h
      refine lv_iload_n hx hb d_Md_over_77 rfl (lv_at hl 0 rfl) ?_
      refine q_S (As := [.int a1]) (rest := []) (n := 1) hx hb hml hown hts (c_Md_nan l a1) rfl rfl m_259 m_260 m_261 m_130 (by decide +kernel) ⟨Nat.le_of_ble_eq_true rfl, Nat.le_of_ble_eq_true rfl⟩ (p0_bl) (fun U hU hW => p0_mv hU hW hNB) rfl hl.1 rfl (Nat.le_of_ble_eq_true rfl) d_Md_over_78 ⟨Nat.zero_le _, Nat.zero_le _⟩ ?_
      obtain rfl := Option.some.inj h
      exact hret 81 ls _ _ _ rfl hP hD hS d_Md_over_81
    refine lv_if_ne (tgt := 77) hx hb d_Md_over_21 rfl (fun hc => ?_) (fun hc => ?_)
    · have h := ite_t hc h
      exact hJ77 ls _ _ (lv_sub hl [2] rfl) hP hD hS h
    · have hc := not_not_intro hc
      have h := ite_f hc h
      refine lv_aload_n hx hb d_Md_over_24 rfl (lv_at hl 1 rfl) ?_
      refine va_get (D := D) (ci := 4) (C := R_Md) (T := T_Md) (N := 15) hx hb hT in_Md hown hK hP 0 rfl rfl 12 (by decide) (hT _ m_252) (fun _ h9 => h9) rfl d_Md_over_25 ?_
      refine lv_if_ne (tgt := 77) hx hb d_Md_over_28 rfl (fun hc => ?_) (fun hc => ?_)
      · have h := ite_t hc h
        exact hJ77 ls _ _ (lv_sub hl [2] rfl) hP hD hS h
      · have hc := not_not_intro hc
        have h := ite_f hc h
        refine lv_aload_n hx hb d_Md_over_31 rfl (lv_at hl 1 rfl) ?_
        refine va_get (D := D) (ci := 4) (C := R_Md) (T := T_Md) (N := 15) hx hb hT in_Md hown hK hP 0 rfl rfl 13 (by decide) (hT _ m_258) (fun _ h9 => h9) rfl d_Md_over_32 ?_
        obtain ⟨j45, e_j45, h⟩ := lt_o h
        have hJ45 : ∀ (ls : Array Slot) (H : Heap) (locs : List Loc), lv_has ls 12 [(0, .ref (ad 0)), (1, .int a1), (2, .int x1)] → va_P D cls (gM cI cL cC ad X laid gone thr m1 m2 e1 e2 mi1 mi2 na1 na2 fa1 fa2 lets rlen rlaid rgone rthr were none_ beyo aN bN fN lN_ rN pN twos at_ rdig rpow good txt wri ra rb rfive rleft rright rpart) H → va_D A (gM cI cL cC ad X laid gone thr m1 m2 e1 e2 mi1 mi2 na1 na2 fa1 fa2 lets rlen rlaid rgone rthr were none_ beyo aN bN fN lN_ rN pN twos at_ rdig rpow good txt wri ra rb rfive rleft rright rpart) → va_S A s.heap H locs → j45 () = some r → W p l e ({ frames := 3, cells := 0, slots := 0, locals := 77 } : Room) s m args below meth c H locs 0 0 Q (F0 m 45 ls []) := by
          intro  ls H locs hl hP hD hS h
          rw [e_j45] at h
          refine lv_aload_n hx hb d_Md_over_45 rfl (lv_at hl 0 rfl) ?_
          refine va_get (D := D) (ci := 4) (C := R_Md) (T := T_Md) (N := 15) hx hb hT in_Md hown hK hP 0 rfl rfl 13 (by decide) (hT _ m_258) (fun _ h9 => h9) rfl d_Md_over_46 ?_
          obtain ⟨j82, e_j82, h⟩ := lt_o h
          have hJ82 : ∀ (ls : Array Slot) (H : Heap) (locs : List Loc), lv_has ls 12 [(0, .ref (ad 0)), (1, .int a1), (2, .int x1)] → va_P D cls (gM cI cL cC ad X laid gone thr m1 m2 e1 e2 mi1 mi2 na1 na2 fa1 fa2 lets rlen rlaid rgone rthr were none_ beyo aN bN fN lN_ rN pN twos at_ rdig rpow good txt wri ra rb rfive rleft rright rpart) H → va_D A (gM cI cL cC ad X laid gone thr m1 m2 e1 e2 mi1 mi2 na1 na2 fa1 fa2 lets rlen rlaid rgone rthr were none_ beyo aN bN fN lN_ rN pN twos at_ rdig rpow good txt wri ra rb rfive rleft rright rpart) → va_S A s.heap H locs → j82 () = some r → W p l e ({ frames := 3, cells := 0, slots := 0, locals := 77 } : Room) s m args below meth c H locs 0 0 Q (F0 m 82 ls []) := by
            intro  ls H locs hl hP hD hS h
            rw [e_j82] at h
            refine lv_aload_n hx hb d_Md_over_82 rfl (lv_at hl 0 rfl) ?_
            refine va_get (D := D) (ci := 4) (C := R_Md) (T := T_Md) (N := 15) hx hb hT in_Md hown hK hP 0 rfl rfl 13 (by decide) (hT _ m_258) (fun _ h9 => h9) rfl d_Md_over_83 ?_
            obtain ⟨j105, e_j105, h⟩ := lt_o h
            have hJ105 : ∀ (ls : Array Slot) (H : Heap) (locs : List Loc), lv_has ls 12 [(1, .int a1), (2, .int x1)] → va_P D cls (gM cI cL cC ad X laid gone thr m1 m2 e1 e2 mi1 mi2 na1 na2 fa1 fa2 lets rlen rlaid rgone rthr were none_ beyo aN bN fN lN_ rN pN twos at_ rdig rpow good txt wri ra rb rfive rleft rright rpart) H → va_D A (gM cI cL cC ad X laid gone thr m1 m2 e1 e2 mi1 mi2 na1 na2 fa1 fa2 lets rlen rlaid rgone rthr were none_ beyo aN bN fN lN_ rN pN twos at_ rdig rpow good txt wri ra rb rfive rleft rright rpart) → va_S A s.heap H locs → j105 () = some r → W p l e ({ frames := 3, cells := 0, slots := 0, locals := 77 } : Room) s m args below meth c H locs 0 0 Q (F0 m 105 ls []) := by
              intro  ls H locs hl hP hD hS h
              rw [e_j105] at h
              refine lv_iload_n hx hb d_Md_over_105 rfl (lv_at hl 1 rfl) ?_
              refine lv_iload_n hx hb d_Md_over_106 rfl (lv_at hl 0 rfl) ?_
              refine q_S (As := [.int x1, .int a1]) (rest := []) (n := 2) hx hb hml hown hts (c_Md_far l x1 a1) rfl rfl m_135 m_136 m_137 m_130 (by decide +kernel) ⟨Nat.le_of_ble_eq_true rfl, Nat.le_of_ble_eq_true rfl⟩ (p0_bl) (fun U hU hW => p0_mv hU hW hNB) rfl hl.1 rfl (Nat.le_of_ble_eq_true rfl) d_Md_over_107 ⟨Nat.zero_le _, Nat.zero_le _⟩ ?_
              obtain rfl := Option.some.inj h
              exact hret 110 ls _ _ _ rfl hP hD hS d_Md_over_110
            refine lv_if_ne (tgt := 105) hx hb d_Md_over_86 rfl (fun hc => ?_) (fun hc => ?_)
            · have h := ite_t hc h
              exact hJ105 ls _ _ (lv_sub hl [1, 2] rfl) hP hD hS h
            · have hc := not_not_intro hc
              have h := ite_f hc h
              refine lv_aload_n hx hb d_Md_over_89 rfl (lv_at hl 0 rfl) ?_
              refine va_get (D := D) (ci := 4) (C := R_Md) (T := T_Md) (N := 15) hx hb hT in_Md hown hK hP 0 rfl rfl 14 (by decide) (hT _ m_253) (fun _ h9 => h9) rfl d_Md_over_90 ?_
              obtain ⟨j111, e_j111, h⟩ := lt_o h
              have hJ111 : ∀ (ls : Array Slot) (H : Heap) (locs : List Loc), lv_has ls 12 [(0, .ref (ad 0)), (1, .int a1), (2, .int x1)] → va_P D cls (gM cI cL cC ad X laid gone thr m1 m2 e1 e2 mi1 mi2 na1 na2 fa1 fa2 lets rlen rlaid rgone rthr were none_ beyo aN bN fN lN_ rN pN twos at_ rdig rpow good txt wri ra rb rfive rleft rright rpart) H → va_D A (gM cI cL cC ad X laid gone thr m1 m2 e1 e2 mi1 mi2 na1 na2 fa1 fa2 lets rlen rlaid rgone rthr were none_ beyo aN bN fN lN_ rN pN twos at_ rdig rpow good txt wri ra rb rfive rleft rright rpart) → va_S A s.heap H locs → j111 () = some r → W p l e ({ frames := 3, cells := 0, slots := 0, locals := 77 } : Room) s m args below meth c H locs 0 0 Q (F0 m 111 ls []) := by
                intro  ls H locs hl hP hD hS h
                rw [e_j111] at h
                refine lv_aload_n hx hb d_Md_over_111 rfl (lv_at hl 0 rfl) ?_
                refine va_get (D := D) (ci := 4) (C := R_Md) (T := T_Md) (N := 15) hx hb hT in_Md hown hK hP 0 rfl rfl 14 (by decide) (hT _ m_253) (fun _ h9 => h9) rfl d_Md_over_112 ?_
                obtain ⟨j127, e_j127, h⟩ := lt_o h
                have hJ127 : ∀ (ls : Array Slot) (H : Heap) (locs : List Loc), lv_has ls 12 [(1, .int a1), (2, .int x1)] → va_P D cls (gM cI cL cC ad X laid gone thr m1 m2 e1 e2 mi1 mi2 na1 na2 fa1 fa2 lets rlen rlaid rgone rthr were none_ beyo aN bN fN lN_ rN pN twos at_ rdig rpow good txt wri ra rb rfive rleft rright rpart) H → va_D A (gM cI cL cC ad X laid gone thr m1 m2 e1 e2 mi1 mi2 na1 na2 fa1 fa2 lets rlen rlaid rgone rthr were none_ beyo aN bN fN lN_ rN pN twos at_ rdig rpow good txt wri ra rb rfive rleft rright rpart) → va_S A s.heap H locs → j127 () = some r → W p l e ({ frames := 3, cells := 0, slots := 0, locals := 77 } : Room) s m args below meth c H locs 0 0 Q (F0 m 127 ls []) := by
                  intro  ls H locs hl hP hD hS h
                  rw [e_j127] at h
                  refine lv_iload_n hx hb d_Md_over_127 rfl (lv_at hl 1 rfl) ?_
                  refine lv_iload_n hx hb d_Md_over_128 rfl (lv_at hl 0 rfl) ?_
                  refine q_S (As := [.int x1, .int a1]) (rest := []) (n := 2) hx hb hml hown hts (c_Md_sign l x1 a1) rfl rfl m_127 m_128 m_129 m_130 (by decide +kernel) ⟨Nat.le_of_ble_eq_true rfl, Nat.le_of_ble_eq_true rfl⟩ (p0_bl) (fun U hU hW => p0_mv hU hW hNB) rfl hl.1 rfl (Nat.le_of_ble_eq_true rfl) d_Md_over_129 ⟨Nat.zero_le _, Nat.zero_le _⟩ ?_
                  obtain rfl := Option.some.inj h
                  exact hret 132 ls _ _ _ rfl hP hD hS d_Md_over_132
                refine lv_if_ne (tgt := 127) hx hb d_Md_over_115 rfl (fun hc => ?_) (fun hc => ?_)
                · have h := ite_t hc h
                  exact hJ127 ls _ _ (lv_sub hl [1, 2] rfl) hP hD hS h
                · have hc := not_not_intro hc
                  have h := ite_f hc h
                  refine lv_aload_n hx hb d_Md_over_118 rfl (lv_at hl 0 rfl) ?_
                  refine va_get (D := D) (ci := 4) (C := R_Md) (T := T_Md) (N := 15) hx hb hT in_Md hown hK hP 0 rfl rfl 5 (by decide) (hT _ m_254) (fun _ h9 => h9) rfl d_Md_over_119 ?_
                  refine lv_lconst hx hb d_Md_over_122 lc_0 ?_
                  refine W.lcmp hx hb d_Md_over_123 ?_
                  refine lv_if_ne (tgt := 133) hx hb d_Md_over_124 rfl (fun hc => ?_) (fun hc => ?_)
                  · have hc := mt (lg_cmp_eq _ _).mpr hc
                    have h := ite_t hc h
                    refine lv_bipush hx hb d_Md_over_133 bp_61 ?_
                    refine lv_aload_n hx hb d_Md_over_135 rfl (lv_at hl 0 rfl) ?_
                    refine va_get (D := D) (ci := 4) (C := R_Md) (T := T_Md) (N := 15) hx hb hT in_Md hown hK hP 0 rfl rfl 5 (by decide) (hT _ m_254) (fun _ h9 => h9) rfl d_Md_over_136 ?_
                    obtain ⟨x2, e_x2, h⟩ := bd_o h
                    refine q_S (As := [.long m1]) (rest := [.int (61 : Int32)]) (n := 1) hx hb hml hown hts (c_Md_length l n m1 _ e_x2) rfl rfl m_131 m_132 m_133 m_130 (by decide +kernel) ⟨Nat.le_of_ble_eq_true rfl, Nat.le_of_ble_eq_true rfl⟩ (p0_bl) (fun U hU hW => p0_mv hU hW hNB) rfl hl.1 rfl (Nat.le_of_ble_eq_true rfl) d_Md_over_139 ⟨Nat.zero_le _, Nat.zero_le _⟩ ?_
                    refine lv_isub hx hb d_Md_over_142 ?_
                    refine lv_topi (fun x3 e_x3 => ?_)
                    have h := lt_h e_x3 h
                    refine lv_istore_n hx hb d_Md_over_143 rfl hl (by decide) rfl (fun ls hl => ?_)
                    have hl : lv_has ls 12 [(3, .int x3), (0, .ref (ad 0)), (1, .int a1), (2, .int x1)] := hl
                    refine lv_bipush hx hb d_Md_over_144 bp_61 ?_
                    refine lv_aload_n hx hb d_Md_over_146 rfl (lv_at hl 1 rfl) ?_
                    refine va_get (D := D) (ci := 4) (C := R_Md) (T := T_Md) (N := 15) hx hb hT in_Md hown hK hP 0 rfl rfl 6 (by decide) (hT _ m_249) (fun _ h9 => h9) rfl d_Md_over_147 ?_
                    obtain ⟨x4, e_x4, h⟩ := bd_o h
                    refine q_S (As := [.long m2]) (rest := [.int (61 : Int32)]) (n := 1) hx hb hml hown hts (c_Md_length l n m2 _ e_x4) rfl rfl m_131 m_132 m_133 m_130 (by decide +kernel) ⟨Nat.le_of_ble_eq_true rfl, Nat.le_of_ble_eq_true rfl⟩ (p0_bl) (fun U hU hW => p0_mv hU hW hNB) rfl hl.1 rfl (Nat.le_of_ble_eq_true rfl) d_Md_over_150 ⟨Nat.zero_le _, Nat.zero_le _⟩ ?_
                    refine lv_isub hx hb d_Md_over_153 ?_
                    refine lv_topi (fun x5 e_x5 => ?_)
                    have h := lt_h e_x5 h
                    refine lv_istore hx hb d_Md_over_154 hl (by decide) rfl (fun ls hl => ?_)
                    have hl : lv_has ls 12 [(4, .int x5), (3, .int x3), (0, .ref (ad 0)), (1, .int a1), (2, .int x1)] := hl
                    refine lv_aload_n hx hb d_Md_over_156 rfl (lv_at hl 2 rfl) ?_
                    refine va_get (D := D) (ci := 4) (C := R_Md) (T := T_Md) (N := 15) hx hb hT in_Md hown hK hP 0 rfl rfl 5 (by decide) (hT _ m_254) (fun _ h9 => h9) rfl d_Md_over_157 ?_
                    refine lv_iload_n hx hb d_Md_over_160 rfl (lv_at hl 1 rfl) ?_
                    refine lv_lshl hx hb d_Md_over_161 rfl ?_
                    refine lv_topl (fun x6 e_x6 => ?_)
                    have h := lt_h e_x6 h
                    refine lv_lstore hx hb d_Md_over_162 hl (by decide) rfl (fun ls hl => ?_)
                    have hl : lv_has ls 12 [(5, .long x6), (4, .int x5), (3, .int x3), (0, .ref (ad 0)), (1, .int a1), (2, .int x1)] := hl
                    refine lv_aload_n hx hb d_Md_over_164 rfl (lv_at hl 3 rfl) ?_
                    refine va_get (D := D) (ci := 4) (C := R_Md) (T := T_Md) (N := 15) hx hb hT in_Md hown hK hP 0 rfl rfl 6 (by decide) (hT _ m_249) (fun _ h9 => h9) rfl d_Md_over_165 ?_
                    refine lv_iload hx hb d_Md_over_168 (lv_at hl 1 rfl) ?_
                    refine lv_lshl hx hb d_Md_over_170 rfl ?_
                    refine lv_topl (fun x7 e_x7 => ?_)
                    have h := lt_h e_x7 h
                    refine lv_lstore hx hb d_Md_over_171 hl (by decide) rfl (fun ls hl => ?_)
                    have hl : lv_has ls 12 [(7, .long x7), (5, .long x6), (4, .int x5), (3, .int x3), (0, .ref (ad 0)), (1, .int a1), (2, .int x1)] := hl
                    refine lv_lconst hx hb d_Md_over_173 lc_0 ?_
                    refine lv_lstore hx hb d_Md_over_174 hl (by decide) rfl (fun ls hl => ?_)
                    have hl : lv_has ls 12 [(9, .long (0 : Int64)), (7, .long x7), (5, .long x6), (4, .int x5), (3, .int x3), (0, .ref (ad 0)), (1, .int a1), (2, .int x1)] := hl
                    refine lv_iconst hx hb d_Md_over_176 ic_0 ?_
                    refine lv_istore hx hb d_Md_over_177 hl (by decide) rfl (fun ls hl => ?_)
                    have hl : lv_has ls 12 [(11, .int (0 : Int32)), (9, .long (0 : Int64)), (7, .long x7), (5, .long x6), (4, .int x5), (3, .int x3), (0, .ref (ad 0)), (1, .int a1), (2, .int x1)] := hl
                    obtain ⟨j225, e_j225, h⟩ := lt_o h
                    have hJ225 : ∀ (y8 : Int64) (y9 : Int64) (ls : Array Slot) (H : Heap) (locs : List Loc), lv_has ls 12 [(0, .ref (ad 0)), (1, .int a1), (2, .int x1), (3, .int x3), (4, .int x5), (5, .long y8), (9, .long y9)] → va_P D cls (gM cI cL cC ad X laid gone thr m1 m2 e1 e2 mi1 mi2 na1 na2 fa1 fa2 lets rlen rlaid rgone rthr were none_ beyo aN bN fN lN_ rN pN twos at_ rdig rpow good txt wri ra rb rfive rleft rright rpart) H → va_D A (gM cI cL cC ad X laid gone thr m1 m2 e1 e2 mi1 mi2 na1 na2 fa1 fa2 lets rlen rlaid rgone rthr were none_ beyo aN bN fN lN_ rN pN twos at_ rdig rpow good txt wri ra rb rfive rleft rright rpart) → va_S A s.heap H locs → j225 y8 y9 = some r → W p l e ({ frames := 3, cells := 0, slots := 0, locals := 77 } : Room) s m args below meth c H locs 0 0 Q (F0 m 225 ls []) := by
                      intro y8 y9 ls H locs hl hP hD hS h
                      rw [e_j225] at h
                      refine lv_iload_n hx hb d_Md_over_225 rfl (lv_at hl 2 rfl) ?_
                      refine lv_lload hx hb d_Md_over_226 (lv_at hl 6 rfl) ?_
                      refine lv_aload_n hx hb d_Md_over_228 rfl (lv_at hl 0 rfl) ?_
                      refine va_get (D := D) (ci := 4) (C := R_Md) (T := T_Md) (N := 15) hx hb hT in_Md hown hK hP 0 rfl rfl 7 (by decide) (hT _ m_255) (fun _ h9 => h9) rfl d_Md_over_229 ?_
                      refine lv_iload_n hx hb d_Md_over_232 rfl (lv_at hl 3 rfl) ?_
                      refine lv_isub hx hb d_Md_over_233 ?_
                      refine lv_aload_n hx hb d_Md_over_234 rfl (lv_at hl 0 rfl) ?_
                      refine va_get (D := D) (ci := 4) (C := R_Md) (T := T_Md) (N := 15) hx hb hT in_Md hown hK hP 0 rfl rfl 8 (by decide) (hT _ m_250) (fun _ h9 => h9) rfl d_Md_over_235 ?_
                      refine lv_isub hx hb d_Md_over_238 ?_
                      refine lv_iload hx hb d_Md_over_239 (lv_at hl 4 rfl) ?_
                      refine lv_iadd hx hb d_Md_over_241 ?_
                      refine lv_bipush hx hb d_Md_over_242 bp_61 ?_
                      refine lv_isub hx hb d_Md_over_244 ?_
                      refine lv_lload hx hb d_Md_over_245 (lv_at hl 5 rfl) ?_
                      refine lv_lconst hx hb d_Md_over_247 lc_0 ?_
                      refine W.lcmp hx hb d_Md_over_248 ?_
                      obtain ⟨x10, e_x10, h⟩ := lt_o h
                      have hJ257 : ∀ (x10' : Int32) (ls : Array Slot), x10 = x10' → lv_has ls 12 [(1, .int a1)] → W p l e ({ frames := 3, cells := 0, slots := 0, locals := 77 } : Room) s m args below meth c H locs 0 0 Q (F0 m 257 ls [.int x10', .int ((((e1 - x3) - e2) + x5) - (61 : Int32)), .long y9, .int x1]) := by
                        intro x10' ls q_x10 hl
                        subst q_x10
                        refine lv_iload_n hx hb d_Md_over_257 rfl (lv_at hl 0 rfl) ?_
                        obtain ⟨x11, e_x11, h⟩ := bd_o h
                        refine q_S (As := [.int x1, .long y9, .int ((((e1 - x3) - e2) + x5) - (61 : Int32)), .int x10, .int a1]) (rest := []) (n := 5) hx hb hml hown hts (c_Md_round l n x1 y9 ((((e1 - x3) - e2) + x5) - (61 : Int32)) x10 a1 _ e_x11) rfl rfl m_262 m_263 m_264 m_130 (by decide +kernel) ⟨Nat.le_of_ble_eq_true rfl, Nat.le_of_ble_eq_true rfl⟩ (p0_bl) (fun U hU hW => p0_mv hU hW hNB) rfl hl.1 rfl (Nat.le_of_ble_eq_true rfl) d_Md_over_258 ⟨Nat.zero_le _, Nat.zero_le _⟩ ?_
                        obtain rfl := Option.some.inj h
                        exact hret 261 ls _ _ _ rfl hP hD hS d_Md_over_261
                      refine lv_if_eq (tgt := 256) hx hb d_Md_over_249 rfl (fun hc => ?_) (fun hc => ?_)
                      · have hc := (lg_cmp_eq _ _).mp hc
                        have e_x10 := e_x10.trans (if_pos hc)
                        refine lv_iconst hx hb d_Md_over_256 ic_0 ?_
                        exact hJ257 _ ls e_x10 (lv_sub hl [1] rfl)
                      · have hc := mt (lg_cmp_eq _ _).mpr hc
                        have e_x10 := e_x10.trans (if_neg hc)
                        refine lv_iconst hx hb d_Md_over_252 ic_1 ?_
                        refine lv_goto (tgt := 257) hx hb d_Md_over_253 rfl ?_
                        exact hJ257 _ ls e_x10 (lv_sub hl [1] rfl)
                    have hL179 : ∀ (n : Nat) (y12 : Int64) (y13 : Int64) (y14 : Int32) (ls : Array Slot) (H : Heap) (locs : List Loc), lv_has ls 12 [(0, .ref (ad 0)), (1, .int a1), (2, .int x1), (3, .int x3), (4, .int x5), (5, .long y12), (7, .long x7), (9, .long y13), (11, .int y14)] → va_P D cls (gM cI cL cC ad X laid gone thr m1 m2 e1 e2 mi1 mi2 na1 na2 fa1 fa2 lets rlen rlaid rgone rthr were none_ beyo aN bN fN lN_ rN pN twos at_ rdig rpow good txt wri ra rb rfive rleft rright rpart) H → va_D A (gM cI cL cC ad X laid gone thr m1 m2 e1 e2 mi1 mi2 na1 na2 fa1 fa2 lets rlen rlaid rgone rthr were none_ beyo aN bN fN lN_ rN pN twos at_ rdig rpow good txt wri ra rb rfive rleft rright rpart) → va_S A s.heap H locs → F_Md_over_L179 m1 m2 e1 e2 mi1 mi2 na1 na2 fa1 fa2 a1 x1 x3 x5 x7 j225 n y12 y13 y14 = some r → W p l e ({ frames := 3, cells := 0, slots := 0, locals := 77 } : Room) s m args below meth c H locs 0 0 Q (F0 m 179 ls []) := by
                      intro n
                      induction n with
                      | zero => intro y12 y13 y14 ls H locs hl hP hD hS h; exact no_s h
                      | succ n ih =>
                        intro y12 y13 y14 ls H locs hl hP hD hS h
                        have h : (if (62 : Int32) ≤ y14 then (j225 y12 y13) else (lt_ (y13 <<< (((1 : Int32)).toInt64 &&& 63)) fun x15 => lt_ (if y12 < x7 then y12 else y12 - x7) fun x16 => lt_ (if y12 < x7 then x15 else x15 + (1 : Int64)) fun x17 => lt_ (x16 <<< (((1 : Int32)).toInt64 &&& 63)) fun x18 => lt_ (y14 + Int32.ofInt 1) fun x19 => F_Md_over_L179 m1 m2 e1 e2 mi1 mi2 na1 na2 fa1 fa2 a1 x1 x3 x5 x7 j225 n x18 x17 x19)) = some r := h
                        refine lv_iload hx hb d_Md_over_179 (lv_at hl 8 rfl) ?_
                        refine lv_bipush hx hb d_Md_over_181 bp_62 ?_
                        refine lv_icmp_ge (tgt := 225) hx hb d_Md_over_183 rfl (fun hc => ?_) (fun hc => ?_)
                        · have h := ite_t hc h
                          exact hJ225 _ _ ls _ _ (lv_sub hl [0, 1, 2, 3, 4, 5, 7] rfl) hP hD hS h
                        · have h := ite_f hc h
                          refine lv_lload hx hb d_Md_over_186 (lv_at hl 7 rfl) ?_
                          refine lv_iconst hx hb d_Md_over_188 ic_1 ?_
                          refine lv_lshl hx hb d_Md_over_189 rfl ?_
                          refine lv_topl (fun x15 e_x15 => ?_)
                          have h := lt_h e_x15 h
                          refine lv_lstore hx hb d_Md_over_190 hl (by decide) rfl (fun ls hl => ?_)
                          have hl : lv_has ls 12 [(9, .long x15), (0, .ref (ad 0)), (1, .int a1), (2, .int x1), (3, .int x3), (4, .int x5), (5, .long y12), (7, .long x7), (11, .int y14)] := hl
                          refine lv_lload hx hb d_Md_over_192 (lv_at hl 6 rfl) ?_
                          refine lv_lload hx hb d_Md_over_194 (lv_at hl 7 rfl) ?_
                          refine W.lcmp hx hb d_Md_over_196 ?_
                          obtain ⟨x16, e_x16, h⟩ := lt_o h
                          obtain ⟨x17, e_x17, h⟩ := lt_o h
                          have hJ213 : ∀ (x16' : Int64) (x17' : Int64) (ls : Array Slot), x16 = x16' → x17 = x17' → lv_has ls 12 [(0, .ref (ad 0)), (1, .int a1), (2, .int x1), (3, .int x3), (4, .int x5), (5, .long x16'), (7, .long x7), (9, .long x17'), (11, .int y14)] → W p l e ({ frames := 3, cells := 0, slots := 0, locals := 77 } : Room) s m args below meth c H locs 0 0 Q (F0 m 213 ls []) := by
                            intro x16' x17' ls q_x16 q_x17 hl
                            subst q_x16
                            subst q_x17
                            refine lv_lload hx hb d_Md_over_213 (lv_at hl 5 rfl) ?_
                            refine lv_iconst hx hb d_Md_over_215 ic_1 ?_
                            refine lv_lshl hx hb d_Md_over_216 rfl ?_
                            refine lv_topl (fun x18 e_x18 => ?_)
                            have h := lt_h e_x18 h
                            refine lv_lstore hx hb d_Md_over_217 hl (by decide) rfl (fun ls hl => ?_)
                            have hl : lv_has ls 12 [(5, .long x18), (0, .ref (ad 0)), (1, .int a1), (2, .int x1), (3, .int x3), (4, .int x5), (7, .long x7), (9, .long x17), (11, .int y14)] := hl
                            obtain ⟨x19, e_x19⟩ : ∃ z, z = y14 + Int32.ofInt 1 := ⟨_, rfl⟩
                            have h := lt_h e_x19 h
                            refine lv_iinc (k := 8) hx hb d_Md_over_219 hl rfl e_x19.symm (by decide) rfl (fun ls hl => ?_)
                            have hl : lv_has ls 12 [(11, .int x19), (5, .long x18), (0, .ref (ad 0)), (1, .int a1), (2, .int x1), (3, .int x3), (4, .int x5), (7, .long x7), (9, .long x17)] := hl
                            refine lv_goto (tgt := 179) hx hb d_Md_over_222 rfl ?_
                            exact ih _ _ _ ls _ _ (lv_sub hl [2, 3, 4, 5, 6, 1, 7, 8, 0] rfl) hP hD hS h
                          refine lv_if_lt (tgt := 213) hx hb d_Md_over_197 rfl (fun hc => ?_) (fun hc => ?_)
                          · have hc := (lg_cmp_lt _ _).mp hc
                            have e_x16 := e_x16.trans (if_pos hc)
                            have e_x17 := e_x17.trans (if_pos hc)
                            exact hJ213 _ _ ls e_x16 e_x17 (lv_sub hl [1, 2, 3, 4, 5, 6, 7, 0, 8] rfl)
                          · have hc := mt (lg_cmp_lt _ _).mpr hc
                            have e_x16 := e_x16.trans (if_neg hc)
                            have e_x17 := e_x17.trans (if_neg hc)
                            refine lv_lload hx hb d_Md_over_200 (lv_at hl 6 rfl) ?_
                            refine lv_lload hx hb d_Md_over_202 (lv_at hl 7 rfl) ?_
                            refine lv_lsub hx hb d_Md_over_204 ?_
                            refine lv_lstore hx hb d_Md_over_205 hl (by decide) rfl (fun ls hl => ?_)
                            have hl : lv_has ls 12 [(5, .long (y12 - x7)), (9, .long x15), (0, .ref (ad 0)), (1, .int a1), (2, .int x1), (3, .int x3), (4, .int x5), (7, .long x7), (11, .int y14)] := hl
                            refine lv_lload hx hb d_Md_over_207 (lv_at hl 1 rfl) ?_
                            refine lv_lconst hx hb d_Md_over_209 lc_1 ?_
                            refine lv_ladd hx hb d_Md_over_210 ?_
                            refine lv_lstore hx hb d_Md_over_211 hl (by decide) rfl (fun ls hl => ?_)
                            have hl : lv_has ls 12 [(9, .long (x15 + (1 : Int64))), (5, .long (y12 - x7)), (0, .ref (ad 0)), (1, .int a1), (2, .int x1), (3, .int x3), (4, .int x5), (7, .long x7), (11, .int y14)] := hl
                            exact hJ213 _ _ ls e_x16 e_x17 (lv_sub hl [2, 3, 4, 5, 6, 1, 7, 0, 8] rfl)
                    exact hL179 n _ _ _ ls _ _ (lv_sub hl [6, 7, 8, 5, 4, 3, 2, 1, 0] rfl) hP hD hS h
                  · have hc := not_not_intro ((lg_cmp_eq _ _).mp hc)
                    have h := ite_f hc h
                    exact hJ127 ls _ _ (lv_sub hl [1, 2] rfl) hP hD hS h
              refine lv_if_ne (tgt := 111) hx hb d_Md_over_93 rfl (fun hc => ?_) (fun hc => ?_)
              · have h := ite_t hc h
                exact hJ111 ls _ _ (lv_sub hl [0, 1, 2] rfl) hP hD hS h
              · have hc := not_not_intro hc
                have h := ite_f hc h
                refine lv_aload_n hx hb d_Md_over_96 rfl (lv_at hl 0 rfl) ?_
                refine va_get (D := D) (ci := 4) (C := R_Md) (T := T_Md) (N := 15) hx hb hT in_Md hown hK hP 0 rfl rfl 6 (by decide) (hT _ m_249) (fun _ h9 => h9) rfl d_Md_over_97 ?_
                refine lv_lconst hx hb d_Md_over_100 lc_0 ?_
                refine W.lcmp hx hb d_Md_over_101 ?_
                refine lv_if_ne (tgt := 111) hx hb d_Md_over_102 rfl (fun hc => ?_) (fun hc => ?_)
                · have hc := mt (lg_cmp_eq _ _).mpr hc
                  have h := ite_t hc h
                  exact hJ111 ls _ _ (lv_sub hl [0, 1, 2] rfl) hP hD hS h
                · have hc := not_not_intro ((lg_cmp_eq _ _).mp hc)
                  have h := ite_f hc h
                  exact hJ105 ls _ _ (lv_sub hl [1, 2] rfl) hP hD hS h
          refine lv_if_ne (tgt := 82) hx hb d_Md_over_49 rfl (fun hc => ?_) (fun hc => ?_)
          · have h := ite_t hc h
            exact hJ82 ls _ _ (lv_sub hl [0, 1, 2] rfl) hP hD hS h
          · have hc := not_not_intro hc
            have h := ite_f hc h
            refine lv_aload_n hx hb d_Md_over_52 rfl (lv_at hl 0 rfl) ?_
            refine va_get (D := D) (ci := 4) (C := R_Md) (T := T_Md) (N := 15) hx hb hT in_Md hown hK hP 0 rfl rfl 14 (by decide) (hT _ m_253) (fun _ h9 => h9) rfl d_Md_over_53 ?_
            refine lv_if_ne (tgt := 82) hx hb d_Md_over_56 rfl (fun hc => ?_) (fun hc => ?_)
            · have h := ite_t hc h
              exact hJ82 ls _ _ (lv_sub hl [0, 1, 2] rfl) hP hD hS h
            · have hc := not_not_intro hc
              have h := ite_f hc h
              refine lv_aload_n hx hb d_Md_over_59 rfl (lv_at hl 0 rfl) ?_
              refine va_get (D := D) (ci := 4) (C := R_Md) (T := T_Md) (N := 15) hx hb hT in_Md hown hK hP 0 rfl rfl 5 (by decide) (hT _ m_254) (fun _ h9 => h9) rfl d_Md_over_60 ?_
              refine lv_lconst hx hb d_Md_over_63 lc_0 ?_
              refine W.lcmp hx hb d_Md_over_64 ?_
              refine lv_if_ne (tgt := 82) hx hb d_Md_over_65 rfl (fun hc => ?_) (fun hc => ?_)
              · have hc := mt (lg_cmp_eq _ _).mpr hc
                have h := ite_t hc h
                exact hJ82 ls _ _ (lv_sub hl [0, 1, 2] rfl) hP hD hS h
              · have hc := not_not_intro ((lg_cmp_eq _ _).mp hc)
                have h := ite_f hc h
                refine lv_aload_n hx hb d_Md_over_68 rfl (lv_at hl 0 rfl) ?_
                refine va_get (D := D) (ci := 4) (C := R_Md) (T := T_Md) (N := 15) hx hb hT in_Md hown hK hP 0 rfl rfl 6 (by decide) (hT _ m_249) (fun _ h9 => h9) rfl d_Md_over_69 ?_
                refine lv_lconst hx hb d_Md_over_72 lc_0 ?_
                refine W.lcmp hx hb d_Md_over_73 ?_
                refine lv_if_ne (tgt := 82) hx hb d_Md_over_74 rfl (fun hc => ?_) (fun hc => ?_)
                · have hc := mt (lg_cmp_eq _ _).mpr hc
                  have h := ite_t hc h
                  exact hJ82 ls _ _ (lv_sub hl [0, 1, 2] rfl) hP hD hS h
                · have hc := not_not_intro ((lg_cmp_eq _ _).mp hc)
                  have h := ite_f hc h
                  exact hJ77 ls _ _ (lv_sub hl [1] rfl) hP hD hS h
        refine lv_if_eq (tgt := 45) hx hb d_Md_over_35 rfl (fun hc => ?_) (fun hc => ?_)
        · have h := ite_t hc h
          exact hJ45 ls _ _ (lv_sub hl [1, 2, 0] rfl) hP hD hS h
        · have h := ite_f hc h
          refine lv_aload_n hx hb d_Md_over_38 rfl (lv_at hl 1 rfl) ?_
          refine va_get (D := D) (ci := 4) (C := R_Md) (T := T_Md) (N := 15) hx hb hT in_Md hown hK hP 0 rfl rfl 14 (by decide) (hT _ m_253) (fun _ h9 => h9) rfl d_Md_over_39 ?_
          refine lv_if_ne (tgt := 77) hx hb d_Md_over_42 rfl (fun hc => ?_) (fun hc => ?_)
          · have h := ite_t hc h
            exact hJ77 ls _ _ (lv_sub hl [2] rfl) hP hD hS h
          · have hc := not_not_intro hc
            have h := ite_f hc h
            exact hJ45 ls _ _ (lv_sub hl [1, 2, 0] rfl) hP hD hS h
  refine lv_icmp_eq (tgt := 15) hx hb d_Md_over_8 rfl (fun hc => ?_) (fun hc => ?_)
  · have e_x1 := e_x1.trans (if_pos hc)
    refine lv_iconst hx hb d_Md_over_15 ic_0 ?_
    exact hJ16 _ ls e_x1 (lv_sub hl [0, 1] rfl)
  · have e_x1 := e_x1.trans (if_neg hc)
    refine lv_iconst hx hb d_Md_over_11 ic_1 ?_
    refine lv_goto (tgt := 16) hx hb d_Md_over_12 rfl ?_
    exact hJ16 _ ls e_x1 (lv_sub hl [0, 1] rfl)
-- Md_rest
theorem d_Md_rest_0 : decode b_Md_rest 0 = .ok (.aload_n 0, 1) := by decide +kernel
theorem d_Md_rest_1 : decode b_Md_rest 1 = .ok (.getfield 55, 3) := by decide +kernel
theorem d_Md_rest_4 : decode b_Md_rest 4 = .ok (.ifCond .ne 33, 3) := by decide +kernel
theorem d_Md_rest_7 : decode b_Md_rest 7 = .ok (.aload_n 0, 1) := by decide +kernel
theorem d_Md_rest_8 : decode b_Md_rest 8 = .ok (.getfield 70, 3) := by decide +kernel
theorem d_Md_rest_11 : decode b_Md_rest 11 = .ok (.ifCond .ne 26, 3) := by decide +kernel
theorem d_Md_rest_14 : decode b_Md_rest 14 = .ok (.aload_n 0, 1) := by decide +kernel
theorem d_Md_rest_15 : decode b_Md_rest 15 = .ok (.getfield 58, 3) := by decide +kernel
theorem d_Md_rest_18 : decode b_Md_rest 18 = .ok (.ifCond .ne 19, 3) := by decide +kernel
theorem d_Md_rest_21 : decode b_Md_rest 21 = .ok (.aload_n 0, 1) := by decide +kernel
theorem d_Md_rest_22 : decode b_Md_rest 22 = .ok (.getfield 73, 3) := by decide +kernel
theorem d_Md_rest_25 : decode b_Md_rest 25 = .ok (.ifCond .ne 17, 3) := by decide +kernel
theorem d_Md_rest_28 : decode b_Md_rest 28 = .ok (.aload_n 0, 1) := by decide +kernel
theorem d_Md_rest_29 : decode b_Md_rest 29 = .ok (.getfield 61, 3) := by decide +kernel
theorem d_Md_rest_32 : decode b_Md_rest 32 = .ok (.lconst 0, 1) := by decide +kernel
theorem d_Md_rest_33 : decode b_Md_rest 33 = .ok (.lcmp, 1) := by decide +kernel
theorem d_Md_rest_34 : decode b_Md_rest 34 = .ok (.ifCond .ne 8, 3) := by decide +kernel
theorem d_Md_rest_37 : decode b_Md_rest 37 = .ok (.iload_n 1, 1) := by decide +kernel
theorem d_Md_rest_38 : decode b_Md_rest 38 = .ok (.invokestatic 89, 3) := by decide +kernel
theorem d_Md_rest_41 : decode b_Md_rest 41 = .ok (.lreturn, 1) := by decide +kernel
theorem d_Md_rest_42 : decode b_Md_rest 42 = .ok (.aload_n 0, 1) := by decide +kernel
theorem d_Md_rest_43 : decode b_Md_rest 43 = .ok (.getfield 73, 3) := by decide +kernel
theorem d_Md_rest_46 : decode b_Md_rest 46 = .ok (.ifCond .ne 12, 3) := by decide +kernel
theorem d_Md_rest_49 : decode b_Md_rest 49 = .ok (.aload_n 0, 1) := by decide +kernel
theorem d_Md_rest_50 : decode b_Md_rest 50 = .ok (.getfield 44, 3) := by decide +kernel
theorem d_Md_rest_53 : decode b_Md_rest 53 = .ok (.lconst 0, 1) := by decide +kernel
theorem d_Md_rest_54 : decode b_Md_rest 54 = .ok (.lcmp, 1) := by decide +kernel
theorem d_Md_rest_55 : decode b_Md_rest 55 = .ok (.ifCond .ne 21, 3) := by decide +kernel
theorem d_Md_rest_58 : decode b_Md_rest 58 = .ok (.aload_n 0, 1) := by decide +kernel
theorem d_Md_rest_59 : decode b_Md_rest 59 = .ok (.getfield 51, 3) := by decide +kernel
theorem d_Md_rest_62 : decode b_Md_rest 62 = .ok (.aload_n 0, 1) := by decide +kernel
theorem d_Md_rest_63 : decode b_Md_rest 63 = .ok (.getfield 44, 3) := by decide +kernel
theorem d_Md_rest_66 : decode b_Md_rest 66 = .ok (.aload_n 0, 1) := by decide +kernel
theorem d_Md_rest_67 : decode b_Md_rest 67 = .ok (.getfield 48, 3) := by decide +kernel
theorem d_Md_rest_70 : decode b_Md_rest 70 = .ok (.iconst 0, 1) := by decide +kernel
theorem d_Md_rest_71 : decode b_Md_rest 71 = .ok (.iload_n 1, 1) := by decide +kernel
theorem d_Md_rest_72 : decode b_Md_rest 72 = .ok (.invokestatic 93, 3) := by decide +kernel
theorem d_Md_rest_75 : decode b_Md_rest 75 = .ok (.lreturn, 1) := by decide +kernel
theorem d_Md_rest_76 : decode b_Md_rest 76 = .ok (.aload_n 0, 1) := by decide +kernel
theorem d_Md_rest_77 : decode b_Md_rest 77 = .ok (.getfield 61, 3) := by decide +kernel
theorem d_Md_rest_80 : decode b_Md_rest 80 = .ok (.lstore_n 2, 1) := by decide +kernel
theorem d_Md_rest_81 : decode b_Md_rest 81 = .ok (.aload_n 0, 1) := by decide +kernel
theorem d_Md_rest_82 : decode b_Md_rest 82 = .ok (.getfield 44, 3) := by decide +kernel
theorem d_Md_rest_85 : decode b_Md_rest 85 = .ok (.lstore 4, 2) := by decide +kernel
theorem d_Md_rest_87 : decode b_Md_rest 87 = .ok (.aload_n 0, 1) := by decide +kernel
theorem d_Md_rest_88 : decode b_Md_rest 88 = .ok (.getfield 48, 3) := by decide +kernel
theorem d_Md_rest_91 : decode b_Md_rest 91 = .ok (.istore 6, 2) := by decide +kernel
theorem d_Md_rest_93 : decode b_Md_rest 93 = .ok (.aload_n 0, 1) := by decide +kernel
theorem d_Md_rest_94 : decode b_Md_rest 94 = .ok (.getfield 48, 3) := by decide +kernel
theorem d_Md_rest_97 : decode b_Md_rest 97 = .ok (.aload_n 0, 1) := by decide +kernel
theorem d_Md_rest_98 : decode b_Md_rest 98 = .ok (.getfield 64, 3) := by decide +kernel
theorem d_Md_rest_101 : decode b_Md_rest 101 = .ok (.if_icmp .ge 69, 3) := by decide +kernel
theorem d_Md_rest_104 : decode b_Md_rest 104 = .ok (.lload_n 2, 1) := by decide +kernel
theorem d_Md_rest_105 : decode b_Md_rest 105 = .ok (.invokestatic 76, 3) := by decide +kernel
theorem d_Md_rest_108 : decode b_Md_rest 108 = .ok (.aload_n 0, 1) := by decide +kernel
theorem d_Md_rest_109 : decode b_Md_rest 109 = .ok (.getfield 64, 3) := by decide +kernel
theorem d_Md_rest_112 : decode b_Md_rest 112 = .ok (.iadd, 1) := by decide +kernel
theorem d_Md_rest_113 : decode b_Md_rest 113 = .ok (.aload_n 0, 1) := by decide +kernel
theorem d_Md_rest_114 : decode b_Md_rest 114 = .ok (.getfield 48, 3) := by decide +kernel
theorem d_Md_rest_117 : decode b_Md_rest 117 = .ok (.isub, 1) := by decide +kernel
theorem d_Md_rest_118 : decode b_Md_rest 118 = .ok (.bipush 60, 2) := by decide +kernel
theorem d_Md_rest_120 : decode b_Md_rest 120 = .ok (.if_icmp .gt 20, 3) := by decide +kernel
theorem d_Md_rest_123 : decode b_Md_rest 123 = .ok (.lload_n 2, 1) := by decide +kernel
theorem d_Md_rest_124 : decode b_Md_rest 124 = .ok (.aload_n 0, 1) := by decide +kernel
theorem d_Md_rest_125 : decode b_Md_rest 125 = .ok (.getfield 64, 3) := by decide +kernel
theorem d_Md_rest_128 : decode b_Md_rest 128 = .ok (.aload_n 0, 1) := by decide +kernel
theorem d_Md_rest_129 : decode b_Md_rest 129 = .ok (.getfield 48, 3) := by decide +kernel
theorem d_Md_rest_132 : decode b_Md_rest 132 = .ok (.isub, 1) := by decide +kernel
theorem d_Md_rest_133 : decode b_Md_rest 133 = .ok (.lshl, 1) := by decide +kernel
theorem d_Md_rest_134 : decode b_Md_rest 134 = .ok (.lload 4, 2) := by decide +kernel
theorem d_Md_rest_136 : decode b_Md_rest 136 = .ok (.lcmp, 1) := by decide +kernel
theorem d_Md_rest_137 : decode b_Md_rest 137 = .ok (.ifCond .le 21, 3) := by decide +kernel
theorem d_Md_rest_140 : decode b_Md_rest 140 = .ok (.aload_n 0, 1) := by decide +kernel
theorem d_Md_rest_141 : decode b_Md_rest 141 = .ok (.getfield 51, 3) := by decide +kernel
theorem d_Md_rest_144 : decode b_Md_rest 144 = .ok (.aload_n 0, 1) := by decide +kernel
theorem d_Md_rest_145 : decode b_Md_rest 145 = .ok (.getfield 44, 3) := by decide +kernel
theorem d_Md_rest_148 : decode b_Md_rest 148 = .ok (.aload_n 0, 1) := by decide +kernel
theorem d_Md_rest_149 : decode b_Md_rest 149 = .ok (.getfield 48, 3) := by decide +kernel
theorem d_Md_rest_152 : decode b_Md_rest 152 = .ok (.iconst 0, 1) := by decide +kernel
theorem d_Md_rest_153 : decode b_Md_rest 153 = .ok (.iload_n 1, 1) := by decide +kernel
theorem d_Md_rest_154 : decode b_Md_rest 154 = .ok (.invokestatic 93, 3) := by decide +kernel
theorem d_Md_rest_157 : decode b_Md_rest 157 = .ok (.lreturn, 1) := by decide +kernel
theorem d_Md_rest_158 : decode b_Md_rest 158 = .ok (.lload_n 2, 1) := by decide +kernel
theorem d_Md_rest_159 : decode b_Md_rest 159 = .ok (.aload_n 0, 1) := by decide +kernel
theorem d_Md_rest_160 : decode b_Md_rest 160 = .ok (.getfield 64, 3) := by decide +kernel
theorem d_Md_rest_163 : decode b_Md_rest 163 = .ok (.aload_n 0, 1) := by decide +kernel
theorem d_Md_rest_164 : decode b_Md_rest 164 = .ok (.getfield 48, 3) := by decide +kernel
theorem d_Md_rest_167 : decode b_Md_rest 167 = .ok (.isub, 1) := by decide +kernel
theorem d_Md_rest_168 : decode b_Md_rest 168 = .ok (.lshl, 1) := by decide +kernel
theorem d_Md_rest_169 : decode b_Md_rest 169 = .ok (.lstore_n 2, 1) := by decide +kernel
theorem d_Md_rest_170 : decode b_Md_rest 170 = .ok (.lload 4, 2) := by decide +kernel
theorem d_Md_rest_172 : decode b_Md_rest 172 = .ok (.lload_n 2, 1) := by decide +kernel
theorem d_Md_rest_173 : decode b_Md_rest 173 = .ok (.lrem, 1) := by decide +kernel
theorem d_Md_rest_174 : decode b_Md_rest 174 = .ok (.lstore 4, 2) := by decide +kernel
theorem d_Md_rest_176 : decode b_Md_rest 176 = .ok (.iload 6, 2) := by decide +kernel
theorem d_Md_rest_178 : decode b_Md_rest 178 = .ok (.aload_n 0, 1) := by decide +kernel
theorem d_Md_rest_179 : decode b_Md_rest 179 = .ok (.getfield 64, 3) := by decide +kernel
theorem d_Md_rest_182 : decode b_Md_rest 182 = .ok (.if_icmp .le 19, 3) := by decide +kernel
theorem d_Md_rest_185 : decode b_Md_rest 185 = .ok (.ldc2_w 99, 3) := by decide +kernel
theorem d_Md_rest_188 : decode b_Md_rest 188 = .ok (.lload 4, 2) := by decide +kernel
theorem d_Md_rest_190 : decode b_Md_rest 190 = .ok (.lmul, 1) := by decide +kernel
theorem d_Md_rest_191 : decode b_Md_rest 191 = .ok (.lload_n 2, 1) := by decide +kernel
theorem d_Md_rest_192 : decode b_Md_rest 192 = .ok (.lrem, 1) := by decide +kernel
theorem d_Md_rest_193 : decode b_Md_rest 193 = .ok (.lstore 4, 2) := by decide +kernel
theorem d_Md_rest_195 : decode b_Md_rest 195 = .ok (.iinc 6 (-1), 3) := by decide +kernel
theorem d_Md_rest_198 : decode b_Md_rest 198 = .ok (.goto (-22), 3) := by decide +kernel
theorem d_Md_rest_201 : decode b_Md_rest 201 = .ok (.aload_n 0, 1) := by decide +kernel
theorem d_Md_rest_202 : decode b_Md_rest 202 = .ok (.getfield 51, 3) := by decide +kernel
theorem d_Md_rest_205 : decode b_Md_rest 205 = .ok (.lload 4, 2) := by decide +kernel
theorem d_Md_rest_207 : decode b_Md_rest 207 = .ok (.iload 6, 2) := by decide +kernel
theorem d_Md_rest_209 : decode b_Md_rest 209 = .ok (.iconst 0, 1) := by decide +kernel
theorem d_Md_rest_210 : decode b_Md_rest 210 = .ok (.iload_n 1, 1) := by decide +kernel
theorem d_Md_rest_211 : decode b_Md_rest 211 = .ok (.invokestatic 93, 3) := by decide +kernel
theorem d_Md_rest_214 : decode b_Md_rest 214 = .ok (.lreturn, 1) := by decide +kernel
def F_Md_rest_L176 (m1 : Int64) (m2 : Int64) (e1 : Int32) (e2 : Int32) (mi1 : Int32) (na1 : Int32) (na2 : Int32) (fa1 : Int32) (fa2 : Int32) (a1 : Int32) (y2 : Int64) (j201 : (Int64 → Int32 → Option (Int64))) : Nat → Int64 → Int32 → Option (Int64)
  | 0, _, _ => none
  | n+1, y7, y8 => if y8 ≤ e2 then (j201 y7 y8) else (gz_ (y2 = 0) <| lt_ (((2 : Int64) * y7) - ((2 : Int64) * y7) / y2 * y2) fun x9 => lt_ (y8 + Int32.ofInt (-1)) fun x10 => F_Md_rest_L176 m1 m2 e1 e2 mi1 na1 na2 fa1 fa2 a1 y2 j201 n x9 x10)
def F_Md_rest (n : Nat) (m1 : Int64) (m2 : Int64) (e1 : Int32) (e2 : Int32) (mi1 : Int32) (na1 : Int32) (na2 : Int32) (fa1 : Int32) (fa2 : Int32) (a1 : Int32) : Option (Int64) := lt_ (fun (_ : Unit) => some (F_Md_nan a1)) fun j37 => if ¬ na1 = 0 then (j37 ()) else (if ¬ na2 = 0 then (j37 ()) else (if ¬ fa1 = 0 then (j37 ()) else (lt_ (fun (_ : Unit) => lt_ (fun (_ : Unit) => (F_Md_round n mi1 m1 e1 (0 : Int32) a1).bind fun x1 => some x1) fun j58 => if ¬ fa2 = 0 then (j58 ()) else (if ¬ m1 = (0 : Int64) then (lt_ (fun (y2 : Int64) => gz_ (y2 = 0) <| lt_ (m1 - m1 / y2 * y2) fun x3 => lt_ (fun (y4 : Int64) (y5 : Int32) => (F_Md_round n mi1 y4 y5 (0 : Int32) a1).bind fun x6 => some x6) fun j201 => F_Md_rest_L176 m1 m2 e1 e2 mi1 na1 na2 fa1 fa2 a1 y2 j201 n x3 e1) fun j170 => if e2 ≤ e1 then (j170 m2) else ((F_Md_length n m2).bind fun x11 => lt_ (fun (_ : Unit) => (F_Md_round n mi1 m1 e1 (0 : Int32) a1).bind fun x12 => some x12) fun j140 => if (60 : Int32) < ((x11 + e2) - e1) then (j140 ()) else (if (m2 <<< ((e2 - e1).toInt64 &&& 63)) ≤ m1 then (lt_ (m2 <<< ((e2 - e1).toInt64 &&& 63)) fun x13 => j170 x13) else (j140 ())))) else (j58 ()))) fun j42 => if ¬ fa2 = 0 then (j42 ()) else (if ¬ m2 = (0 : Int64) then (j42 ()) else (j37 ())))))
set_option maxHeartbeats 4000000 in
set_option maxRecDepth 100000 in
theorem c_Md_rest (l : Launch) (D : va_G) (A : Nat → Prop) (cI cL cC : ClassId) (ad : Nat → Nat) (X : va_W) (laid : Int32) (gone : Int32) (thr : Int32) (m1 : Int64) (m2 : Int64) (e1 : Int32) (e2 : Int32) (mi1 : Int32) (mi2 : Int32) (na1 : Int32) (na2 : Int32) (fa1 : Int32) (fa2 : Int32) (lets : Nat → Int32) (rlen : Int32) (rlaid : Int32) (rgone : Int32) (rthr : Int32) (were : Int32) (none_ : Int32) (beyo : Int32) (aN : Int32) (bN : Int32) (fN : Int32) (lN_ : Int32) (rN : Int32) (pN : Int32) (twos : Int32) (at_ : Int32) (rdig : Int32) (rpow : Int32) (good : Int32) (txt : Nat → Int32) (wri : Nat → Int32) (ra : Nat → Int32) (rb : Nat → Int32) (rfive : Nat → Int32) (rleft : Nat → Int32) (rright : Nat → Int32) (rpart : Nat → Int32) (n : Nat) (a1 : Int32) (r : Int64) (h : F_Md_rest n m1 m2 e1 e2 mi1 na1 na2 fa1 fa2 a1 = some r) : Met l y_Md_rest (.code y_Md_rest b_Md_rest 7 (some .long) :: BIG) ({ frames := 3, cells := 0, slots := 0, locals := 77 } : Room) (va_Pc [.ref (ad 0), .int a1] (gPre D A (tysV cI cL cC) (gM cI cL cC ad X laid gone thr m1 m2 e1 e2 mi1 mi2 na1 na2 fa1 fa2 lets rlen rlaid rgone rthr were none_ beyo aN bN fN lN_ rN pN twos at_ rdig rpow good txt wri ra rb rfive rleft rright rpart))) (gQ D A (some (.long r)) (gM cI cL cC ad X laid gone thr m1 m2 e1 e2 mi1 mi2 na1 na2 fa1 fa2 lets rlen rlaid rgone rthr were none_ beyo aN bN fN lN_ rN pN twos at_ rdig rpow good txt wri ra rb rfive rleft rright rpart)) 0 0 A := by
  refine gOpen_l rfl (Nat.le_of_ble_eq_true rfl) ?_
  intro p e s m args below meth c Q ls hx hb hml hown hts hT hNB hP hK hD hl hret
  have hown : s.vm.findClass R_Md = some m.cls := hown
  have hS : va_S A s.heap s.heap [] := va_S.rf
  have hl : lv_has ls 7 [(0, .ref (ad 0)), (1, .int a1)] := hl
  have h : (lt_ (fun (_ : Unit) => some (F_Md_nan a1)) fun j37 => if ¬ na1 = 0 then (j37 ()) else (if ¬ na2 = 0 then (j37 ()) else (if ¬ fa1 = 0 then (j37 ()) else (lt_ (fun (_ : Unit) => lt_ (fun (_ : Unit) => (F_Md_round n mi1 m1 e1 (0 : Int32) a1).bind fun x1 => some x1) fun j58 => if ¬ fa2 = 0 then (j58 ()) else (if ¬ m1 = (0 : Int64) then (lt_ (fun (y2 : Int64) => gz_ (y2 = 0) <| lt_ (m1 - m1 / y2 * y2) fun x3 => lt_ (fun (y4 : Int64) (y5 : Int32) => (F_Md_round n mi1 y4 y5 (0 : Int32) a1).bind fun x6 => some x6) fun j201 => F_Md_rest_L176 m1 m2 e1 e2 mi1 na1 na2 fa1 fa2 a1 y2 j201 n x3 e1) fun j170 => if e2 ≤ e1 then (j170 m2) else ((F_Md_length n m2).bind fun x11 => lt_ (fun (_ : Unit) => (F_Md_round n mi1 m1 e1 (0 : Int32) a1).bind fun x12 => some x12) fun j140 => if (60 : Int32) < ((x11 + e2) - e1) then (j140 ()) else (if (m2 <<< ((e2 - e1).toInt64 &&& 63)) ≤ m1 then (lt_ (m2 <<< ((e2 - e1).toInt64 &&& 63)) fun x13 => j170 x13) else (j140 ())))) else (j58 ()))) fun j42 => if ¬ fa2 = 0 then (j42 ()) else (if ¬ m2 = (0 : Int64) then (j42 ()) else (j37 ())))))) = some r := h
  refine lv_aload_n hx hb d_Md_rest_0 rfl (lv_at hl 0 rfl) ?_
  refine va_get (D := D) (ci := 4) (C := R_Md) (T := T_Md) (N := 15) hx hb hT in_Md hown hK hP 0 rfl rfl 11 (by decide) (hT _ m_257) (fun _ h9 => h9) rfl d_Md_rest_1 ?_
  obtain ⟨j37, e_j37, h⟩ := lt_o h
  have hJ37 : ∀ (ls : Array Slot) (H : Heap) (locs : List Loc), lv_has ls 7 [(1, .int a1)] → va_P D cls (gM cI cL cC ad X laid gone thr m1 m2 e1 e2 mi1 mi2 na1 na2 fa1 fa2 lets rlen rlaid rgone rthr were none_ beyo aN bN fN lN_ rN pN twos at_ rdig rpow good txt wri ra rb rfive rleft rright rpart) H → va_D A (gM cI cL cC ad X laid gone thr m1 m2 e1 e2 mi1 mi2 na1 na2 fa1 fa2 lets rlen rlaid rgone rthr were none_ beyo aN bN fN lN_ rN pN twos at_ rdig rpow good txt wri ra rb rfive rleft rright rpart) → va_S A s.heap H locs → j37 () = some r → W p l e ({ frames := 3, cells := 0, slots := 0, locals := 77 } : Room) s m args below meth c H locs 0 0 Q (F0 m 37 ls []) := by
    intro  ls H locs hl hP hD hS h
    rw [e_j37] at h
    refine lv_iload_n hx hb d_Md_rest_37 rfl (lv_at hl 0 rfl) ?_
    refine q_S (As := [.int a1]) (rest := []) (n := 1) hx hb hml hown hts (c_Md_nan l a1) rfl rfl m_259 m_260 m_261 m_130 (by decide +kernel) ⟨Nat.le_of_ble_eq_true rfl, Nat.le_of_ble_eq_true rfl⟩ (p0_bl) (fun U hU hW => p0_mv hU hW hNB) rfl hl.1 rfl (Nat.le_of_ble_eq_true rfl) d_Md_rest_38 ⟨Nat.zero_le _, Nat.zero_le _⟩ ?_
    obtain rfl := Option.some.inj h
    exact hret 41 ls _ _ _ rfl hP hD hS d_Md_rest_41
  refine lv_if_ne (tgt := 37) hx hb d_Md_rest_4 rfl (fun hc => ?_) (fun hc => ?_)
  · have h := ite_t hc h
    exact hJ37 ls _ _ (lv_sub hl [1] rfl) hP hD hS h
  · have hc := not_not_intro hc
    have h := ite_f hc h
    refine lv_aload_n hx hb d_Md_rest_7 rfl (lv_at hl 0 rfl) ?_
    refine va_get (D := D) (ci := 4) (C := R_Md) (T := T_Md) (N := 15) hx hb hT in_Md hown hK hP 0 rfl rfl 12 (by decide) (hT _ m_252) (fun _ h9 => h9) rfl d_Md_rest_8 ?_
    refine lv_if_ne (tgt := 37) hx hb d_Md_rest_11 rfl (fun hc => ?_) (fun hc => ?_)
    · have h := ite_t hc h
      exact hJ37 ls _ _ (lv_sub hl [1] rfl) hP hD hS h
    · have hc := not_not_intro hc
      have h := ite_f hc h
      refine lv_aload_n hx hb d_Md_rest_14 rfl (lv_at hl 0 rfl) ?_
      refine va_get (D := D) (ci := 4) (C := R_Md) (T := T_Md) (N := 15) hx hb hT in_Md hown hK hP 0 rfl rfl 13 (by decide) (hT _ m_258) (fun _ h9 => h9) rfl d_Md_rest_15 ?_
      refine lv_if_ne (tgt := 37) hx hb d_Md_rest_18 rfl (fun hc => ?_) (fun hc => ?_)
      · have h := ite_t hc h
        exact hJ37 ls _ _ (lv_sub hl [1] rfl) hP hD hS h
      · have hc := not_not_intro hc
        have h := ite_f hc h
        refine lv_aload_n hx hb d_Md_rest_21 rfl (lv_at hl 0 rfl) ?_
        refine va_get (D := D) (ci := 4) (C := R_Md) (T := T_Md) (N := 15) hx hb hT in_Md hown hK hP 0 rfl rfl 14 (by decide) (hT _ m_253) (fun _ h9 => h9) rfl d_Md_rest_22 ?_
        obtain ⟨j42, e_j42, h⟩ := lt_o h
        have hJ42 : ∀ (ls : Array Slot) (H : Heap) (locs : List Loc), lv_has ls 7 [(0, .ref (ad 0)), (1, .int a1)] → va_P D cls (gM cI cL cC ad X laid gone thr m1 m2 e1 e2 mi1 mi2 na1 na2 fa1 fa2 lets rlen rlaid rgone rthr were none_ beyo aN bN fN lN_ rN pN twos at_ rdig rpow good txt wri ra rb rfive rleft rright rpart) H → va_D A (gM cI cL cC ad X laid gone thr m1 m2 e1 e2 mi1 mi2 na1 na2 fa1 fa2 lets rlen rlaid rgone rthr were none_ beyo aN bN fN lN_ rN pN twos at_ rdig rpow good txt wri ra rb rfive rleft rright rpart) → va_S A s.heap H locs → j42 () = some r → W p l e ({ frames := 3, cells := 0, slots := 0, locals := 77 } : Room) s m args below meth c H locs 0 0 Q (F0 m 42 ls []) := by
          intro  ls H locs hl hP hD hS h
          rw [e_j42] at h
          refine lv_aload_n hx hb d_Md_rest_42 rfl (lv_at hl 0 rfl) ?_
          refine va_get (D := D) (ci := 4) (C := R_Md) (T := T_Md) (N := 15) hx hb hT in_Md hown hK hP 0 rfl rfl 14 (by decide) (hT _ m_253) (fun _ h9 => h9) rfl d_Md_rest_43 ?_
          obtain ⟨j58, e_j58, h⟩ := lt_o h
          have hJ58 : ∀ (ls : Array Slot) (H : Heap) (locs : List Loc), lv_has ls 7 [(0, .ref (ad 0)), (1, .int a1)] → va_P D cls (gM cI cL cC ad X laid gone thr m1 m2 e1 e2 mi1 mi2 na1 na2 fa1 fa2 lets rlen rlaid rgone rthr were none_ beyo aN bN fN lN_ rN pN twos at_ rdig rpow good txt wri ra rb rfive rleft rright rpart) H → va_D A (gM cI cL cC ad X laid gone thr m1 m2 e1 e2 mi1 mi2 na1 na2 fa1 fa2 lets rlen rlaid rgone rthr were none_ beyo aN bN fN lN_ rN pN twos at_ rdig rpow good txt wri ra rb rfive rleft rright rpart) → va_S A s.heap H locs → j58 () = some r → W p l e ({ frames := 3, cells := 0, slots := 0, locals := 77 } : Room) s m args below meth c H locs 0 0 Q (F0 m 58 ls []) := by
            intro  ls H locs hl hP hD hS h
            rw [e_j58] at h
            refine lv_aload_n hx hb d_Md_rest_58 rfl (lv_at hl 0 rfl) ?_
            refine va_get (D := D) (ci := 4) (C := R_Md) (T := T_Md) (N := 15) hx hb hT in_Md hown hK hP 0 rfl rfl 9 (by decide) (hT _ m_256) (fun _ h9 => h9) rfl d_Md_rest_59 ?_
            refine lv_aload_n hx hb d_Md_rest_62 rfl (lv_at hl 0 rfl) ?_
            refine va_get (D := D) (ci := 4) (C := R_Md) (T := T_Md) (N := 15) hx hb hT in_Md hown hK hP 0 rfl rfl 5 (by decide) (hT _ m_254) (fun _ h9 => h9) rfl d_Md_rest_63 ?_
            refine lv_aload_n hx hb d_Md_rest_66 rfl (lv_at hl 0 rfl) ?_
            refine va_get (D := D) (ci := 4) (C := R_Md) (T := T_Md) (N := 15) hx hb hT in_Md hown hK hP 0 rfl rfl 7 (by decide) (hT _ m_255) (fun _ h9 => h9) rfl d_Md_rest_67 ?_
            refine lv_iconst hx hb d_Md_rest_70 ic_0 ?_
            refine lv_iload_n hx hb d_Md_rest_71 rfl (lv_at hl 1 rfl) ?_
            obtain ⟨x1, e_x1, h⟩ := bd_o h
            refine q_S (As := [.int mi1, .long m1, .int e1, .int (0 : Int32), .int a1]) (rest := []) (n := 5) hx hb hml hown hts (c_Md_round l n mi1 m1 e1 (0 : Int32) a1 _ e_x1) rfl rfl m_262 m_263 m_264 m_130 (by decide +kernel) ⟨Nat.le_of_ble_eq_true rfl, Nat.le_of_ble_eq_true rfl⟩ (p0_bl) (fun U hU hW => p0_mv hU hW hNB) rfl hl.1 rfl (Nat.le_of_ble_eq_true rfl) d_Md_rest_72 ⟨Nat.zero_le _, Nat.zero_le _⟩ ?_
            obtain rfl := Option.some.inj h
            exact hret 75 ls _ _ _ rfl hP hD hS d_Md_rest_75
          refine lv_if_ne (tgt := 58) hx hb d_Md_rest_46 rfl (fun hc => ?_) (fun hc => ?_)
          · have h := ite_t hc h
            exact hJ58 ls _ _ (lv_sub hl [0, 1] rfl) hP hD hS h
          · have hc := not_not_intro hc
            have h := ite_f hc h
            refine lv_aload_n hx hb d_Md_rest_49 rfl (lv_at hl 0 rfl) ?_
            refine va_get (D := D) (ci := 4) (C := R_Md) (T := T_Md) (N := 15) hx hb hT in_Md hown hK hP 0 rfl rfl 5 (by decide) (hT _ m_254) (fun _ h9 => h9) rfl d_Md_rest_50 ?_
            refine lv_lconst hx hb d_Md_rest_53 lc_0 ?_
            refine W.lcmp hx hb d_Md_rest_54 ?_
            refine lv_if_ne (tgt := 76) hx hb d_Md_rest_55 rfl (fun hc => ?_) (fun hc => ?_)
            · have hc := mt (lg_cmp_eq _ _).mpr hc
              have h := ite_t hc h
              refine lv_aload_n hx hb d_Md_rest_76 rfl (lv_at hl 0 rfl) ?_
              refine va_get (D := D) (ci := 4) (C := R_Md) (T := T_Md) (N := 15) hx hb hT in_Md hown hK hP 0 rfl rfl 6 (by decide) (hT _ m_249) (fun _ h9 => h9) rfl d_Md_rest_77 ?_
              refine lv_lstore_n hx hb d_Md_rest_80 rfl hl (by decide) rfl (fun ls hl => ?_)
              have hl : lv_has ls 7 [(2, .long m2), (0, .ref (ad 0)), (1, .int a1)] := hl
              refine lv_aload_n hx hb d_Md_rest_81 rfl (lv_at hl 1 rfl) ?_
              refine va_get (D := D) (ci := 4) (C := R_Md) (T := T_Md) (N := 15) hx hb hT in_Md hown hK hP 0 rfl rfl 5 (by decide) (hT _ m_254) (fun _ h9 => h9) rfl d_Md_rest_82 ?_
              refine lv_lstore hx hb d_Md_rest_85 hl (by decide) rfl (fun ls hl => ?_)
              have hl : lv_has ls 7 [(4, .long m1), (2, .long m2), (0, .ref (ad 0)), (1, .int a1)] := hl
              refine lv_aload_n hx hb d_Md_rest_87 rfl (lv_at hl 2 rfl) ?_
              refine va_get (D := D) (ci := 4) (C := R_Md) (T := T_Md) (N := 15) hx hb hT in_Md hown hK hP 0 rfl rfl 7 (by decide) (hT _ m_255) (fun _ h9 => h9) rfl d_Md_rest_88 ?_
              refine lv_istore hx hb d_Md_rest_91 hl (by decide) rfl (fun ls hl => ?_)
              have hl : lv_has ls 7 [(6, .int e1), (4, .long m1), (2, .long m2), (0, .ref (ad 0)), (1, .int a1)] := hl
              refine lv_aload_n hx hb d_Md_rest_93 rfl (lv_at hl 3 rfl) ?_
              refine va_get (D := D) (ci := 4) (C := R_Md) (T := T_Md) (N := 15) hx hb hT in_Md hown hK hP 0 rfl rfl 7 (by decide) (hT _ m_255) (fun _ h9 => h9) rfl d_Md_rest_94 ?_
              refine lv_aload_n hx hb d_Md_rest_97 rfl (lv_at hl 3 rfl) ?_
              refine va_get (D := D) (ci := 4) (C := R_Md) (T := T_Md) (N := 15) hx hb hT in_Md hown hK hP 0 rfl rfl 8 (by decide) (hT _ m_250) (fun _ h9 => h9) rfl d_Md_rest_98 ?_
              obtain ⟨j170, e_j170, h⟩ := lt_o h
              have hJ170 : ∀ (y2 : Int64) (ls : Array Slot) (H : Heap) (locs : List Loc), lv_has ls 7 [(0, .ref (ad 0)), (1, .int a1), (2, .long y2), (4, .long m1), (6, .int e1)] → va_P D cls (gM cI cL cC ad X laid gone thr m1 m2 e1 e2 mi1 mi2 na1 na2 fa1 fa2 lets rlen rlaid rgone rthr were none_ beyo aN bN fN lN_ rN pN twos at_ rdig rpow good txt wri ra rb rfive rleft rright rpart) H → va_D A (gM cI cL cC ad X laid gone thr m1 m2 e1 e2 mi1 mi2 na1 na2 fa1 fa2 lets rlen rlaid rgone rthr were none_ beyo aN bN fN lN_ rN pN twos at_ rdig rpow good txt wri ra rb rfive rleft rright rpart) → va_S A s.heap H locs → j170 y2 = some r → W p l e ({ frames := 3, cells := 0, slots := 0, locals := 77 } : Room) s m args below meth c H locs 0 0 Q (F0 m 170 ls []) := by
                intro y2 ls H locs hl hP hD hS h
                rw [e_j170] at h
                refine lv_lload hx hb d_Md_rest_170 (lv_at hl 3 rfl) ?_
                refine lv_lload_n hx hb d_Md_rest_172 rfl (lv_at hl 2 rfl) ?_
                have hz := gz_n h
                have h := gz_h h
                refine lv_lrem hx hb d_Md_rest_173 hz ?_
                refine lv_topl (fun x3 e_x3 => ?_)
                have h := lt_h e_x3 h
                refine lv_lstore hx hb d_Md_rest_174 hl (by decide) rfl (fun ls hl => ?_)
                have hl : lv_has ls 7 [(4, .long x3), (0, .ref (ad 0)), (1, .int a1), (2, .long y2), (6, .int e1)] := hl
                obtain ⟨j201, e_j201, h⟩ := lt_o h
                have hJ201 : ∀ (y4 : Int64) (y5 : Int32) (ls : Array Slot) (H : Heap) (locs : List Loc), lv_has ls 7 [(0, .ref (ad 0)), (1, .int a1), (4, .long y4), (6, .int y5)] → va_P D cls (gM cI cL cC ad X laid gone thr m1 m2 e1 e2 mi1 mi2 na1 na2 fa1 fa2 lets rlen rlaid rgone rthr were none_ beyo aN bN fN lN_ rN pN twos at_ rdig rpow good txt wri ra rb rfive rleft rright rpart) H → va_D A (gM cI cL cC ad X laid gone thr m1 m2 e1 e2 mi1 mi2 na1 na2 fa1 fa2 lets rlen rlaid rgone rthr were none_ beyo aN bN fN lN_ rN pN twos at_ rdig rpow good txt wri ra rb rfive rleft rright rpart) → va_S A s.heap H locs → j201 y4 y5 = some r → W p l e ({ frames := 3, cells := 0, slots := 0, locals := 77 } : Room) s m args below meth c H locs 0 0 Q (F0 m 201 ls []) := by
                  intro y4 y5 ls H locs hl hP hD hS h
                  rw [e_j201] at h
                  refine lv_aload_n hx hb d_Md_rest_201 rfl (lv_at hl 0 rfl) ?_
                  refine va_get (D := D) (ci := 4) (C := R_Md) (T := T_Md) (N := 15) hx hb hT in_Md hown hK hP 0 rfl rfl 9 (by decide) (hT _ m_256) (fun _ h9 => h9) rfl d_Md_rest_202 ?_
                  refine lv_lload hx hb d_Md_rest_205 (lv_at hl 2 rfl) ?_
                  refine lv_iload hx hb d_Md_rest_207 (lv_at hl 3 rfl) ?_
                  refine lv_iconst hx hb d_Md_rest_209 ic_0 ?_
                  refine lv_iload_n hx hb d_Md_rest_210 rfl (lv_at hl 1 rfl) ?_
                  obtain ⟨x6, e_x6, h⟩ := bd_o h
                  refine q_S (As := [.int mi1, .long y4, .int y5, .int (0 : Int32), .int a1]) (rest := []) (n := 5) hx hb hml hown hts (c_Md_round l n mi1 y4 y5 (0 : Int32) a1 _ e_x6) rfl rfl m_262 m_263 m_264 m_130 (by decide +kernel) ⟨Nat.le_of_ble_eq_true rfl, Nat.le_of_ble_eq_true rfl⟩ (p0_bl) (fun U hU hW => p0_mv hU hW hNB) rfl hl.1 rfl (Nat.le_of_ble_eq_true rfl) d_Md_rest_211 ⟨Nat.zero_le _, Nat.zero_le _⟩ ?_
                  obtain rfl := Option.some.inj h
                  exact hret 214 ls _ _ _ rfl hP hD hS d_Md_rest_214
                have hL176 : ∀ (n : Nat) (y7 : Int64) (y8 : Int32) (ls : Array Slot) (H : Heap) (locs : List Loc), lv_has ls 7 [(0, .ref (ad 0)), (1, .int a1), (2, .long y2), (4, .long y7), (6, .int y8)] → va_P D cls (gM cI cL cC ad X laid gone thr m1 m2 e1 e2 mi1 mi2 na1 na2 fa1 fa2 lets rlen rlaid rgone rthr were none_ beyo aN bN fN lN_ rN pN twos at_ rdig rpow good txt wri ra rb rfive rleft rright rpart) H → va_D A (gM cI cL cC ad X laid gone thr m1 m2 e1 e2 mi1 mi2 na1 na2 fa1 fa2 lets rlen rlaid rgone rthr were none_ beyo aN bN fN lN_ rN pN twos at_ rdig rpow good txt wri ra rb rfive rleft rright rpart) → va_S A s.heap H locs → F_Md_rest_L176 m1 m2 e1 e2 mi1 na1 na2 fa1 fa2 a1 y2 j201 n y7 y8 = some r → W p l e ({ frames := 3, cells := 0, slots := 0, locals := 77 } : Room) s m args below meth c H locs 0 0 Q (F0 m 176 ls []) := by
                  intro n
                  induction n with
                  | zero => intro y7 y8 ls H locs hl hP hD hS h; exact no_s h
                  | succ n ih =>
                    intro y7 y8 ls H locs hl hP hD hS h
                    have h : (if y8 ≤ e2 then (j201 y7 y8) else (gz_ (y2 = 0) <| lt_ (((2 : Int64) * y7) - ((2 : Int64) * y7) / y2 * y2) fun x9 => lt_ (y8 + Int32.ofInt (-1)) fun x10 => F_Md_rest_L176 m1 m2 e1 e2 mi1 na1 na2 fa1 fa2 a1 y2 j201 n x9 x10)) = some r := h
                    refine lv_iload hx hb d_Md_rest_176 (lv_at hl 4 rfl) ?_
                    refine lv_aload_n hx hb d_Md_rest_178 rfl (lv_at hl 0 rfl) ?_
                    refine va_get (D := D) (ci := 4) (C := R_Md) (T := T_Md) (N := 15) hx hb hT in_Md hown hK hP 0 rfl rfl 8 (by decide) (hT _ m_250) (fun _ h9 => h9) rfl d_Md_rest_179 ?_
                    refine lv_icmp_le (tgt := 201) hx hb d_Md_rest_182 rfl (fun hc => ?_) (fun hc => ?_)
                    · have h := ite_t hc h
                      exact hJ201 _ _ ls _ _ (lv_sub hl [0, 1, 3, 4] rfl) hP hD hS h
                    · have h := ite_f hc h
                      refine lv_ldc2 hx hb hown (hT _ m_266) d_Md_rest_185 ?_
                      refine lv_lload hx hb d_Md_rest_188 (lv_at hl 3 rfl) ?_
                      refine lv_lmul hx hb d_Md_rest_190 ?_
                      refine lv_lload_n hx hb d_Md_rest_191 rfl (lv_at hl 2 rfl) ?_
                      have hz := gz_n h
                      have h := gz_h h
                      refine lv_lrem hx hb d_Md_rest_192 hz ?_
                      refine lv_topl (fun x9 e_x9 => ?_)
                      have h := lt_h e_x9 h
                      refine lv_lstore hx hb d_Md_rest_193 hl (by decide) rfl (fun ls hl => ?_)
                      have hl : lv_has ls 7 [(4, .long x9), (0, .ref (ad 0)), (1, .int a1), (2, .long y2), (6, .int y8)] := hl
                      obtain ⟨x10, e_x10⟩ : ∃ z, z = y8 + Int32.ofInt (-1) := ⟨_, rfl⟩
                      have h := lt_h e_x10 h
                      refine lv_iinc (k := 4) hx hb d_Md_rest_195 hl rfl e_x10.symm (by decide) rfl (fun ls hl => ?_)
                      have hl : lv_has ls 7 [(6, .int x10), (4, .long x9), (0, .ref (ad 0)), (1, .int a1), (2, .long y2)] := hl
                      refine lv_goto (tgt := 176) hx hb d_Md_rest_198 rfl ?_
                      exact ih _ _ ls _ _ (lv_sub hl [2, 3, 4, 1, 0] rfl) hP hD hS h
                exact hL176 n _ _ ls _ _ (lv_sub hl [1, 2, 3, 0, 4] rfl) hP hD hS h
              refine lv_icmp_ge (tgt := 170) hx hb d_Md_rest_101 rfl (fun hc => ?_) (fun hc => ?_)
              · have h := ite_t hc h
                exact hJ170 _ ls _ _ (lv_sub hl [3, 4, 2, 1, 0] rfl) hP hD hS h
              · have h := ite_f hc h
                refine lv_lload_n hx hb d_Md_rest_104 rfl (lv_at hl 2 rfl) ?_
                obtain ⟨x11, e_x11, h⟩ := bd_o h
                refine q_S (As := [.long m2]) (rest := []) (n := 1) hx hb hml hown hts (c_Md_length l n m2 _ e_x11) rfl rfl m_131 m_132 m_133 m_130 (by decide +kernel) ⟨Nat.le_of_ble_eq_true rfl, Nat.le_of_ble_eq_true rfl⟩ (p0_bl) (fun U hU hW => p0_mv hU hW hNB) rfl hl.1 rfl (Nat.le_of_ble_eq_true rfl) d_Md_rest_105 ⟨Nat.zero_le _, Nat.zero_le _⟩ ?_
                refine lv_aload_n hx hb d_Md_rest_108 rfl (lv_at hl 3 rfl) ?_
                refine va_get (D := D) (ci := 4) (C := R_Md) (T := T_Md) (N := 15) hx hb hT in_Md hown hK hP 0 rfl rfl 8 (by decide) (hT _ m_250) (fun _ h9 => h9) rfl d_Md_rest_109 ?_
                refine lv_iadd hx hb d_Md_rest_112 ?_
                refine lv_aload_n hx hb d_Md_rest_113 rfl (lv_at hl 3 rfl) ?_
                refine va_get (D := D) (ci := 4) (C := R_Md) (T := T_Md) (N := 15) hx hb hT in_Md hown hK hP 0 rfl rfl 7 (by decide) (hT _ m_255) (fun _ h9 => h9) rfl d_Md_rest_114 ?_
                refine lv_isub hx hb d_Md_rest_117 ?_
                refine lv_bipush hx hb d_Md_rest_118 bp_60 ?_
                obtain ⟨j140, e_j140, h⟩ := lt_o h
                have hJ140 : ∀ (ls : Array Slot) (H : Heap) (locs : List Loc), lv_has ls 7 [(0, .ref (ad 0)), (1, .int a1)] → va_P D cls (gM cI cL cC ad X laid gone thr m1 m2 e1 e2 mi1 mi2 na1 na2 fa1 fa2 lets rlen rlaid rgone rthr were none_ beyo aN bN fN lN_ rN pN twos at_ rdig rpow good txt wri ra rb rfive rleft rright rpart) H → va_D A (gM cI cL cC ad X laid gone thr m1 m2 e1 e2 mi1 mi2 na1 na2 fa1 fa2 lets rlen rlaid rgone rthr were none_ beyo aN bN fN lN_ rN pN twos at_ rdig rpow good txt wri ra rb rfive rleft rright rpart) → va_S A s.heap H locs → j140 () = some r → W p l e ({ frames := 3, cells := 0, slots := 0, locals := 77 } : Room) s m args below meth c H locs 0 0 Q (F0 m 140 ls []) := by
                  intro  ls H locs hl hP hD hS h
                  rw [e_j140] at h
                  refine lv_aload_n hx hb d_Md_rest_140 rfl (lv_at hl 0 rfl) ?_
                  refine va_get (D := D) (ci := 4) (C := R_Md) (T := T_Md) (N := 15) hx hb hT in_Md hown hK hP 0 rfl rfl 9 (by decide) (hT _ m_256) (fun _ h9 => h9) rfl d_Md_rest_141 ?_
                  refine lv_aload_n hx hb d_Md_rest_144 rfl (lv_at hl 0 rfl) ?_
                  refine va_get (D := D) (ci := 4) (C := R_Md) (T := T_Md) (N := 15) hx hb hT in_Md hown hK hP 0 rfl rfl 5 (by decide) (hT _ m_254) (fun _ h9 => h9) rfl d_Md_rest_145 ?_
                  refine lv_aload_n hx hb d_Md_rest_148 rfl (lv_at hl 0 rfl) ?_
                  refine va_get (D := D) (ci := 4) (C := R_Md) (T := T_Md) (N := 15) hx hb hT in_Md hown hK hP 0 rfl rfl 7 (by decide) (hT _ m_255) (fun _ h9 => h9) rfl d_Md_rest_149 ?_
                  refine lv_iconst hx hb d_Md_rest_152 ic_0 ?_
                  refine lv_iload_n hx hb d_Md_rest_153 rfl (lv_at hl 1 rfl) ?_
                  obtain ⟨x12, e_x12, h⟩ := bd_o h
                  refine q_S (As := [.int mi1, .long m1, .int e1, .int (0 : Int32), .int a1]) (rest := []) (n := 5) hx hb hml hown hts (c_Md_round l n mi1 m1 e1 (0 : Int32) a1 _ e_x12) rfl rfl m_262 m_263 m_264 m_130 (by decide +kernel) ⟨Nat.le_of_ble_eq_true rfl, Nat.le_of_ble_eq_true rfl⟩ (p0_bl) (fun U hU hW => p0_mv hU hW hNB) rfl hl.1 rfl (Nat.le_of_ble_eq_true rfl) d_Md_rest_154 ⟨Nat.zero_le _, Nat.zero_le _⟩ ?_
                  obtain rfl := Option.some.inj h
                  exact hret 157 ls _ _ _ rfl hP hD hS d_Md_rest_157
                refine lv_icmp_gt (tgt := 140) hx hb d_Md_rest_120 rfl (fun hc => ?_) (fun hc => ?_)
                · have h := ite_t hc h
                  exact hJ140 ls _ _ (lv_sub hl [3, 4] rfl) hP hD hS h
                · have h := ite_f hc h
                  refine lv_lload_n hx hb d_Md_rest_123 rfl (lv_at hl 2 rfl) ?_
                  refine lv_aload_n hx hb d_Md_rest_124 rfl (lv_at hl 3 rfl) ?_
                  refine va_get (D := D) (ci := 4) (C := R_Md) (T := T_Md) (N := 15) hx hb hT in_Md hown hK hP 0 rfl rfl 8 (by decide) (hT _ m_250) (fun _ h9 => h9) rfl d_Md_rest_125 ?_
                  refine lv_aload_n hx hb d_Md_rest_128 rfl (lv_at hl 3 rfl) ?_
                  refine va_get (D := D) (ci := 4) (C := R_Md) (T := T_Md) (N := 15) hx hb hT in_Md hown hK hP 0 rfl rfl 7 (by decide) (hT _ m_255) (fun _ h9 => h9) rfl d_Md_rest_129 ?_
                  refine lv_isub hx hb d_Md_rest_132 ?_
                  refine lv_lshl hx hb d_Md_rest_133 rfl ?_
                  refine lv_lload hx hb d_Md_rest_134 (lv_at hl 1 rfl) ?_
                  refine W.lcmp hx hb d_Md_rest_136 ?_
                  refine lv_if_le (tgt := 158) hx hb d_Md_rest_137 rfl (fun hc => ?_) (fun hc => ?_)
                  · have hc := (lg_cmp_le _ _).mp hc
                    have h := ite_t hc h
                    refine lv_lload_n hx hb d_Md_rest_158 rfl (lv_at hl 2 rfl) ?_
                    refine lv_aload_n hx hb d_Md_rest_159 rfl (lv_at hl 3 rfl) ?_
                    refine va_get (D := D) (ci := 4) (C := R_Md) (T := T_Md) (N := 15) hx hb hT in_Md hown hK hP 0 rfl rfl 8 (by decide) (hT _ m_250) (fun _ h9 => h9) rfl d_Md_rest_160 ?_
                    refine lv_aload_n hx hb d_Md_rest_163 rfl (lv_at hl 3 rfl) ?_
                    refine va_get (D := D) (ci := 4) (C := R_Md) (T := T_Md) (N := 15) hx hb hT in_Md hown hK hP 0 rfl rfl 7 (by decide) (hT _ m_255) (fun _ h9 => h9) rfl d_Md_rest_164 ?_
                    refine lv_isub hx hb d_Md_rest_167 ?_
                    refine lv_lshl hx hb d_Md_rest_168 rfl ?_
                    refine lv_topl (fun x13 e_x13 => ?_)
                    have h := lt_h e_x13 h
                    refine lv_lstore_n hx hb d_Md_rest_169 rfl hl (by decide) rfl (fun ls hl => ?_)
                    have hl : lv_has ls 7 [(2, .long x13), (6, .int e1), (4, .long m1), (0, .ref (ad 0)), (1, .int a1)] := hl
                    exact hJ170 _ ls _ _ (lv_sub hl [3, 4, 0, 2, 1] rfl) hP hD hS h
                  · have hc := mt (lg_cmp_le _ _).mpr hc
                    have h := ite_f hc h
                    exact hJ140 ls _ _ (lv_sub hl [3, 4] rfl) hP hD hS h
            · have hc := not_not_intro ((lg_cmp_eq _ _).mp hc)
              have h := ite_f hc h
              exact hJ58 ls _ _ (lv_sub hl [0, 1] rfl) hP hD hS h
        refine lv_if_ne (tgt := 42) hx hb d_Md_rest_25 rfl (fun hc => ?_) (fun hc => ?_)
        · have h := ite_t hc h
          exact hJ42 ls _ _ (lv_sub hl [0, 1] rfl) hP hD hS h
        · have hc := not_not_intro hc
          have h := ite_f hc h
          refine lv_aload_n hx hb d_Md_rest_28 rfl (lv_at hl 0 rfl) ?_
          refine va_get (D := D) (ci := 4) (C := R_Md) (T := T_Md) (N := 15) hx hb hT in_Md hown hK hP 0 rfl rfl 6 (by decide) (hT _ m_249) (fun _ h9 => h9) rfl d_Md_rest_29 ?_
          refine lv_lconst hx hb d_Md_rest_32 lc_0 ?_
          refine W.lcmp hx hb d_Md_rest_33 ?_
          refine lv_if_ne (tgt := 42) hx hb d_Md_rest_34 rfl (fun hc => ?_) (fun hc => ?_)
          · have hc := mt (lg_cmp_eq _ _).mpr hc
            have h := ite_t hc h
            exact hJ42 ls _ _ (lv_sub hl [0, 1] rfl) hP hD hS h
          · have hc := not_not_intro ((lg_cmp_eq _ _).mp hc)
            have h := ite_f hc h
            exact hJ37 ls _ _ (lv_sub hl [1] rfl) hP hD hS h
-- Md_broken
theorem d_Md_broken_0 : decode b_Md_broken 0 = .ok (.aload_n 0, 1) := by decide +kernel
theorem d_Md_broken_1 : decode b_Md_broken 1 = .ok (.lload_n 2, 1) := by decide +kernel
theorem d_Md_broken_2 : decode b_Md_broken 2 = .ok (.iload 6, 2) := by decide +kernel
theorem d_Md_broken_4 : decode b_Md_broken 4 = .ok (.iconst 1, 1) := by decide +kernel
theorem d_Md_broken_5 : decode b_Md_broken 5 = .ok (.invokevirtual 101, 3) := by decide +kernel
theorem d_Md_broken_8 : decode b_Md_broken 8 = .ok (.aload_n 0, 1) := by decide +kernel
theorem d_Md_broken_9 : decode b_Md_broken 9 = .ok (.lload 4, 2) := by decide +kernel
theorem d_Md_broken_11 : decode b_Md_broken 11 = .ok (.iload 6, 2) := by decide +kernel
theorem d_Md_broken_13 : decode b_Md_broken 13 = .ok (.iconst 0, 1) := by decide +kernel
theorem d_Md_broken_14 : decode b_Md_broken 14 = .ok (.invokevirtual 101, 3) := by decide +kernel
theorem d_Md_broken_17 : decode b_Md_broken 17 = .ok (.iload_n 1, 1) := by decide +kernel
theorem d_Md_broken_18 : decode b_Md_broken 18 = .ok (.tableswitch 74 0 3 #[30, 37, 60, 67], 30) := by decide +kernel
theorem d_Md_broken_48 : decode b_Md_broken 48 = .ok (.aload_n 0, 1) := by decide +kernel
theorem d_Md_broken_49 : decode b_Md_broken 49 = .ok (.iload 6, 2) := by decide +kernel
theorem d_Md_broken_51 : decode b_Md_broken 51 = .ok (.invokevirtual 105, 3) := by decide +kernel
theorem d_Md_broken_54 : decode b_Md_broken 54 = .ok (.lreturn, 1) := by decide +kernel
theorem d_Md_broken_55 : decode b_Md_broken 55 = .ok (.aload_n 0, 1) := by decide +kernel
theorem d_Md_broken_56 : decode b_Md_broken 56 = .ok (.aload_n 0, 1) := by decide +kernel
theorem d_Md_broken_57 : decode b_Md_broken 57 = .ok (.getfield 67, 3) := by decide +kernel
theorem d_Md_broken_60 : decode b_Md_broken 60 = .ok (.ifCond .ne 7, 3) := by decide +kernel
theorem d_Md_broken_63 : decode b_Md_broken 63 = .ok (.iconst 1, 1) := by decide +kernel
theorem d_Md_broken_64 : decode b_Md_broken 64 = .ok (.goto 4, 3) := by decide +kernel
theorem d_Md_broken_67 : decode b_Md_broken 67 = .ok (.iconst 0, 1) := by decide +kernel
theorem d_Md_broken_68 : decode b_Md_broken 68 = .ok (.putfield 67, 3) := by decide +kernel
theorem d_Md_broken_71 : decode b_Md_broken 71 = .ok (.aload_n 0, 1) := by decide +kernel
theorem d_Md_broken_72 : decode b_Md_broken 72 = .ok (.iload 6, 2) := by decide +kernel
theorem d_Md_broken_74 : decode b_Md_broken 74 = .ok (.invokevirtual 105, 3) := by decide +kernel
theorem d_Md_broken_77 : decode b_Md_broken 77 = .ok (.lreturn, 1) := by decide +kernel
theorem d_Md_broken_78 : decode b_Md_broken 78 = .ok (.aload_n 0, 1) := by decide +kernel
theorem d_Md_broken_79 : decode b_Md_broken 79 = .ok (.iload 6, 2) := by decide +kernel
theorem d_Md_broken_81 : decode b_Md_broken 81 = .ok (.invokevirtual 108, 3) := by decide +kernel
theorem d_Md_broken_84 : decode b_Md_broken 84 = .ok (.lreturn, 1) := by decide +kernel
theorem d_Md_broken_85 : decode b_Md_broken 85 = .ok (.aload_n 0, 1) := by decide +kernel
theorem d_Md_broken_86 : decode b_Md_broken 86 = .ok (.iload 6, 2) := by decide +kernel
theorem d_Md_broken_88 : decode b_Md_broken 88 = .ok (.invokevirtual 111, 3) := by decide +kernel
theorem d_Md_broken_91 : decode b_Md_broken 91 = .ok (.lreturn, 1) := by decide +kernel
theorem d_Md_broken_92 : decode b_Md_broken 92 = .ok (.aload_n 0, 1) := by decide +kernel
theorem d_Md_broken_93 : decode b_Md_broken 93 = .ok (.iload 6, 2) := by decide +kernel
theorem d_Md_broken_95 : decode b_Md_broken 95 = .ok (.invokevirtual 114, 3) := by decide +kernel
theorem d_Md_broken_98 : decode b_Md_broken 98 = .ok (.lreturn, 1) := by decide +kernel
def F_Md_broken (n : Nat) (m1 : Int64) (m2 : Int64) (e1 : Int32) (e2 : Int32) (mi1 : Int32) (mi2 : Int32) (na1 : Int32) (na2 : Int32) (fa1 : Int32) (fa2 : Int32) (a1 : Int32) (a2 : Int64) (a3 : Int64) (a4 : Int32) : Option (Int64 × Int64 × Int64 × Int32 × Int32 × Int32 × Int32 × Int32 × Int32 × Int32 × Int32) := lt_ (F_Md_apart m1 m2 e1 e2 mi1 mi2 na1 na2 fa1 fa2 a2 a4 (1 : Int32)) fun x1 => lt_ (F_Md_apart x1.1 x1.2.1 x1.2.2.1 x1.2.2.2.1 x1.2.2.2.2.1 x1.2.2.2.2.2.1 x1.2.2.2.2.2.2.1 x1.2.2.2.2.2.2.2.1 x1.2.2.2.2.2.2.2.2.1 x1.2.2.2.2.2.2.2.2.2 a3 a4 (0 : Int32)) fun x2 => if a1 = (0 : Int32) then ((F_Md_add n x2.1 x2.2.1 x2.2.2.1 x2.2.2.2.1 x2.2.2.2.2.1 x2.2.2.2.2.2.1 x2.2.2.2.2.2.2.1 x2.2.2.2.2.2.2.2.1 x2.2.2.2.2.2.2.2.2.1 x2.2.2.2.2.2.2.2.2.2 a4).bind fun x3 => some (x3, x2.1, x2.2.1, x2.2.2.1, x2.2.2.2.1, x2.2.2.2.2.1, x2.2.2.2.2.2.1, x2.2.2.2.2.2.2.1, x2.2.2.2.2.2.2.2.1, x2.2.2.2.2.2.2.2.2.1, x2.2.2.2.2.2.2.2.2.2)) else if a1 = (1 : Int32) then (lt_ (if ¬ x2.2.2.2.2.2.1 = 0 then (0 : Int32) else (1 : Int32)) fun x4 => (F_Md_add n x2.1 x2.2.1 x2.2.2.1 x2.2.2.2.1 x2.2.2.2.2.1 x4 x2.2.2.2.2.2.2.1 x2.2.2.2.2.2.2.2.1 x2.2.2.2.2.2.2.2.2.1 x2.2.2.2.2.2.2.2.2.2 a4).bind fun x5 => some (x5, x2.1, x2.2.1, x2.2.2.1, x2.2.2.2.1, x2.2.2.2.2.1, x4, x2.2.2.2.2.2.2.1, x2.2.2.2.2.2.2.2.1, x2.2.2.2.2.2.2.2.2.1, x2.2.2.2.2.2.2.2.2.2)) else if a1 = (2 : Int32) then ((F_Md_times n x2.1 x2.2.1 x2.2.2.1 x2.2.2.2.1 x2.2.2.2.2.1 x2.2.2.2.2.2.1 x2.2.2.2.2.2.2.1 x2.2.2.2.2.2.2.2.1 x2.2.2.2.2.2.2.2.2.1 x2.2.2.2.2.2.2.2.2.2 a4).bind fun x6 => some (x6, x2.1, x2.2.1, x2.2.2.1, x2.2.2.2.1, x2.2.2.2.2.1, x2.2.2.2.2.2.1, x2.2.2.2.2.2.2.1, x2.2.2.2.2.2.2.2.1, x2.2.2.2.2.2.2.2.2.1, x2.2.2.2.2.2.2.2.2.2)) else if a1 = (3 : Int32) then ((F_Md_over n x2.1 x2.2.1 x2.2.2.1 x2.2.2.2.1 x2.2.2.2.2.1 x2.2.2.2.2.2.1 x2.2.2.2.2.2.2.1 x2.2.2.2.2.2.2.2.1 x2.2.2.2.2.2.2.2.2.1 x2.2.2.2.2.2.2.2.2.2 a4).bind fun x7 => some (x7, x2.1, x2.2.1, x2.2.2.1, x2.2.2.2.1, x2.2.2.2.2.1, x2.2.2.2.2.2.1, x2.2.2.2.2.2.2.1, x2.2.2.2.2.2.2.2.1, x2.2.2.2.2.2.2.2.2.1, x2.2.2.2.2.2.2.2.2.2)) else ((F_Md_rest n x2.1 x2.2.1 x2.2.2.1 x2.2.2.2.1 x2.2.2.2.2.1 x2.2.2.2.2.2.2.1 x2.2.2.2.2.2.2.2.1 x2.2.2.2.2.2.2.2.2.1 x2.2.2.2.2.2.2.2.2.2 a4).bind fun x8 => some (x8, x2.1, x2.2.1, x2.2.2.1, x2.2.2.2.1, x2.2.2.2.2.1, x2.2.2.2.2.2.1, x2.2.2.2.2.2.2.1, x2.2.2.2.2.2.2.2.1, x2.2.2.2.2.2.2.2.2.1, x2.2.2.2.2.2.2.2.2.2))
set_option maxHeartbeats 4000000 in
set_option maxRecDepth 100000 in
theorem c_Md_broken (l : Launch) (D : va_G) (A : Nat → Prop) (cI cL cC : ClassId) (ad : Nat → Nat) (X : va_W) (laid : Int32) (gone : Int32) (thr : Int32) (m1 : Int64) (m2 : Int64) (e1 : Int32) (e2 : Int32) (mi1 : Int32) (mi2 : Int32) (na1 : Int32) (na2 : Int32) (fa1 : Int32) (fa2 : Int32) (lets : Nat → Int32) (rlen : Int32) (rlaid : Int32) (rgone : Int32) (rthr : Int32) (were : Int32) (none_ : Int32) (beyo : Int32) (aN : Int32) (bN : Int32) (fN : Int32) (lN_ : Int32) (rN : Int32) (pN : Int32) (twos : Int32) (at_ : Int32) (rdig : Int32) (rpow : Int32) (good : Int32) (txt : Nat → Int32) (wri : Nat → Int32) (ra : Nat → Int32) (rb : Nat → Int32) (rfive : Nat → Int32) (rleft : Nat → Int32) (rright : Nat → Int32) (rpart : Nat → Int32) (n : Nat) (a1 : Int32) (a2 : Int64) (a3 : Int64) (a4 : Int32) (r : Int64 × Int64 × Int64 × Int32 × Int32 × Int32 × Int32 × Int32 × Int32 × Int32 × Int32) (h : F_Md_broken n m1 m2 e1 e2 mi1 mi2 na1 na2 fa1 fa2 a1 a2 a3 a4 = some r) : Met l y_Md_broken (.code y_Md_broken b_Md_broken 7 (some .long) :: BIG) ({ frames := 4, cells := 0, slots := 0, locals := 118 } : Room) (va_Pc [.ref (ad 0), .int a1, .long a2, .long a3, .int a4] (gPre D A (tysV cI cL cC) (gM cI cL cC ad X laid gone thr m1 m2 e1 e2 mi1 mi2 na1 na2 fa1 fa2 lets rlen rlaid rgone rthr were none_ beyo aN bN fN lN_ rN pN twos at_ rdig rpow good txt wri ra rb rfive rleft rright rpart))) (gQ D A (some (.long r.1)) (gM cI cL cC ad X laid gone thr r.2.1 r.2.2.1 r.2.2.2.1 r.2.2.2.2.1 r.2.2.2.2.2.1 r.2.2.2.2.2.2.1 r.2.2.2.2.2.2.2.1 r.2.2.2.2.2.2.2.2.1 r.2.2.2.2.2.2.2.2.2.1 r.2.2.2.2.2.2.2.2.2.2 lets rlen rlaid rgone rthr were none_ beyo aN bN fN lN_ rN pN twos at_ rdig rpow good txt wri ra rb rfive rleft rright rpart)) 0 0 A := by
  refine gOpen_l rfl (Nat.le_of_ble_eq_true rfl) ?_
  intro p e s m args below meth c Q ls hx hb hml hown hts hT hNB hP hK hD hl hret
  have hown : s.vm.findClass R_Md = some m.cls := hown
  have hS : va_S A s.heap s.heap [] := va_S.rf
  have hl : lv_has ls 7 [(0, .ref (ad 0)), (1, .int a1), (2, .long a2), (4, .long a3), (6, .int a4)] := hl
  have h : (lt_ (F_Md_apart m1 m2 e1 e2 mi1 mi2 na1 na2 fa1 fa2 a2 a4 (1 : Int32)) fun x1 => lt_ (F_Md_apart x1.1 x1.2.1 x1.2.2.1 x1.2.2.2.1 x1.2.2.2.2.1 x1.2.2.2.2.2.1 x1.2.2.2.2.2.2.1 x1.2.2.2.2.2.2.2.1 x1.2.2.2.2.2.2.2.2.1 x1.2.2.2.2.2.2.2.2.2 a3 a4 (0 : Int32)) fun x2 => if a1 = (0 : Int32) then ((F_Md_add n x2.1 x2.2.1 x2.2.2.1 x2.2.2.2.1 x2.2.2.2.2.1 x2.2.2.2.2.2.1 x2.2.2.2.2.2.2.1 x2.2.2.2.2.2.2.2.1 x2.2.2.2.2.2.2.2.2.1 x2.2.2.2.2.2.2.2.2.2 a4).bind fun x3 => some (x3, x2.1, x2.2.1, x2.2.2.1, x2.2.2.2.1, x2.2.2.2.2.1, x2.2.2.2.2.2.1, x2.2.2.2.2.2.2.1, x2.2.2.2.2.2.2.2.1, x2.2.2.2.2.2.2.2.2.1, x2.2.2.2.2.2.2.2.2.2)) else if a1 = (1 : Int32) then (lt_ (if ¬ x2.2.2.2.2.2.1 = 0 then (0 : Int32) else (1 : Int32)) fun x4 => (F_Md_add n x2.1 x2.2.1 x2.2.2.1 x2.2.2.2.1 x2.2.2.2.2.1 x4 x2.2.2.2.2.2.2.1 x2.2.2.2.2.2.2.2.1 x2.2.2.2.2.2.2.2.2.1 x2.2.2.2.2.2.2.2.2.2 a4).bind fun x5 => some (x5, x2.1, x2.2.1, x2.2.2.1, x2.2.2.2.1, x2.2.2.2.2.1, x4, x2.2.2.2.2.2.2.1, x2.2.2.2.2.2.2.2.1, x2.2.2.2.2.2.2.2.2.1, x2.2.2.2.2.2.2.2.2.2)) else if a1 = (2 : Int32) then ((F_Md_times n x2.1 x2.2.1 x2.2.2.1 x2.2.2.2.1 x2.2.2.2.2.1 x2.2.2.2.2.2.1 x2.2.2.2.2.2.2.1 x2.2.2.2.2.2.2.2.1 x2.2.2.2.2.2.2.2.2.1 x2.2.2.2.2.2.2.2.2.2 a4).bind fun x6 => some (x6, x2.1, x2.2.1, x2.2.2.1, x2.2.2.2.1, x2.2.2.2.2.1, x2.2.2.2.2.2.1, x2.2.2.2.2.2.2.1, x2.2.2.2.2.2.2.2.1, x2.2.2.2.2.2.2.2.2.1, x2.2.2.2.2.2.2.2.2.2)) else if a1 = (3 : Int32) then ((F_Md_over n x2.1 x2.2.1 x2.2.2.1 x2.2.2.2.1 x2.2.2.2.2.1 x2.2.2.2.2.2.1 x2.2.2.2.2.2.2.1 x2.2.2.2.2.2.2.2.1 x2.2.2.2.2.2.2.2.2.1 x2.2.2.2.2.2.2.2.2.2 a4).bind fun x7 => some (x7, x2.1, x2.2.1, x2.2.2.1, x2.2.2.2.1, x2.2.2.2.2.1, x2.2.2.2.2.2.1, x2.2.2.2.2.2.2.1, x2.2.2.2.2.2.2.2.1, x2.2.2.2.2.2.2.2.2.1, x2.2.2.2.2.2.2.2.2.2)) else ((F_Md_rest n x2.1 x2.2.1 x2.2.2.1 x2.2.2.2.1 x2.2.2.2.2.1 x2.2.2.2.2.2.2.1 x2.2.2.2.2.2.2.2.1 x2.2.2.2.2.2.2.2.2.1 x2.2.2.2.2.2.2.2.2.2 a4).bind fun x8 => some (x8, x2.1, x2.2.1, x2.2.2.1, x2.2.2.2.1, x2.2.2.2.2.1, x2.2.2.2.2.2.1, x2.2.2.2.2.2.2.1, x2.2.2.2.2.2.2.2.1, x2.2.2.2.2.2.2.2.2.1, x2.2.2.2.2.2.2.2.2.2))) = some r := h
  refine lv_aload_n hx hb d_Md_broken_0 rfl (lv_at hl 0 rfl) ?_
  refine lv_lload_n hx hb d_Md_broken_1 rfl (lv_at hl 2 rfl) ?_
  refine lv_iload hx hb d_Md_broken_2 (lv_at hl 4 rfl) ?_
  refine lv_iconst hx hb d_Md_broken_4 ic_1 ?_
  obtain ⟨x1, e_x1, h⟩ := lt_o h
  refine q_GV (D := D) (A := A) (C := R_Md) (b := ad 0) (As := [.long a2, .int a4, .int (1 : Int32)]) (rest := []) (n := 3) hx hb hml hown hts (c_Md_apart l D A cI cL cC ad X laid gone thr m1 m2 e1 e2 mi1 mi2 na1 na2 fa1 fa2 lets rlen rlaid rgone rthr were none_ beyo aN bN fN lN_ rN pN twos at_ rdig rpow good txt wri ra rb rfive rleft rright rpart a2 a4 (1 : Int32) x1 e_x1.symm) rfl rfl m_267 m_268 m_269 m_270 m_130 (by decide +kernel) ⟨Nat.le_of_ble_eq_true rfl, Nat.le_of_ble_eq_true rfl⟩ (va_recv hK hP (ci := 4) rfl (q0 := 0) rfl) hNB hK hP hD hS rfl hl.1 rfl (Nat.le_of_ble_eq_true rfl) d_Md_broken_5 ⟨Nat.zero_le _, Nat.zero_le _⟩ (fun H locs hP hD hS => ?_)
  have hP : va_P D cls (gM cI cL cC ad X laid gone thr x1.1 x1.2.1 x1.2.2.1 x1.2.2.2.1 x1.2.2.2.2.1 x1.2.2.2.2.2.1 x1.2.2.2.2.2.2.1 x1.2.2.2.2.2.2.2.1 x1.2.2.2.2.2.2.2.2.1 x1.2.2.2.2.2.2.2.2.2 lets rlen rlaid rgone rthr were none_ beyo aN bN fN lN_ rN pN twos at_ rdig rpow good txt wri ra rb rfive rleft rright rpart) H := hP
  have hD : va_D A (gM cI cL cC ad X laid gone thr x1.1 x1.2.1 x1.2.2.1 x1.2.2.2.1 x1.2.2.2.2.1 x1.2.2.2.2.2.1 x1.2.2.2.2.2.2.1 x1.2.2.2.2.2.2.2.1 x1.2.2.2.2.2.2.2.2.1 x1.2.2.2.2.2.2.2.2.2 lets rlen rlaid rgone rthr were none_ beyo aN bN fN lN_ rN pN twos at_ rdig rpow good txt wri ra rb rfive rleft rright rpart) := hD
  refine lv_aload_n hx hb d_Md_broken_8 rfl (lv_at hl 0 rfl) ?_
  refine lv_lload hx hb d_Md_broken_9 (lv_at hl 3 rfl) ?_
  refine lv_iload hx hb d_Md_broken_11 (lv_at hl 4 rfl) ?_
  refine lv_iconst hx hb d_Md_broken_13 ic_0 ?_
  obtain ⟨x2, e_x2, h⟩ := lt_o h
  refine q_GV (D := D) (A := A) (C := R_Md) (b := ad 0) (As := [.long a3, .int a4, .int (0 : Int32)]) (rest := []) (n := 3) hx hb hml hown hts (c_Md_apart l D A cI cL cC ad X laid gone thr x1.1 x1.2.1 x1.2.2.1 x1.2.2.2.1 x1.2.2.2.2.1 x1.2.2.2.2.2.1 x1.2.2.2.2.2.2.1 x1.2.2.2.2.2.2.2.1 x1.2.2.2.2.2.2.2.2.1 x1.2.2.2.2.2.2.2.2.2 lets rlen rlaid rgone rthr were none_ beyo aN bN fN lN_ rN pN twos at_ rdig rpow good txt wri ra rb rfive rleft rright rpart a3 a4 (0 : Int32) x2 e_x2.symm) rfl rfl m_267 m_268 m_269 m_270 m_130 (by decide +kernel) ⟨Nat.le_of_ble_eq_true rfl, Nat.le_of_ble_eq_true rfl⟩ (va_recv hK hP (ci := 4) rfl (q0 := 0) rfl) hNB hK hP hD hS rfl hl.1 rfl (Nat.le_of_ble_eq_true rfl) d_Md_broken_14 ⟨Nat.zero_le _, Nat.zero_le _⟩ (fun H locs hP hD hS => ?_)
  have hP : va_P D cls (gM cI cL cC ad X laid gone thr x2.1 x2.2.1 x2.2.2.1 x2.2.2.2.1 x2.2.2.2.2.1 x2.2.2.2.2.2.1 x2.2.2.2.2.2.2.1 x2.2.2.2.2.2.2.2.1 x2.2.2.2.2.2.2.2.2.1 x2.2.2.2.2.2.2.2.2.2 lets rlen rlaid rgone rthr were none_ beyo aN bN fN lN_ rN pN twos at_ rdig rpow good txt wri ra rb rfive rleft rright rpart) H := hP
  have hD : va_D A (gM cI cL cC ad X laid gone thr x2.1 x2.2.1 x2.2.2.1 x2.2.2.2.1 x2.2.2.2.2.1 x2.2.2.2.2.2.1 x2.2.2.2.2.2.2.1 x2.2.2.2.2.2.2.2.1 x2.2.2.2.2.2.2.2.2.1 x2.2.2.2.2.2.2.2.2.2 lets rlen rlaid rgone rthr were none_ beyo aN bN fN lN_ rN pN twos at_ rdig rpow good txt wri ra rb rfive rleft rright rpart) := hD
  refine lv_iload_n hx hb d_Md_broken_17 rfl (lv_at hl 1 rfl) ?_
  by_cases hc0 : a1 = (0 : Int32)
  · have h := ite_t hc0 h
    refine lv_tableIn (off := 30) (tgt := 48) hx hb d_Md_broken_18 (by rw [hc0]; decide) (by rw [hc0]; decide) (by rw [hc0]; rfl) rfl ?_
    refine lv_aload_n hx hb d_Md_broken_48 rfl (lv_at hl 0 rfl) ?_
    refine lv_iload hx hb d_Md_broken_49 (lv_at hl 4 rfl) ?_
    obtain ⟨x3, e_x3, h⟩ := bd_o h
    refine q_GV (D := D) (A := A) (C := R_Md) (b := ad 0) (As := [.int a4]) (rest := []) (n := 1) hx hb hml hown hts (c_Md_add l D A cI cL cC ad X laid gone thr x2.1 x2.2.1 x2.2.2.1 x2.2.2.2.1 x2.2.2.2.2.1 x2.2.2.2.2.2.1 x2.2.2.2.2.2.2.1 x2.2.2.2.2.2.2.2.1 x2.2.2.2.2.2.2.2.2.1 x2.2.2.2.2.2.2.2.2.2 lets rlen rlaid rgone rthr were none_ beyo aN bN fN lN_ rN pN twos at_ rdig rpow good txt wri ra rb rfive rleft rright rpart n a4 x3 e_x3) rfl rfl m_271 m_272 m_273 m_274 m_130 (by decide +kernel) ⟨Nat.le_of_ble_eq_true rfl, Nat.le_of_ble_eq_true rfl⟩ (va_recv hK hP (ci := 4) rfl (q0 := 0) rfl) hNB hK hP hD hS rfl hl.1 rfl (Nat.le_of_ble_eq_true rfl) d_Md_broken_51 ⟨Nat.zero_le _, Nat.zero_le _⟩ (fun H locs hP hD hS => ?_)
    have hP : va_P D cls (gM cI cL cC ad X laid gone thr x2.1 x2.2.1 x2.2.2.1 x2.2.2.2.1 x2.2.2.2.2.1 x2.2.2.2.2.2.1 x2.2.2.2.2.2.2.1 x2.2.2.2.2.2.2.2.1 x2.2.2.2.2.2.2.2.2.1 x2.2.2.2.2.2.2.2.2.2 lets rlen rlaid rgone rthr were none_ beyo aN bN fN lN_ rN pN twos at_ rdig rpow good txt wri ra rb rfive rleft rright rpart) H := hP
    have hD : va_D A (gM cI cL cC ad X laid gone thr x2.1 x2.2.1 x2.2.2.1 x2.2.2.2.1 x2.2.2.2.2.1 x2.2.2.2.2.2.1 x2.2.2.2.2.2.2.1 x2.2.2.2.2.2.2.2.1 x2.2.2.2.2.2.2.2.2.1 x2.2.2.2.2.2.2.2.2.2 lets rlen rlaid rgone rthr were none_ beyo aN bN fN lN_ rN pN twos at_ rdig rpow good txt wri ra rb rfive rleft rright rpart) := hD
    obtain rfl := Option.some.inj h
    exact hret 54 ls _ _ _ rfl hP hD hS d_Md_broken_54
  have h := ite_f hc0 h
  by_cases hc1 : a1 = (1 : Int32)
  · have h := ite_t hc1 h
    refine lv_tableIn (off := 37) (tgt := 55) hx hb d_Md_broken_18 (by rw [hc1]; decide) (by rw [hc1]; decide) (by rw [hc1]; rfl) rfl ?_
    refine lv_aload_n hx hb d_Md_broken_55 rfl (lv_at hl 0 rfl) ?_
    refine lv_aload_n hx hb d_Md_broken_56 rfl (lv_at hl 0 rfl) ?_
    refine va_get (D := D) (ci := 4) (C := R_Md) (T := T_Md) (N := 15) hx hb hT in_Md hown hK hP 0 rfl rfl 10 (by decide) (hT _ m_251) (fun _ h9 => h9) rfl d_Md_broken_57 ?_
    obtain ⟨x4, e_x4, h⟩ := lt_o h
    have hJ68 : ∀ (x4' : Int32) (ls : Array Slot), x4 = x4' → lv_has ls 7 [(0, .ref (ad 0)), (6, .int a4)] → W p l e ({ frames := 4, cells := 0, slots := 0, locals := 118 } : Room) s m args below meth c H locs 0 0 Q (F0 m 68 ls [.int x4', .ref (ad 0)]) := by
      intro x4' ls q_x4 hl
      subst q_x4
      refine va_put (D := D) (ci := 4) (C := R_Md) (T := T_Md) (N := 15) hx hb hT in_Md ty_Md tyok_Md nm_Md hown hK hP hD hS 0 rfl rfl 10 (by decide) (hT _ m_251) (fun _ h9 => h9) rfl (ty := .boolean) (by decide +kernel) (nb_1 ((by rw [e_x4]; exact ite01 (Or.inl rfl) (Or.inr rfl)))) (nb_2 ((by rw [e_x4]; exact ite01 (Or.inl rfl) (Or.inr rfl)))) (by decide : 10 < 15) d_Md_broken_68 (fun H locs hP hD hS => ?_)
      have hP : va_P D cls (gM cI cL cC ad X laid gone thr x2.1 x2.2.1 x2.2.2.1 x2.2.2.2.1 x2.2.2.2.2.1 x4 x2.2.2.2.2.2.2.1 x2.2.2.2.2.2.2.2.1 x2.2.2.2.2.2.2.2.2.1 x2.2.2.2.2.2.2.2.2.2 lets rlen rlaid rgone rthr were none_ beyo aN bN fN lN_ rN pN twos at_ rdig rpow good txt wri ra rb rfive rleft rright rpart) H := hP
      have hD : va_D A (gM cI cL cC ad X laid gone thr x2.1 x2.2.1 x2.2.2.1 x2.2.2.2.1 x2.2.2.2.2.1 x4 x2.2.2.2.2.2.2.1 x2.2.2.2.2.2.2.2.1 x2.2.2.2.2.2.2.2.2.1 x2.2.2.2.2.2.2.2.2.2 lets rlen rlaid rgone rthr were none_ beyo aN bN fN lN_ rN pN twos at_ rdig rpow good txt wri ra rb rfive rleft rright rpart) := hD
      refine lv_aload_n hx hb d_Md_broken_71 rfl (lv_at hl 0 rfl) ?_
      refine lv_iload hx hb d_Md_broken_72 (lv_at hl 1 rfl) ?_
      obtain ⟨x5, e_x5, h⟩ := bd_o h
      refine q_GV (D := D) (A := A) (C := R_Md) (b := ad 0) (As := [.int a4]) (rest := []) (n := 1) hx hb hml hown hts (c_Md_add l D A cI cL cC ad X laid gone thr x2.1 x2.2.1 x2.2.2.1 x2.2.2.2.1 x2.2.2.2.2.1 x4 x2.2.2.2.2.2.2.1 x2.2.2.2.2.2.2.2.1 x2.2.2.2.2.2.2.2.2.1 x2.2.2.2.2.2.2.2.2.2 lets rlen rlaid rgone rthr were none_ beyo aN bN fN lN_ rN pN twos at_ rdig rpow good txt wri ra rb rfive rleft rright rpart n a4 x5 e_x5) rfl rfl m_271 m_272 m_273 m_274 m_130 (by decide +kernel) ⟨Nat.le_of_ble_eq_true rfl, Nat.le_of_ble_eq_true rfl⟩ (va_recv hK hP (ci := 4) rfl (q0 := 0) rfl) hNB hK hP hD hS rfl hl.1 rfl (Nat.le_of_ble_eq_true rfl) d_Md_broken_74 ⟨Nat.zero_le _, Nat.zero_le _⟩ (fun H locs hP hD hS => ?_)
      have hP : va_P D cls (gM cI cL cC ad X laid gone thr x2.1 x2.2.1 x2.2.2.1 x2.2.2.2.1 x2.2.2.2.2.1 x4 x2.2.2.2.2.2.2.1 x2.2.2.2.2.2.2.2.1 x2.2.2.2.2.2.2.2.2.1 x2.2.2.2.2.2.2.2.2.2 lets rlen rlaid rgone rthr were none_ beyo aN bN fN lN_ rN pN twos at_ rdig rpow good txt wri ra rb rfive rleft rright rpart) H := hP
      have hD : va_D A (gM cI cL cC ad X laid gone thr x2.1 x2.2.1 x2.2.2.1 x2.2.2.2.1 x2.2.2.2.2.1 x4 x2.2.2.2.2.2.2.1 x2.2.2.2.2.2.2.2.1 x2.2.2.2.2.2.2.2.2.1 x2.2.2.2.2.2.2.2.2.2 lets rlen rlaid rgone rthr were none_ beyo aN bN fN lN_ rN pN twos at_ rdig rpow good txt wri ra rb rfive rleft rright rpart) := hD
      obtain rfl := Option.some.inj h
      exact hret 77 ls _ _ _ rfl hP hD hS d_Md_broken_77
    refine lv_if_ne (tgt := 67) hx hb d_Md_broken_60 rfl (fun hc => ?_) (fun hc => ?_)
    · have e_x4 := e_x4.trans (if_pos hc)
      refine lv_iconst hx hb d_Md_broken_67 ic_0 ?_
      exact hJ68 _ ls e_x4 (lv_sub hl [0, 4] rfl)
    · have hc := not_not_intro hc
      have e_x4 := e_x4.trans (if_neg hc)
      refine lv_iconst hx hb d_Md_broken_63 ic_1 ?_
      refine lv_goto (tgt := 68) hx hb d_Md_broken_64 rfl ?_
      exact hJ68 _ ls e_x4 (lv_sub hl [0, 4] rfl)
  have h := ite_f hc1 h
  by_cases hc2 : a1 = (2 : Int32)
  · have h := ite_t hc2 h
    refine lv_tableIn (off := 60) (tgt := 78) hx hb d_Md_broken_18 (by rw [hc2]; decide) (by rw [hc2]; decide) (by rw [hc2]; rfl) rfl ?_
    refine lv_aload_n hx hb d_Md_broken_78 rfl (lv_at hl 0 rfl) ?_
    refine lv_iload hx hb d_Md_broken_79 (lv_at hl 4 rfl) ?_
    obtain ⟨x6, e_x6, h⟩ := bd_o h
    refine q_GV (D := D) (A := A) (C := R_Md) (b := ad 0) (As := [.int a4]) (rest := []) (n := 1) hx hb hml hown hts (c_Md_times l D A cI cL cC ad X laid gone thr x2.1 x2.2.1 x2.2.2.1 x2.2.2.2.1 x2.2.2.2.2.1 x2.2.2.2.2.2.1 x2.2.2.2.2.2.2.1 x2.2.2.2.2.2.2.2.1 x2.2.2.2.2.2.2.2.2.1 x2.2.2.2.2.2.2.2.2.2 lets rlen rlaid rgone rthr were none_ beyo aN bN fN lN_ rN pN twos at_ rdig rpow good txt wri ra rb rfive rleft rright rpart n a4 x6 e_x6) rfl rfl m_275 m_276 m_277 m_278 m_130 (by decide +kernel) ⟨Nat.le_of_ble_eq_true rfl, Nat.le_of_ble_eq_true rfl⟩ (va_recv hK hP (ci := 4) rfl (q0 := 0) rfl) hNB hK hP hD hS rfl hl.1 rfl (Nat.le_of_ble_eq_true rfl) d_Md_broken_81 ⟨Nat.zero_le _, Nat.zero_le _⟩ (fun H locs hP hD hS => ?_)
    have hP : va_P D cls (gM cI cL cC ad X laid gone thr x2.1 x2.2.1 x2.2.2.1 x2.2.2.2.1 x2.2.2.2.2.1 x2.2.2.2.2.2.1 x2.2.2.2.2.2.2.1 x2.2.2.2.2.2.2.2.1 x2.2.2.2.2.2.2.2.2.1 x2.2.2.2.2.2.2.2.2.2 lets rlen rlaid rgone rthr were none_ beyo aN bN fN lN_ rN pN twos at_ rdig rpow good txt wri ra rb rfive rleft rright rpart) H := hP
    have hD : va_D A (gM cI cL cC ad X laid gone thr x2.1 x2.2.1 x2.2.2.1 x2.2.2.2.1 x2.2.2.2.2.1 x2.2.2.2.2.2.1 x2.2.2.2.2.2.2.1 x2.2.2.2.2.2.2.2.1 x2.2.2.2.2.2.2.2.2.1 x2.2.2.2.2.2.2.2.2.2 lets rlen rlaid rgone rthr were none_ beyo aN bN fN lN_ rN pN twos at_ rdig rpow good txt wri ra rb rfive rleft rright rpart) := hD
    obtain rfl := Option.some.inj h
    exact hret 84 ls _ _ _ rfl hP hD hS d_Md_broken_84
  have h := ite_f hc2 h
  by_cases hc3 : a1 = (3 : Int32)
  · have h := ite_t hc3 h
    refine lv_tableIn (off := 67) (tgt := 85) hx hb d_Md_broken_18 (by rw [hc3]; decide) (by rw [hc3]; decide) (by rw [hc3]; rfl) rfl ?_
    refine lv_aload_n hx hb d_Md_broken_85 rfl (lv_at hl 0 rfl) ?_
    refine lv_iload hx hb d_Md_broken_86 (lv_at hl 4 rfl) ?_
    obtain ⟨x7, e_x7, h⟩ := bd_o h
    refine q_GV (D := D) (A := A) (C := R_Md) (b := ad 0) (As := [.int a4]) (rest := []) (n := 1) hx hb hml hown hts (c_Md_over l D A cI cL cC ad X laid gone thr x2.1 x2.2.1 x2.2.2.1 x2.2.2.2.1 x2.2.2.2.2.1 x2.2.2.2.2.2.1 x2.2.2.2.2.2.2.1 x2.2.2.2.2.2.2.2.1 x2.2.2.2.2.2.2.2.2.1 x2.2.2.2.2.2.2.2.2.2 lets rlen rlaid rgone rthr were none_ beyo aN bN fN lN_ rN pN twos at_ rdig rpow good txt wri ra rb rfive rleft rright rpart n a4 x7 e_x7) rfl rfl m_279 m_280 m_281 m_282 m_130 (by decide +kernel) ⟨Nat.le_of_ble_eq_true rfl, Nat.le_of_ble_eq_true rfl⟩ (va_recv hK hP (ci := 4) rfl (q0 := 0) rfl) hNB hK hP hD hS rfl hl.1 rfl (Nat.le_of_ble_eq_true rfl) d_Md_broken_88 ⟨Nat.zero_le _, Nat.zero_le _⟩ (fun H locs hP hD hS => ?_)
    have hP : va_P D cls (gM cI cL cC ad X laid gone thr x2.1 x2.2.1 x2.2.2.1 x2.2.2.2.1 x2.2.2.2.2.1 x2.2.2.2.2.2.1 x2.2.2.2.2.2.2.1 x2.2.2.2.2.2.2.2.1 x2.2.2.2.2.2.2.2.2.1 x2.2.2.2.2.2.2.2.2.2 lets rlen rlaid rgone rthr were none_ beyo aN bN fN lN_ rN pN twos at_ rdig rpow good txt wri ra rb rfive rleft rright rpart) H := hP
    have hD : va_D A (gM cI cL cC ad X laid gone thr x2.1 x2.2.1 x2.2.2.1 x2.2.2.2.1 x2.2.2.2.2.1 x2.2.2.2.2.2.1 x2.2.2.2.2.2.2.1 x2.2.2.2.2.2.2.2.1 x2.2.2.2.2.2.2.2.2.1 x2.2.2.2.2.2.2.2.2.2 lets rlen rlaid rgone rthr were none_ beyo aN bN fN lN_ rN pN twos at_ rdig rpow good txt wri ra rb rfive rleft rright rpart) := hD
    obtain rfl := Option.some.inj h
    exact hret 91 ls _ _ _ rfl hP hD hS d_Md_broken_91
  have h := ite_f hc3 h
  refine lv_tableOut (tgt := 92) hx hb d_Md_broken_18 (by have n0 := lv_neT hc0 (show ((0 : Int32)).toInt = 0 from rfl); have n1 := lv_neT hc1 (show ((1 : Int32)).toInt = 1 from rfl); have n2 := lv_neT hc2 (show ((2 : Int32)).toInt = 2 from rfl); have n3 := lv_neT hc3 (show ((3 : Int32)).toInt = 3 from rfl); omega) rfl ?_
  refine lv_aload_n hx hb d_Md_broken_92 rfl (lv_at hl 0 rfl) ?_
  refine lv_iload hx hb d_Md_broken_93 (lv_at hl 4 rfl) ?_
  obtain ⟨x8, e_x8, h⟩ := bd_o h
  refine q_GV (D := D) (A := A) (C := R_Md) (b := ad 0) (As := [.int a4]) (rest := []) (n := 1) hx hb hml hown hts (c_Md_rest l D A cI cL cC ad X laid gone thr x2.1 x2.2.1 x2.2.2.1 x2.2.2.2.1 x2.2.2.2.2.1 x2.2.2.2.2.2.1 x2.2.2.2.2.2.2.1 x2.2.2.2.2.2.2.2.1 x2.2.2.2.2.2.2.2.2.1 x2.2.2.2.2.2.2.2.2.2 lets rlen rlaid rgone rthr were none_ beyo aN bN fN lN_ rN pN twos at_ rdig rpow good txt wri ra rb rfive rleft rright rpart n a4 x8 e_x8) rfl rfl m_283 m_284 m_285 m_286 m_130 (by decide +kernel) ⟨Nat.le_of_ble_eq_true rfl, Nat.le_of_ble_eq_true rfl⟩ (va_recv hK hP (ci := 4) rfl (q0 := 0) rfl) hNB hK hP hD hS rfl hl.1 rfl (Nat.le_of_ble_eq_true rfl) d_Md_broken_95 ⟨Nat.zero_le _, Nat.zero_le _⟩ (fun H locs hP hD hS => ?_)
  have hP : va_P D cls (gM cI cL cC ad X laid gone thr x2.1 x2.2.1 x2.2.2.1 x2.2.2.2.1 x2.2.2.2.2.1 x2.2.2.2.2.2.1 x2.2.2.2.2.2.2.1 x2.2.2.2.2.2.2.2.1 x2.2.2.2.2.2.2.2.2.1 x2.2.2.2.2.2.2.2.2.2 lets rlen rlaid rgone rthr were none_ beyo aN bN fN lN_ rN pN twos at_ rdig rpow good txt wri ra rb rfive rleft rright rpart) H := hP
  have hD : va_D A (gM cI cL cC ad X laid gone thr x2.1 x2.2.1 x2.2.2.1 x2.2.2.2.1 x2.2.2.2.2.1 x2.2.2.2.2.2.1 x2.2.2.2.2.2.2.1 x2.2.2.2.2.2.2.2.1 x2.2.2.2.2.2.2.2.2.1 x2.2.2.2.2.2.2.2.2.2 lets rlen rlaid rgone rthr were none_ beyo aN bN fN lN_ rN pN twos at_ rdig rpow good txt wri ra rb rfive rleft rright rpart) := hD
  obtain rfl := Option.some.inj h
  exact hret 98 ls _ _ _ rfl hP hD hS d_Md_broken_98
-- Md_whole
theorem d_Md_whole_0 : decode b_Md_whole 0 = .ok (.iload 6, 2) := by decide +kernel
theorem d_Md_whole_2 : decode b_Md_whole 2 = .ok (.iconst 4, 1) := by decide +kernel
theorem d_Md_whole_3 : decode b_Md_whole 3 = .ok (.if_icmp .ne 7, 3) := by decide +kernel
theorem d_Md_whole_6 : decode b_Md_whole 6 = .ok (.iconst 1, 1) := by decide +kernel
theorem d_Md_whole_7 : decode b_Md_whole 7 = .ok (.goto 4, 3) := by decide +kernel
theorem d_Md_whole_10 : decode b_Md_whole 10 = .ok (.iconst 0, 1) := by decide +kernel
theorem d_Md_whole_11 : decode b_Md_whole 11 = .ok (.istore 7, 2) := by decide +kernel
theorem d_Md_whole_13 : decode b_Md_whole 13 = .ok (.lload 4, 2) := by decide +kernel
theorem d_Md_whole_15 : decode b_Md_whole 15 = .ok (.l2i, 1) := by decide +kernel
theorem d_Md_whole_16 : decode b_Md_whole 16 = .ok (.iload 7, 2) := by decide +kernel
theorem d_Md_whole_18 : decode b_Md_whole 18 = .ok (.ifCond .eq 8, 3) := by decide +kernel
theorem d_Md_whole_21 : decode b_Md_whole 21 = .ok (.bipush 63, 2) := by decide +kernel
theorem d_Md_whole_23 : decode b_Md_whole 23 = .ok (.goto 5, 3) := by decide +kernel
theorem d_Md_whole_26 : decode b_Md_whole 26 = .ok (.bipush 31, 2) := by decide +kernel
theorem d_Md_whole_28 : decode b_Md_whole 28 = .ok (.iand, 1) := by decide +kernel
theorem d_Md_whole_29 : decode b_Md_whole 29 = .ok (.istore 8, 2) := by decide +kernel
theorem d_Md_whole_31 : decode b_Md_whole 31 = .ok (.iload_n 1, 1) := by decide +kernel
theorem d_Md_whole_32 : decode b_Md_whole 32 = .ok (.tableswitch 136 0 9 #[56, 66, 76, 86, 96, 106, 111, 116, 121, 131], 56) := by decide +kernel
theorem d_Md_whole_88 : decode b_Md_whole 88 = .ok (.lload_n 2, 1) := by decide +kernel
theorem d_Md_whole_89 : decode b_Md_whole 89 = .ok (.lload 4, 2) := by decide +kernel
theorem d_Md_whole_91 : decode b_Md_whole 91 = .ok (.ladd, 1) := by decide +kernel
theorem d_Md_whole_92 : decode b_Md_whole 92 = .ok (.iload 6, 2) := by decide +kernel
theorem d_Md_whole_94 : decode b_Md_whole 94 = .ok (.invokestatic 119, 3) := by decide +kernel
theorem d_Md_whole_97 : decode b_Md_whole 97 = .ok (.lreturn, 1) := by decide +kernel
theorem d_Md_whole_98 : decode b_Md_whole 98 = .ok (.lload_n 2, 1) := by decide +kernel
theorem d_Md_whole_99 : decode b_Md_whole 99 = .ok (.lload 4, 2) := by decide +kernel
theorem d_Md_whole_101 : decode b_Md_whole 101 = .ok (.lsub, 1) := by decide +kernel
theorem d_Md_whole_102 : decode b_Md_whole 102 = .ok (.iload 6, 2) := by decide +kernel
theorem d_Md_whole_104 : decode b_Md_whole 104 = .ok (.invokestatic 119, 3) := by decide +kernel
theorem d_Md_whole_107 : decode b_Md_whole 107 = .ok (.lreturn, 1) := by decide +kernel
theorem d_Md_whole_108 : decode b_Md_whole 108 = .ok (.lload_n 2, 1) := by decide +kernel
theorem d_Md_whole_109 : decode b_Md_whole 109 = .ok (.lload 4, 2) := by decide +kernel
theorem d_Md_whole_111 : decode b_Md_whole 111 = .ok (.lmul, 1) := by decide +kernel
theorem d_Md_whole_112 : decode b_Md_whole 112 = .ok (.iload 6, 2) := by decide +kernel
theorem d_Md_whole_114 : decode b_Md_whole 114 = .ok (.invokestatic 119, 3) := by decide +kernel
theorem d_Md_whole_117 : decode b_Md_whole 117 = .ok (.lreturn, 1) := by decide +kernel
theorem d_Md_whole_118 : decode b_Md_whole 118 = .ok (.lload_n 2, 1) := by decide +kernel
theorem d_Md_whole_119 : decode b_Md_whole 119 = .ok (.lload 4, 2) := by decide +kernel
theorem d_Md_whole_121 : decode b_Md_whole 121 = .ok (.ldiv, 1) := by decide +kernel
theorem d_Md_whole_122 : decode b_Md_whole 122 = .ok (.iload 6, 2) := by decide +kernel
theorem d_Md_whole_124 : decode b_Md_whole 124 = .ok (.invokestatic 119, 3) := by decide +kernel
theorem d_Md_whole_127 : decode b_Md_whole 127 = .ok (.lreturn, 1) := by decide +kernel
theorem d_Md_whole_128 : decode b_Md_whole 128 = .ok (.lload_n 2, 1) := by decide +kernel
theorem d_Md_whole_129 : decode b_Md_whole 129 = .ok (.lload 4, 2) := by decide +kernel
theorem d_Md_whole_131 : decode b_Md_whole 131 = .ok (.lrem, 1) := by decide +kernel
theorem d_Md_whole_132 : decode b_Md_whole 132 = .ok (.iload 6, 2) := by decide +kernel
theorem d_Md_whole_134 : decode b_Md_whole 134 = .ok (.invokestatic 119, 3) := by decide +kernel
theorem d_Md_whole_137 : decode b_Md_whole 137 = .ok (.lreturn, 1) := by decide +kernel
theorem d_Md_whole_138 : decode b_Md_whole 138 = .ok (.lload_n 2, 1) := by decide +kernel
theorem d_Md_whole_139 : decode b_Md_whole 139 = .ok (.lload 4, 2) := by decide +kernel
theorem d_Md_whole_141 : decode b_Md_whole 141 = .ok (.land, 1) := by decide +kernel
theorem d_Md_whole_142 : decode b_Md_whole 142 = .ok (.lreturn, 1) := by decide +kernel
theorem d_Md_whole_143 : decode b_Md_whole 143 = .ok (.lload_n 2, 1) := by decide +kernel
theorem d_Md_whole_144 : decode b_Md_whole 144 = .ok (.lload 4, 2) := by decide +kernel
theorem d_Md_whole_146 : decode b_Md_whole 146 = .ok (.lor, 1) := by decide +kernel
theorem d_Md_whole_147 : decode b_Md_whole 147 = .ok (.lreturn, 1) := by decide +kernel
theorem d_Md_whole_148 : decode b_Md_whole 148 = .ok (.lload_n 2, 1) := by decide +kernel
theorem d_Md_whole_149 : decode b_Md_whole 149 = .ok (.lload 4, 2) := by decide +kernel
theorem d_Md_whole_151 : decode b_Md_whole 151 = .ok (.lxor, 1) := by decide +kernel
theorem d_Md_whole_152 : decode b_Md_whole 152 = .ok (.lreturn, 1) := by decide +kernel
theorem d_Md_whole_153 : decode b_Md_whole 153 = .ok (.lload_n 2, 1) := by decide +kernel
theorem d_Md_whole_154 : decode b_Md_whole 154 = .ok (.iload 8, 2) := by decide +kernel
theorem d_Md_whole_156 : decode b_Md_whole 156 = .ok (.lshl, 1) := by decide +kernel
theorem d_Md_whole_157 : decode b_Md_whole 157 = .ok (.iload 6, 2) := by decide +kernel
theorem d_Md_whole_159 : decode b_Md_whole 159 = .ok (.invokestatic 119, 3) := by decide +kernel
theorem d_Md_whole_162 : decode b_Md_whole 162 = .ok (.lreturn, 1) := by decide +kernel
theorem d_Md_whole_163 : decode b_Md_whole 163 = .ok (.lload_n 2, 1) := by decide +kernel
theorem d_Md_whole_164 : decode b_Md_whole 164 = .ok (.iload 8, 2) := by decide +kernel
theorem d_Md_whole_166 : decode b_Md_whole 166 = .ok (.lshr, 1) := by decide +kernel
theorem d_Md_whole_167 : decode b_Md_whole 167 = .ok (.lreturn, 1) := by decide +kernel
theorem d_Md_whole_168 : decode b_Md_whole 168 = .ok (.iload 7, 2) := by decide +kernel
theorem d_Md_whole_170 : decode b_Md_whole 170 = .ok (.ifCond .eq 10, 3) := by decide +kernel
theorem d_Md_whole_173 : decode b_Md_whole 173 = .ok (.lload_n 2, 1) := by decide +kernel
theorem d_Md_whole_174 : decode b_Md_whole 174 = .ok (.iload 8, 2) := by decide +kernel
theorem d_Md_whole_176 : decode b_Md_whole 176 = .ok (.lushr, 1) := by decide +kernel
theorem d_Md_whole_177 : decode b_Md_whole 177 = .ok (.goto 16, 3) := by decide +kernel
theorem d_Md_whole_180 : decode b_Md_whole 180 = .ok (.lload_n 2, 1) := by decide +kernel
theorem d_Md_whole_181 : decode b_Md_whole 181 = .ok (.ldc2_w 42, 3) := by decide +kernel
theorem d_Md_whole_184 : decode b_Md_whole 184 = .ok (.land, 1) := by decide +kernel
theorem d_Md_whole_185 : decode b_Md_whole 185 = .ok (.iload 8, 2) := by decide +kernel
theorem d_Md_whole_187 : decode b_Md_whole 187 = .ok (.lushr, 1) := by decide +kernel
theorem d_Md_whole_188 : decode b_Md_whole 188 = .ok (.iload 6, 2) := by decide +kernel
theorem d_Md_whole_190 : decode b_Md_whole 190 = .ok (.invokestatic 119, 3) := by decide +kernel
theorem d_Md_whole_193 : decode b_Md_whole 193 = .ok (.lreturn, 1) := by decide +kernel
def F_Md_whole (n : Nat) (a1 : Int32) (a2 : Int64) (a3 : Int64) (a4 : Int32) : Option (Int64) := lt_ (if ¬ a4 = (4 : Int32) then (0 : Int32) else (1 : Int32)) fun x1 => lt_ (if x1 = 0 then (31 : Int32) else (63 : Int32)) fun x2 => lt_ (((a3).toInt32) &&& x2) fun x3 => if a1 = (0 : Int32) then (some (F_Md_cut (a2 + a3) a4)) else if a1 = (1 : Int32) then (some (F_Md_cut (a2 - a3) a4)) else if a1 = (2 : Int32) then (some (F_Md_cut (a2 * a3) a4)) else if a1 = (3 : Int32) then (gz_ (a3 = 0) <| some (F_Md_cut (a2 / a3) a4)) else if a1 = (4 : Int32) then (gz_ (a3 = 0) <| some (F_Md_cut (a2 - a2 / a3 * a3) a4)) else if a1 = (5 : Int32) then (some (a2 &&& a3)) else if a1 = (6 : Int32) then (some (a2 ||| a3)) else if a1 = (7 : Int32) then (some (a2 ^^^ a3)) else if a1 = (8 : Int32) then (some (F_Md_cut (a2 <<< ((x3).toInt64 &&& 63)) a4)) else if a1 = (9 : Int32) then (some (a2 >>> ((x3).toInt64 &&& 63))) else (lt_ (if x1 = 0 then F_Md_cut (((a2 &&& (4294967295 : Int64)).toUInt64 >>> ((x3).toInt64.toUInt64 &&& Int64.toUInt64 63)).toInt64) a4 else ((a2).toUInt64 >>> ((x3).toInt64.toUInt64 &&& Int64.toUInt64 63)).toInt64) fun x4 => some x4)
set_option maxHeartbeats 4000000 in
set_option maxRecDepth 100000 in
theorem c_Md_whole (l : Launch) (D : va_G) (A : Nat → Prop) (cI cL cC : ClassId) (ad : Nat → Nat) (X : va_W) (laid : Int32) (gone : Int32) (thr : Int32) (m1 : Int64) (m2 : Int64) (e1 : Int32) (e2 : Int32) (mi1 : Int32) (mi2 : Int32) (na1 : Int32) (na2 : Int32) (fa1 : Int32) (fa2 : Int32) (lets : Nat → Int32) (rlen : Int32) (rlaid : Int32) (rgone : Int32) (rthr : Int32) (were : Int32) (none_ : Int32) (beyo : Int32) (aN : Int32) (bN : Int32) (fN : Int32) (lN_ : Int32) (rN : Int32) (pN : Int32) (twos : Int32) (at_ : Int32) (rdig : Int32) (rpow : Int32) (good : Int32) (txt : Nat → Int32) (wri : Nat → Int32) (ra : Nat → Int32) (rb : Nat → Int32) (rfive : Nat → Int32) (rleft : Nat → Int32) (rright : Nat → Int32) (rpart : Nat → Int32) (n : Nat) (a1 : Int32) (a2 : Int64) (a3 : Int64) (a4 : Int32) (r : Int64) (h : F_Md_whole n a1 a2 a3 a4 = some r) : Met l y_Md_whole (.code y_Md_whole b_Md_whole 9 (some .long) :: BIG) ({ frames := 1, cells := 0, slots := 0, locals := 22 } : Room) (va_Pc [.ref (ad 0), .int a1, .long a2, .long a3, .int a4] (gPre D A (tysV cI cL cC) (gM cI cL cC ad X laid gone thr m1 m2 e1 e2 mi1 mi2 na1 na2 fa1 fa2 lets rlen rlaid rgone rthr were none_ beyo aN bN fN lN_ rN pN twos at_ rdig rpow good txt wri ra rb rfive rleft rright rpart))) (gQ D A (some (.long r)) (gM cI cL cC ad X laid gone thr m1 m2 e1 e2 mi1 mi2 na1 na2 fa1 fa2 lets rlen rlaid rgone rthr were none_ beyo aN bN fN lN_ rN pN twos at_ rdig rpow good txt wri ra rb rfive rleft rright rpart)) 0 0 A := by
  refine gOpen_l rfl (Nat.le_of_ble_eq_true rfl) ?_
  intro p e s m args below meth c Q ls hx hb hml hown hts hT hNB hP hK hD hl hret
  have hown : s.vm.findClass R_Md = some m.cls := hown
  have hS : va_S A s.heap s.heap [] := va_S.rf
  have hl : lv_has ls 9 [(0, .ref (ad 0)), (1, .int a1), (2, .long a2), (4, .long a3), (6, .int a4)] := hl
  have h : (lt_ (if ¬ a4 = (4 : Int32) then (0 : Int32) else (1 : Int32)) fun x1 => lt_ (if x1 = 0 then (31 : Int32) else (63 : Int32)) fun x2 => lt_ (((a3).toInt32) &&& x2) fun x3 => if a1 = (0 : Int32) then (some (F_Md_cut (a2 + a3) a4)) else if a1 = (1 : Int32) then (some (F_Md_cut (a2 - a3) a4)) else if a1 = (2 : Int32) then (some (F_Md_cut (a2 * a3) a4)) else if a1 = (3 : Int32) then (gz_ (a3 = 0) <| some (F_Md_cut (a2 / a3) a4)) else if a1 = (4 : Int32) then (gz_ (a3 = 0) <| some (F_Md_cut (a2 - a2 / a3 * a3) a4)) else if a1 = (5 : Int32) then (some (a2 &&& a3)) else if a1 = (6 : Int32) then (some (a2 ||| a3)) else if a1 = (7 : Int32) then (some (a2 ^^^ a3)) else if a1 = (8 : Int32) then (some (F_Md_cut (a2 <<< ((x3).toInt64 &&& 63)) a4)) else if a1 = (9 : Int32) then (some (a2 >>> ((x3).toInt64 &&& 63))) else (lt_ (if x1 = 0 then F_Md_cut (((a2 &&& (4294967295 : Int64)).toUInt64 >>> ((x3).toInt64.toUInt64 &&& Int64.toUInt64 63)).toInt64) a4 else ((a2).toUInt64 >>> ((x3).toInt64.toUInt64 &&& Int64.toUInt64 63)).toInt64) fun x4 => some x4)) = some r := h
  refine lv_iload hx hb d_Md_whole_0 (lv_at hl 4 rfl) ?_
  refine lv_iconst hx hb d_Md_whole_2 ic_4 ?_
  obtain ⟨x1, e_x1, h⟩ := lt_o h
  have hJ11 : ∀ (x1' : Int32) (ls : Array Slot), x1 = x1' → lv_has ls 9 [(1, .int a1), (2, .long a2), (4, .long a3), (6, .int a4)] → W p l e ({ frames := 1, cells := 0, slots := 0, locals := 22 } : Room) s m args below meth c s.heap [] 0 0 Q (F0 m 11 ls [.int x1']) := by
    intro x1' ls q_x1 hl
    subst q_x1
    refine lv_istore hx hb d_Md_whole_11 hl (by decide) rfl (fun ls hl => ?_)
    have hl : lv_has ls 9 [(7, .int x1), (1, .int a1), (2, .long a2), (4, .long a3), (6, .int a4)] := hl
    refine lv_lload hx hb d_Md_whole_13 (lv_at hl 3 rfl) ?_
    refine lv_l2i hx hb d_Md_whole_15 rfl ?_
    refine lv_iload hx hb d_Md_whole_16 (lv_at hl 0 rfl) ?_
    obtain ⟨x2, e_x2, h⟩ := lt_o h
    have hJ28 : ∀ (x2' : Int32) (ls : Array Slot), x2 = x2' → lv_has ls 9 [(1, .int a1), (2, .long a2), (4, .long a3), (6, .int a4), (7, .int x1)] → W p l e ({ frames := 1, cells := 0, slots := 0, locals := 22 } : Room) s m args below meth c s.heap [] 0 0 Q (F0 m 28 ls [.int x2', .int ((a3).toInt32)]) := by
      intro x2' ls q_x2 hl
      subst q_x2
      refine lv_iand hx hb d_Md_whole_28 ?_
      refine lv_topi (fun x3 e_x3 => ?_)
      have h := lt_h e_x3 h
      refine lv_istore hx hb d_Md_whole_29 hl (by decide) rfl (fun ls hl => ?_)
      have hl : lv_has ls 9 [(8, .int x3), (1, .int a1), (2, .long a2), (4, .long a3), (6, .int a4), (7, .int x1)] := hl
      refine lv_iload_n hx hb d_Md_whole_31 rfl (lv_at hl 1 rfl) ?_
      by_cases hc0 : a1 = (0 : Int32)
      · have h := ite_t hc0 h
        refine lv_tableIn (off := 56) (tgt := 88) hx hb d_Md_whole_32 (by rw [hc0]; decide) (by rw [hc0]; decide) (by rw [hc0]; rfl) rfl ?_
        refine lv_lload_n hx hb d_Md_whole_88 rfl (lv_at hl 2 rfl) ?_
        refine lv_lload hx hb d_Md_whole_89 (lv_at hl 3 rfl) ?_
        refine lv_ladd hx hb d_Md_whole_91 ?_
        refine lv_iload hx hb d_Md_whole_92 (lv_at hl 4 rfl) ?_
        refine q_S (As := [.long (a2 + a3), .int a4]) (rest := []) (n := 2) hx hb hml hown hts (c_Md_cut l (a2 + a3) a4) rfl rfl m_287 m_288 m_289 m_130 (by decide +kernel) ⟨Nat.le_of_ble_eq_true rfl, Nat.le_of_ble_eq_true rfl⟩ (p0_bl) (fun U hU hW => p0_mv hU hW hNB) rfl hl.1 rfl (Nat.le_of_ble_eq_true rfl) d_Md_whole_94 ⟨Nat.zero_le _, Nat.zero_le _⟩ ?_
        obtain rfl := Option.some.inj h
        exact hret 97 ls _ _ _ rfl hP hD hS d_Md_whole_97
      have h := ite_f hc0 h
      by_cases hc1 : a1 = (1 : Int32)
      · have h := ite_t hc1 h
        refine lv_tableIn (off := 66) (tgt := 98) hx hb d_Md_whole_32 (by rw [hc1]; decide) (by rw [hc1]; decide) (by rw [hc1]; rfl) rfl ?_
        refine lv_lload_n hx hb d_Md_whole_98 rfl (lv_at hl 2 rfl) ?_
        refine lv_lload hx hb d_Md_whole_99 (lv_at hl 3 rfl) ?_
        refine lv_lsub hx hb d_Md_whole_101 ?_
        refine lv_iload hx hb d_Md_whole_102 (lv_at hl 4 rfl) ?_
        refine q_S (As := [.long (a2 - a3), .int a4]) (rest := []) (n := 2) hx hb hml hown hts (c_Md_cut l (a2 - a3) a4) rfl rfl m_287 m_288 m_289 m_130 (by decide +kernel) ⟨Nat.le_of_ble_eq_true rfl, Nat.le_of_ble_eq_true rfl⟩ (p0_bl) (fun U hU hW => p0_mv hU hW hNB) rfl hl.1 rfl (Nat.le_of_ble_eq_true rfl) d_Md_whole_104 ⟨Nat.zero_le _, Nat.zero_le _⟩ ?_
        obtain rfl := Option.some.inj h
        exact hret 107 ls _ _ _ rfl hP hD hS d_Md_whole_107
      have h := ite_f hc1 h
      by_cases hc2 : a1 = (2 : Int32)
      · have h := ite_t hc2 h
        refine lv_tableIn (off := 76) (tgt := 108) hx hb d_Md_whole_32 (by rw [hc2]; decide) (by rw [hc2]; decide) (by rw [hc2]; rfl) rfl ?_
        refine lv_lload_n hx hb d_Md_whole_108 rfl (lv_at hl 2 rfl) ?_
        refine lv_lload hx hb d_Md_whole_109 (lv_at hl 3 rfl) ?_
        refine lv_lmul hx hb d_Md_whole_111 ?_
        refine lv_iload hx hb d_Md_whole_112 (lv_at hl 4 rfl) ?_
        refine q_S (As := [.long (a2 * a3), .int a4]) (rest := []) (n := 2) hx hb hml hown hts (c_Md_cut l (a2 * a3) a4) rfl rfl m_287 m_288 m_289 m_130 (by decide +kernel) ⟨Nat.le_of_ble_eq_true rfl, Nat.le_of_ble_eq_true rfl⟩ (p0_bl) (fun U hU hW => p0_mv hU hW hNB) rfl hl.1 rfl (Nat.le_of_ble_eq_true rfl) d_Md_whole_114 ⟨Nat.zero_le _, Nat.zero_le _⟩ ?_
        obtain rfl := Option.some.inj h
        exact hret 117 ls _ _ _ rfl hP hD hS d_Md_whole_117
      have h := ite_f hc2 h
      by_cases hc3 : a1 = (3 : Int32)
      · have h := ite_t hc3 h
        refine lv_tableIn (off := 86) (tgt := 118) hx hb d_Md_whole_32 (by rw [hc3]; decide) (by rw [hc3]; decide) (by rw [hc3]; rfl) rfl ?_
        refine lv_lload_n hx hb d_Md_whole_118 rfl (lv_at hl 2 rfl) ?_
        refine lv_lload hx hb d_Md_whole_119 (lv_at hl 3 rfl) ?_
        have hz := gz_n h
        have h := gz_h h
        refine lv_ldiv hx hb d_Md_whole_121 hz ?_
        refine lv_iload hx hb d_Md_whole_122 (lv_at hl 4 rfl) ?_
        refine q_S (As := [.long (a2 / a3), .int a4]) (rest := []) (n := 2) hx hb hml hown hts (c_Md_cut l (a2 / a3) a4) rfl rfl m_287 m_288 m_289 m_130 (by decide +kernel) ⟨Nat.le_of_ble_eq_true rfl, Nat.le_of_ble_eq_true rfl⟩ (p0_bl) (fun U hU hW => p0_mv hU hW hNB) rfl hl.1 rfl (Nat.le_of_ble_eq_true rfl) d_Md_whole_124 ⟨Nat.zero_le _, Nat.zero_le _⟩ ?_
        obtain rfl := Option.some.inj h
        exact hret 127 ls _ _ _ rfl hP hD hS d_Md_whole_127
      have h := ite_f hc3 h
      by_cases hc4 : a1 = (4 : Int32)
      · have h := ite_t hc4 h
        refine lv_tableIn (off := 96) (tgt := 128) hx hb d_Md_whole_32 (by rw [hc4]; decide) (by rw [hc4]; decide) (by rw [hc4]; rfl) rfl ?_
        refine lv_lload_n hx hb d_Md_whole_128 rfl (lv_at hl 2 rfl) ?_
        refine lv_lload hx hb d_Md_whole_129 (lv_at hl 3 rfl) ?_
        have hz := gz_n h
        have h := gz_h h
        refine lv_lrem hx hb d_Md_whole_131 hz ?_
        refine lv_iload hx hb d_Md_whole_132 (lv_at hl 4 rfl) ?_
        refine q_S (As := [.long (a2 - a2 / a3 * a3), .int a4]) (rest := []) (n := 2) hx hb hml hown hts (c_Md_cut l (a2 - a2 / a3 * a3) a4) rfl rfl m_287 m_288 m_289 m_130 (by decide +kernel) ⟨Nat.le_of_ble_eq_true rfl, Nat.le_of_ble_eq_true rfl⟩ (p0_bl) (fun U hU hW => p0_mv hU hW hNB) rfl hl.1 rfl (Nat.le_of_ble_eq_true rfl) d_Md_whole_134 ⟨Nat.zero_le _, Nat.zero_le _⟩ ?_
        obtain rfl := Option.some.inj h
        exact hret 137 ls _ _ _ rfl hP hD hS d_Md_whole_137
      have h := ite_f hc4 h
      by_cases hc5 : a1 = (5 : Int32)
      · have h := ite_t hc5 h
        refine lv_tableIn (off := 106) (tgt := 138) hx hb d_Md_whole_32 (by rw [hc5]; decide) (by rw [hc5]; decide) (by rw [hc5]; rfl) rfl ?_
        refine lv_lload_n hx hb d_Md_whole_138 rfl (lv_at hl 2 rfl) ?_
        refine lv_lload hx hb d_Md_whole_139 (lv_at hl 3 rfl) ?_
        refine lv_land hx hb d_Md_whole_141 ?_
        obtain rfl := Option.some.inj h
        exact hret 142 ls _ _ _ rfl hP hD hS d_Md_whole_142
      have h := ite_f hc5 h
      by_cases hc6 : a1 = (6 : Int32)
      · have h := ite_t hc6 h
        refine lv_tableIn (off := 111) (tgt := 143) hx hb d_Md_whole_32 (by rw [hc6]; decide) (by rw [hc6]; decide) (by rw [hc6]; rfl) rfl ?_
        refine lv_lload_n hx hb d_Md_whole_143 rfl (lv_at hl 2 rfl) ?_
        refine lv_lload hx hb d_Md_whole_144 (lv_at hl 3 rfl) ?_
        refine lv_lor hx hb d_Md_whole_146 ?_
        obtain rfl := Option.some.inj h
        exact hret 147 ls _ _ _ rfl hP hD hS d_Md_whole_147
      have h := ite_f hc6 h
      by_cases hc7 : a1 = (7 : Int32)
      · have h := ite_t hc7 h
        refine lv_tableIn (off := 116) (tgt := 148) hx hb d_Md_whole_32 (by rw [hc7]; decide) (by rw [hc7]; decide) (by rw [hc7]; rfl) rfl ?_
        refine lv_lload_n hx hb d_Md_whole_148 rfl (lv_at hl 2 rfl) ?_
        refine lv_lload hx hb d_Md_whole_149 (lv_at hl 3 rfl) ?_
        refine lv_lxor hx hb d_Md_whole_151 ?_
        obtain rfl := Option.some.inj h
        exact hret 152 ls _ _ _ rfl hP hD hS d_Md_whole_152
      have h := ite_f hc7 h
      by_cases hc8 : a1 = (8 : Int32)
      · have h := ite_t hc8 h
        refine lv_tableIn (off := 121) (tgt := 153) hx hb d_Md_whole_32 (by rw [hc8]; decide) (by rw [hc8]; decide) (by rw [hc8]; rfl) rfl ?_
        refine lv_lload_n hx hb d_Md_whole_153 rfl (lv_at hl 2 rfl) ?_
        refine lv_iload hx hb d_Md_whole_154 (lv_at hl 0 rfl) ?_
        refine lv_lshl hx hb d_Md_whole_156 rfl ?_
        refine lv_iload hx hb d_Md_whole_157 (lv_at hl 4 rfl) ?_
        refine q_S (As := [.long (a2 <<< ((x3).toInt64 &&& 63)), .int a4]) (rest := []) (n := 2) hx hb hml hown hts (c_Md_cut l (a2 <<< ((x3).toInt64 &&& 63)) a4) rfl rfl m_287 m_288 m_289 m_130 (by decide +kernel) ⟨Nat.le_of_ble_eq_true rfl, Nat.le_of_ble_eq_true rfl⟩ (p0_bl) (fun U hU hW => p0_mv hU hW hNB) rfl hl.1 rfl (Nat.le_of_ble_eq_true rfl) d_Md_whole_159 ⟨Nat.zero_le _, Nat.zero_le _⟩ ?_
        obtain rfl := Option.some.inj h
        exact hret 162 ls _ _ _ rfl hP hD hS d_Md_whole_162
      have h := ite_f hc8 h
      by_cases hc9 : a1 = (9 : Int32)
      · have h := ite_t hc9 h
        refine lv_tableIn (off := 131) (tgt := 163) hx hb d_Md_whole_32 (by rw [hc9]; decide) (by rw [hc9]; decide) (by rw [hc9]; rfl) rfl ?_
        refine lv_lload_n hx hb d_Md_whole_163 rfl (lv_at hl 2 rfl) ?_
        refine lv_iload hx hb d_Md_whole_164 (lv_at hl 0 rfl) ?_
        refine lv_lshr hx hb d_Md_whole_166 rfl ?_
        obtain rfl := Option.some.inj h
        exact hret 167 ls _ _ _ rfl hP hD hS d_Md_whole_167
      have h := ite_f hc9 h
      refine lv_tableOut (tgt := 168) hx hb d_Md_whole_32 (by have n0 := lv_neT hc0 (show ((0 : Int32)).toInt = 0 from rfl); have n1 := lv_neT hc1 (show ((1 : Int32)).toInt = 1 from rfl); have n2 := lv_neT hc2 (show ((2 : Int32)).toInt = 2 from rfl); have n3 := lv_neT hc3 (show ((3 : Int32)).toInt = 3 from rfl); have n4 := lv_neT hc4 (show ((4 : Int32)).toInt = 4 from rfl); have n5 := lv_neT hc5 (show ((5 : Int32)).toInt = 5 from rfl); have n6 := lv_neT hc6 (show ((6 : Int32)).toInt = 6 from rfl); have n7 := lv_neT hc7 (show ((7 : Int32)).toInt = 7 from rfl); have n8 := lv_neT hc8 (show ((8 : Int32)).toInt = 8 from rfl); have n9 := lv_neT hc9 (show ((9 : Int32)).toInt = 9 from rfl); omega) rfl ?_
      refine lv_iload hx hb d_Md_whole_168 (lv_at hl 5 rfl) ?_
      obtain ⟨x4, e_x4, h⟩ := lt_o h
      have hJ193 : ∀ (x4' : Int64) (ls : Array Slot), x4 = x4' → lv_has ls 9 [] → W p l e ({ frames := 1, cells := 0, slots := 0, locals := 22 } : Room) s m args below meth c s.heap [] 0 0 Q (F0 m 193 ls [.long x4']) := by
        intro x4' ls q_x4 hl
        subst q_x4
        obtain rfl := Option.some.inj h
        exact hret 193 ls _ _ _ rfl hP hD hS d_Md_whole_193
      refine lv_if_eq (tgt := 180) hx hb d_Md_whole_170 rfl (fun hc => ?_) (fun hc => ?_)
      · have e_x4 := e_x4.trans (if_pos hc)
        refine lv_lload_n hx hb d_Md_whole_180 rfl (lv_at hl 2 rfl) ?_
        refine lv_ldc2 hx hb hown (hT _ m_248) d_Md_whole_181 ?_
        refine lv_land hx hb d_Md_whole_184 ?_
        refine lv_iload hx hb d_Md_whole_185 (lv_at hl 0 rfl) ?_
        refine lv_lushr hx hb d_Md_whole_187 rfl ?_
        refine lv_iload hx hb d_Md_whole_188 (lv_at hl 4 rfl) ?_
        refine q_S (As := [.long (((a2 &&& (4294967295 : Int64)).toUInt64 >>> ((x3).toInt64.toUInt64 &&& Int64.toUInt64 63)).toInt64), .int a4]) (rest := []) (n := 2) hx hb hml hown hts (c_Md_cut l (((a2 &&& (4294967295 : Int64)).toUInt64 >>> ((x3).toInt64.toUInt64 &&& Int64.toUInt64 63)).toInt64) a4) rfl rfl m_287 m_288 m_289 m_130 (by decide +kernel) ⟨Nat.le_of_ble_eq_true rfl, Nat.le_of_ble_eq_true rfl⟩ (p0_bl) (fun U hU hW => p0_mv hU hW hNB) rfl hl.1 rfl (Nat.le_of_ble_eq_true rfl) d_Md_whole_190 ⟨Nat.zero_le _, Nat.zero_le _⟩ ?_
        exact hJ193 _ ls e_x4 (lv_sub hl [] rfl)
      · have e_x4 := e_x4.trans (if_neg hc)
        refine lv_lload_n hx hb d_Md_whole_173 rfl (lv_at hl 2 rfl) ?_
        refine lv_iload hx hb d_Md_whole_174 (lv_at hl 0 rfl) ?_
        refine lv_lushr hx hb d_Md_whole_176 rfl ?_
        refine lv_goto (tgt := 193) hx hb d_Md_whole_177 rfl ?_
        exact hJ193 _ ls e_x4 (lv_sub hl [] rfl)
    refine lv_if_eq (tgt := 26) hx hb d_Md_whole_18 rfl (fun hc => ?_) (fun hc => ?_)
    · have e_x2 := e_x2.trans (if_pos hc)
      refine lv_bipush hx hb d_Md_whole_26 bp_31 ?_
      exact hJ28 _ ls e_x2 (lv_sub hl [1, 2, 3, 4, 0] rfl)
    · have e_x2 := e_x2.trans (if_neg hc)
      refine lv_bipush hx hb d_Md_whole_21 bp_63 ?_
      refine lv_goto (tgt := 28) hx hb d_Md_whole_23 rfl ?_
      exact hJ28 _ ls e_x2 (lv_sub hl [1, 2, 3, 4, 0] rfl)
  refine lv_icmp_ne (tgt := 10) hx hb d_Md_whole_3 rfl (fun hc => ?_) (fun hc => ?_)
  · have e_x1 := e_x1.trans (if_pos hc)
    refine lv_iconst hx hb d_Md_whole_10 ic_0 ?_
    exact hJ11 _ ls e_x1 (lv_sub hl [1, 2, 3, 4] rfl)
  · have hc := not_not_intro hc
    have e_x1 := e_x1.trans (if_neg hc)
    refine lv_iconst hx hb d_Md_whole_6 ic_1 ?_
    refine lv_goto (tgt := 11) hx hb d_Md_whole_7 rfl ?_
    exact hJ11 _ ls e_x1 (lv_sub hl [1, 2, 3, 4] rfl)
