/-! What stands at the law's start. -/
theorem str_at {args : Array Value} {s : State} {A : Nat → Prop} {tm : Term} (bs : List Int32) (hN : bs.length < 2 ^ 31) (hex : (Cond.exactly tm "java/lang/String").before args s = true) (hco : (Cond.eq (.field tm "java/lang/String" "coder" "B") (.int 0)).before args s = true) (har : (Cond.arrayOf (.field tm "java/lang/String" "value" "[B") .byte).before args s = true) (hle : (Cond.eq (.length (.field tm "java/lang/String" "value" "[B")) (.int (Int32.ofNat bs.length))).before args s = true)
    (hel : ∀ j : Nat, j < bs.length → (Cond.eq (.elem (.field tm "java/lang/String" "value" "[B") (.int (Int32.ofNat j))) (.int (bs.getD j 0))).before args s = true) (hA : ∀ a : Nat, a < s.heap.size → ¬ A a) : ∃ a v : Nat, tm.eval args s none [] s = some (.ref a) ∧ va_O "java/lang/String" a A s s.heap ∧ va_OF "java/lang/String" "coder" "B" (.int 0) a A s s.heap ∧ va_OF "java/lang/String" "value" "[B" (.ref v) a A s s.heap ∧ va_T .byte v bs.length (fun j => .int (bs.getD j 0)) A s s.heap := by
  obtain ⟨a, c, cA, kA, q1, q2, q3, q4, q5, q6, -⟩ := Cond.exactly_spec (args := args) (first := s) (o := none) (s := s) (idx := []) (t := tm) (cls := "java/lang/String") hex
  obtain ⟨t, ht, hT⟩ := va_Tof (f := fun j => .int (bs.getD j 0)) (A := A) hN har (va_eqt hle) (fun j hj => va_eqt (hel j hj)) hA
  exact ⟨a, t, q1, va_Oof hex q1 hA, vk_OFof q1 (va_eqt hco) hA, vk_OFof q1 ht hA, hT⟩
theorem real_at {args : Array Value} {s : State} {A : Nat → Prop} {f : String} (K : rK) (hl : (Cond.laysStatic R_Real f "LPrimitiveBits$Real;").before args s = true) (hini : (Cond.initialized R_Real).before args s = true) (hex : (Cond.exactly (.static R_Real f "LPrimitiveBits$Real;") R_Real).before args s = true) (h1 : (Cond.eq (.field (.static R_Real f "LPrimitiveBits$Real;") R_Real "fractionBits" "I") (.int K.1)).before args s = true) (h2 : (Cond.eq (.field (.static R_Real f "LPrimitiveBits$Real;") R_Real "topExponent" "I") (.int K.2.1)).before args s = true) (h3 : (Cond.eq (.field (.static R_Real f "LPrimitiveBits$Real;") R_Real "lowestPower" "I") (.int K.2.2.1)).before args s = true) (h4 : (Cond.eq (.field (.static R_Real f "LPrimitiveBits$Real;") R_Real "signBit" "J") (.long K.2.2.2.1)).before args s = true) (h5 : (Cond.eq (.field (.static R_Real f "LPrimitiveBits$Real;") R_Real "infinity" "J") (.long K.2.2.2.2)).before args s = true) (hA : ∀ a : Nat, a < s.heap.size → ¬ A a) : ∃ o : Nat, va_Z R_Real f "LPrimitiveBits$Real;" (.ref o) A s s.heap ∧ rA o K A s s.heap := by
  obtain ⟨a, c, cA, kA, q1, q2, q3, q4, q5, q6, -⟩ := Cond.exactly_spec (args := args) (first := s) (o := none) (s := s) (idx := []) (t := .static R_Real f "LPrimitiveBits$Real;") (cls := R_Real) hex
  exact ⟨a, va_Zof hl hini q1 hA, va_Oof hex q1 hA, vk_OFof q1 (va_eqt h1) hA, vk_OFof q1 (va_eqt h2) hA, vk_OFof q1 (va_eqt h3) hA, vk_OFof q1 (va_eqtl h4) hA, vk_OFof q1 (va_eqtl h5) hA⟩
set_option maxRecDepth 100000 in
set_option maxHeartbeats 4000000 in
theorem eE_start {args : Array Value} {s : State} (hts : ∀ w ∈ lw_tbl, w.before args s = true) (hgv : (Jvm.Cond.and given_1 narrow_1).before args s = true) : ∃ (oF oD : Nat) (kA vA : Nat → Nat), eE oF oD kA vA (fun q => s.heap.size ≤ q) s s.heap := by
  have hq := flat_of_before _ hgv
  have hA : ∀ a : Nat, a < s.heap.size → ¬ (fun q => s.heap.size ≤ q) a := fun a h z => Nat.not_le.mpr h z
  obtain ⟨oF, f1, f2⟩ := real_at (A := fun q => s.heap.size ≤ q) (f := "FLOAT") KF (hts _ (by decide +kernel)) (hts _ (by decide +kernel)) (hq _ (by decide +kernel)) (hq _ (by decide +kernel)) (hq _ (by decide +kernel)) (hq _ (by decide +kernel)) (hq _ (by decide +kernel)) (hq _ (by decide +kernel)) hA
  obtain ⟨oD, g1, g2⟩ := real_at (A := fun q => s.heap.size ≤ q) (f := "DOUBLE") KD (hts _ (by decide +kernel)) (hts _ (by decide +kernel)) (hq _ (by decide +kernel)) (hq _ (by decide +kernel)) (hq _ (by decide +kernel)) (hq _ (by decide +kernel)) (hq _ (by decide +kernel)) (hq _ (by decide +kernel)) hA
  have zC : va_Z "java/lang/String" "COMPACT_STRINGS" "Z" (.int 1) (fun q => s.heap.size ≤ q) s s.heap := va_Zof (hts _ (by decide +kernel)) (hts _ (by decide +kernel)) (va_eqi (hq _ (by decide +kernel))) hA
  have zS : va_Zq "jdk/internal/util/Preconditions" "SIOOBE_FORMATTER" "Ljava/util/function/BiFunction;" (fun q => s.heap.size ≤ q) s s.heap := va_Zqof (hts _ (by decide +kernel)) (hts _ (by decide +kernel)) (hq _ (by decide +kernel)) hA
  have zU : vx_Zq Bundle.tN "UNASSIGNED_STACK" Bundle.steD (fun q => s.heap.size ≤ q) s s.heap := vx_Zqof (hts _ (by decide +kernel)) (hts _ (by decide +kernel)) (hq _ (by decide +kernel)) hA
  have zP : vx_Zq Bundle.tN "SUPPRESSED_SENTINEL" Bundle.listD (fun q => s.heap.size ≤ q) s s.heap := vx_Zqof (hts _ (by decide +kernel)) (hts _ (by decide +kernel)) (hq _ (by decide +kernel)) hA
  obtain ⟨k0, -, -, -, e0, -⟩ := Cond.exactly_spec (args := args) (first := s) (o := none) (s := s) (idx := []) (t := .string R_PB 121) (cls := "java/lang/String") (hq _ (by decide +kernel))
  obtain ⟨k1, v1, e1, p1, q1, r1, t1⟩ := str_at (A := fun q => s.heap.size ≤ q) (tm := .string R_PB 164) [78, 97, 78] (by decide) (hq _ (by decide +kernel)) (hq _ (by decide +kernel)) (hq _ (by decide +kernel)) (hq _ (by decide +kernel)) (fun j hj => by
    have : j < 3 := hj
    rcases (show j = 0 ∨ j = 1 ∨ j = 2 by omega) with rfl | rfl | rfl
    all_goals exact hq _ (by decide +kernel)) hA
  obtain ⟨k2, v2, e2, p2, q2, r2, t2⟩ := str_at (A := fun q => s.heap.size ≤ q) (tm := .string R_PB 178) [73, 110, 102, 105, 110, 105, 116, 121] (by decide) (hq _ (by decide +kernel)) (hq _ (by decide +kernel)) (hq _ (by decide +kernel)) (hq _ (by decide +kernel)) (fun j hj => by
    have : j < 8 := hj
    rcases (show j = 0 ∨ j = 1 ∨ j = 2 ∨ j = 3 ∨ j = 4 ∨ j = 5 ∨ j = 6 ∨ j = 7 by omega) with rfl | rfl | rfl | rfl | rfl | rfl | rfl | rfl
    all_goals exact hq _ (by decide +kernel)) hA
  obtain ⟨k3, v3, e3, p3, q3, r3, t3⟩ := str_at (A := fun q => s.heap.size ≤ q) (tm := .string R_PB 183) [48, 46, 48] (by decide) (hq _ (by decide +kernel)) (hq _ (by decide +kernel)) (hq _ (by decide +kernel)) (hq _ (by decide +kernel)) (fun j hj => by
    have : j < 3 := hj
    rcases (show j = 0 ∨ j = 1 ∨ j = 2 by omega) with rfl | rfl | rfl
    all_goals exact hq _ (by decide +kernel)) hA
  obtain ⟨k4, -, -, -, e4, -⟩ := Cond.exactly_spec (args := args) (first := s) (o := none) (s := s) (idx := []) (t := .string R_PB 33) (cls := "java/lang/String") (hq _ (by decide +kernel))
  obtain ⟨k5, -, -, -, e5, -⟩ := Cond.exactly_spec (args := args) (first := s) (o := none) (s := s) (idx := []) (t := .string R_PB 57) (cls := "java/lang/String") (hq _ (by decide +kernel))
  obtain ⟨k6, -, -, -, e6, -⟩ := Cond.exactly_spec (args := args) (first := s) (o := none) (s := s) (idx := []) (t := .string R_PB 65) (cls := "java/lang/String") (hq _ (by decide +kernel))
  obtain ⟨k7, -, -, -, e7, -⟩ := Cond.exactly_spec (args := args) (first := s) (o := none) (s := s) (idx := []) (t := .string R_PB 78) (cls := "java/lang/String") (hq _ (by decide +kernel))
  obtain ⟨k8, -, -, -, e8, -⟩ := Cond.exactly_spec (args := args) (first := s) (o := none) (s := s) (idx := []) (t := .string R_PB 91) (cls := "java/lang/String") (hq _ (by decide +kernel))
  obtain ⟨k9, v9, e9, p9, q9, r9, t9⟩ := str_at (A := fun q => s.heap.size ≤ q) (tm := .string R_Lt 53) [46, 48] (by decide) (hq _ (by decide +kernel)) (hq _ (by decide +kernel)) (hq _ (by decide +kernel)) (hq _ (by decide +kernel)) (fun j hj => by
    have : j < 2 := hj
    rcases (show j = 0 ∨ j = 1 by omega) with rfl | rfl
    all_goals exact hq _ (by decide +kernel)) hA
  obtain ⟨k10, v10, e10, p10, q10, r10, t10⟩ := str_at (A := fun q => s.heap.size ≤ q) (tm := .string R_Lt 58) [48, 46] (by decide) (hq _ (by decide +kernel)) (hq _ (by decide +kernel)) (hq _ (by decide +kernel)) (hq _ (by decide +kernel)) (fun j hj => by
    have : j < 2 := hj
    rcases (show j = 0 ∨ j = 1 by omega) with rfl | rfl
    all_goals exact hq _ (by decide +kernel)) hA
  refine ⟨oF, oD, (fun i => match i with | 0 => k0 | 1 => k1 | 2 => k2 | 3 => k3 | 4 => k4 | 5 => k5 | 6 => k6 | 7 => k7 | 8 => k8 | 9 => k9 | _ => k10), (fun i => match i with | 1 => v1 | 2 => v2 | 3 => v3 | 9 => v9 | _ => v10), ⟨⟨va_Nw.of rfl (hts nw_Real (by decide +kernel)), va_Nw.of rfl (hts nw_SD (by decide +kernel))⟩, ⟨va_Nw.of rfl (hts _ (by decide +kernel)), va_Nw.of rfl (hts _ (by decide +kernel)), va_Nw.of rfl (hts _ (by decide +kernel)), va_Nw.of rfl (hts _ (by decide +kernel)), va_Nw.of rfl (hts _ (by decide +kernel)), va_Nc.of (hq _ (by decide +kernel))⟩, fun i hi => ?_⟩, ⟨f1, g1, f2, g2⟩, ⟨zU, zP⟩, ⟨p1, q1, r1, t1, zC, zS⟩, ⟨p2, q2, r2, t2, zC, zS⟩, ⟨p3, q3, r3, t3, zC, zS⟩, ⟨p9, q9, r9, t9, zC, zS⟩, ⟨p10, q10, r10, t10, zC, zS⟩⟩
  rcases (show i = 0 ∨ i = 1 ∨ i = 2 ∨ i = 3 ∨ i = 4 ∨ i = 5 ∨ i = 6 ∨ i = 7 ∨ i = 8 ∨ i = 9 ∨ i = 10 by omega) with rfl | rfl | rfl | rfl | rfl | rfl | rfl | rfl | rfl | rfl | rfl
  · exact vk_R.of (tx := "by a whole 0") (hts _ (by decide +kernel)) e0
  · exact vk_R.of (tx := "NaN") (hts _ (by decide +kernel)) e1
  · exact vk_R.of (tx := "Infinity") (hts _ (by decide +kernel)) e2
  · exact vk_R.of (tx := "0.0") (hts _ (by decide +kernel)) e3
  · exact vk_R.of (tx := "no such operator of this type") (hts _ (by decide +kernel)) e4
  · exact vk_R.of (tx := "no minus of this type") (hts _ (by decide +kernel)) e5
  · exact vk_R.of (tx := "no such type") (hts _ (by decide +kernel)) e6
  · exact vk_R.of (tx := "no comparison of this type") (hts _ (by decide +kernel)) e7
  · exact vk_R.of (tx := "no text of this type") (hts _ (by decide +kernel)) e8
  · exact vk_R.of (tx := ".0") (hts _ (by decide +kernel)) e9
  · exact vk_R.of (tx := "0.") (hts _ (by decide +kernel)) e10
theorem arr_at {args : Array Value} {s : State} {ty : FieldType} (hty : ty = .int ∨ ty = .long ∨ ty = .char) (h : (Cond.arrayClass ty).before args s = true) : ∃ cA : ClassId, ArrOfT s cA ty ∧ va_RA s cA ty := by
  obtain ⟨cA, kA, comp, h1, h2, h3⟩ := Cond.arrayClass_spec (args := args) (first := s) (o := none) (s := s) (idx := []) h
  refine ⟨cA, fun n z => ⟨fun k h => (by cases h), kA, h2, comp, h3⟩, ?_⟩
  rcases hty with rfl | rfl | rfl <;> exact h1
set_option maxRecDepth 100000 in
set_option maxHeartbeats 4000000 in
theorem K_start {args : Array Value} {s : State} (hts : ∀ w ∈ lw_tbl, w.before args s = true) : ∃ (D : va_G) (cI cL cC : ClassId), va_K D cls (tysV cI cL cC) s := by
  have hT : ∀ w ∈ BIG, w.before args s = true := fun w h => hts w (bigIn w h)
  obtain ⟨cI, i1, i2⟩ := arr_at (args := args) (s := s) (ty := .int) (Or.inl rfl) (hts _ (by decide +kernel))
  obtain ⟨cL, l1, l2⟩ := arr_at (args := args) (s := s) (ty := .long) (Or.inr (Or.inl rfl)) (hts _ (by decide +kernel))
  obtain ⟨cC, c1, c2⟩ := arr_at (args := args) (s := s) (ty := .char) (Or.inr (Or.inr rfl)) (hts _ (by decide +kernel))
  obtain ⟨d0, s0, u0⟩ := u_known (n := 2) hT in_PB (hts (.instantiable R_PB 2) (by decide +kernel))
  obtain ⟨d1, s1, u1⟩ := u_known (n := 3) hT in_Lt (hts (.instantiable R_Lt 3) (by decide +kernel))
  obtain ⟨d2, s2, u2⟩ := u_known (n := 3) hT in_SD (hts (.instantiable R_SD 3) (by decide +kernel))
  obtain ⟨d3, s3, u3⟩ := u_known (n := 3) hT in_BW (hts (.instantiable R_BW 3) (by decide +kernel))
  obtain ⟨d4, s4, u4⟩ := u_known (n := 15) hT in_Md (hts (.instantiable R_Md 15) (by decide +kernel))
  obtain ⟨d5, s5, u5⟩ := u_known (n := 26) hT in_Rs (hts (.instantiable R_Rs 26) (by decide +kernel))
  refine ⟨(fun k => match k with | 0 => d0 | 1 => d1 | 2 => d2 | 3 => d3 | 4 => d4 | _ => d5, fun k => match k with | 0 => s0 | 1 => s1 | 2 => s2 | 3 => s3 | 4 => s4 | _ => s5), cI, cL, cC, fun c q hc => ?_, fun k q hk => ?_⟩
  · have hl : c < 6 := (List.getElem?_eq_some_iff.mp hc).1
    rcases (show c = 0 ∨ c = 1 ∨ c = 2 ∨ c = 3 ∨ c = 4 ∨ c = 5 by omega) with rfl | rfl | rfl | rfl | rfl | rfl
    all_goals (obtain rfl := Option.some.inj hc; assumption)
  · have hl : k < 3 := (List.getElem?_eq_some_iff.mp hk).1
    rcases (show k = 0 ∨ k = 1 ∨ k = 2 by omega) with rfl | rfl | rfl
    · obtain rfl := Option.some.inj hk; exact ⟨i1, i2⟩
    · obtain rfl := Option.some.inj hk; exact ⟨l1, l2⟩
    · obtain rfl := Option.some.inj hk; exact ⟨c1, c2⟩
