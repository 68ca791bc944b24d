/-! The class's quotient. -/
theorem div_L (j : Int64 → Int64 → Option Int64) {b : Nat} (h0 : 0 < b) (hb : b < 2 ^ 53) :
    ∀ (d n i r q : Nat), i + d = 6 → d < n → r < b → q < 2 ^ (10 * i + 1) → ∃ r' q' : Nat, F_Real_dividedSignificands_L38 (lN b) j n (lN r) (lN q) (nI i) = j (lN r') (lN q') ∧ q' * b + r' = (q * b + r) * 2 ^ (10 * d) ∧ r' < b ∧ q' < 2 ^ 61 := by
  intro d
  induction d with
  | zero =>
    intro n i r q hi hn hr hq
    obtain ⟨n, rfl⟩ : ∃ k, n = k + 1 := ⟨n - 1, by omega⟩
    have : i = 6 := by omega
    subst this
    refine ⟨r, q, ?_, by simp, hr, hq⟩
    show (if (6 : Int32) ≤ nI 6 then j (lN r) (lN q) else _) = _
    exact if_pos (by decide)
  | succ d ih =>
    intro n i r q hi hn hr hq
    obtain ⟨n, rfl⟩ : ∃ k, n = k + 1 := ⟨n - 1, by omega⟩
    have hc : ¬ (6 : Int32) ≤ nI i := nI_ge (b := 6) (by omega) (by omega)
    have hz : ¬ lN b = 0 := fun z => by have := (lN_z (by omega)).mp z; omega
    have hi1 : nI i + Int32.ofInt 1 = nI (i + 1) := nI_1 i
    have sh : ∀ x : Nat, lN x <<< (((10 : Int32)).toInt64 &&& 63) = lN (x * 2 ^ 10) := fun x => wb_shl x (k := 10) (by decide)
    have unf : F_Real_dividedSignificands_L38 (lN b) j (n + 1) (lN r) (lN q) (nI i) = F_Real_dividedSignificands_L38 (lN b) j n ((lN r <<< (((10 : Int32)).toInt64 &&& 63)) - (lN r <<< (((10 : Int32)).toInt64 &&& 63)) / lN b * lN b) ((lN q <<< (((10 : Int32)).toInt64 &&& 63)) ||| ((lN r <<< (((10 : Int32)).toInt64 &&& 63)) / lN b)) (nI i + Int32.ofInt 1) := by
      show (if (6 : Int32) ≤ nI i then j (lN r) (lN q) else _) = _
      rw [if_neg hc]
      show gz_ (lN b = 0) (gz_ (lN b = 0) _) = _
      unfold gz_
      rw [if_neg hz, if_neg hz]
      rfl
    have hq2 : 2 ^ (10 * i + 1) ≤ 2 ^ 51 := p2_le (by omega)
    have hdl : r * 2 ^ 10 / b < 2 ^ 10 := Nat.div_lt_of_lt_mul (by rw [Nat.mul_comm b]; have := Nat.mul_lt_mul_of_pos_right hr (show 0 < 2 ^ 10 by decide); rw [Nat.mul_comm b] at this; rw [Nat.mul_comm (2 ^ 10)]; omega)
    have hor := g_or (k := 10) (p := 2 ^ 10) (a := r * 2 ^ 10 / b) (b := q) rfl hdl (by omega)
    rw [unf, hi1, sh, sh, pk_lRem (by omega) h0 (by omega), pk_lDiv (by omega) h0 (by omega), hor]
    have hq3 : q * 2 ^ 10 + r * 2 ^ 10 / b < 2 ^ (10 * (i + 1) + 1) := by
      have : 2 ^ (10 * (i + 1) + 1) = 2 ^ (10 * i + 1) * 2 ^ 10 := by rw [← Nat.pow_add]; congr 1
      have h4 : (q + 1) * 2 ^ 10 ≤ 2 ^ (10 * i + 1) * 2 ^ 10 := Nat.mul_le_mul_right _ hq
      omega
    obtain ⟨r', q', g1, g2, g3, g4⟩ := ih n (i + 1) (r * 2 ^ 10 % b) (q * 2 ^ 10 + r * 2 ^ 10 / b) (by omega) (by omega) (Nat.mod_lt _ h0) hq3
    refine ⟨r', q', g1, ?_, g3, g4⟩
    have hdm := Nat.div_add_mod (r * 2 ^ 10) b
    have e : (q * 2 ^ 10 + r * 2 ^ 10 / b) * b + r * 2 ^ 10 % b = (q * b + r) * 2 ^ 10 := by
      rw [Nat.add_mul, Nat.add_mul, Nat.mul_right_comm q, Nat.mul_comm (r * 2 ^ 10 / b)]
      omega
    rw [g2, e, Nat.mul_assoc, ← Nat.pow_add]
    congr 2
    omega
theorem v_divided {a b n : Nat} (a1 : 2 ^ 52 ≤ a) (a2 : a < 2 ^ 53) (b1 : 2 ^ 52 ≤ b) (b2 : b < 2 ^ 53) (hn : 6 < n) : ∃ Q r : Nat, F_Real_dividedSignificands n (lN (a * 2 ^ 10)) (lN (b * 2 ^ 10)) = some (lN (if r = 0 then Q else jo Q)) ∧ Q * b + r = a * 2 ^ 60 ∧ r < b ∧ Q < 2 ^ 61 := by
  have s10 : ∀ x : Nat, x * 2 ^ 10 < 2 ^ 64 → ((lN (x * 2 ^ 10)).toUInt64 >>> (((10 : Int32)).toInt64.toUInt64 &&& Int64.toUInt64 63)).toInt64 = lN x := by
    intro x hx
    have := wb_shr (n := x * 2 ^ 10) (k := 10) hx (by decide)
    rw [Nat.mul_div_cancel _ (by decide)] at this
    exact this
  have hz : ¬ lN b = 0 := fun z => by have := (lN_z (by omega)).mp z; omega
  have hq0 : a / b < 2 ^ (10 * 0 + 1) := Nat.div_lt_of_lt_mul (by omega)
  obtain ⟨r', q', g1, g2, g3, g4⟩ := div_L (fun y5 y6 => some (F_Real_jammed y6 (if y5 = (0 : Int64) then (0 : Int32) else (1 : Int32)))) (b := b) (by omega) b2 6 n 0 (a % b) (a / b) (by omega) (by omega) (Nat.mod_lt _ (by omega)) hq0
  have hdm := Nat.div_add_mod a b
  rw [Nat.mul_comm (a / b), hdm, show 10 * 6 = 60 from rfl] at g2
  refine ⟨q', r', ?_, g2, g3, g4⟩
  unfold F_Real_dividedSignificands
  simp only [lt_]
  rw [s10 b (by omega), s10 a (by omega), if_pos hz]
  unfold gz_
  rw [if_neg hz, if_neg hz, pk_lRem (by omega) (by omega) (by omega), pk_lDiv (by omega) (by omega) (by omega)]
  refine g1.trans ?_
  have cl : lN r' = (0 : Int64) ↔ r' = 0 := lN_z (by omega)
  rw [v_jammed (by omega)]
  by_cases z : r' = 0
  · rw [if_pos (cl.mpr z), if_pos rfl, if_pos z]
  · rw [if_neg (fun y => z (cl.mp y)), if_neg (by decide), if_neg z]
/-- one place more of a quotient -/
theorem quo_2X {X Q r b : Nat} (h : X = Q * b + r) (hr : r < b) : ∃ t : Nat, t < 4 ∧ 2 * (2 * X / b) + (if 2 * X % b = 0 then 0 else 1) = Q * 2 ^ 2 + t ∧ (t = 0 ↔ r = 0) := by
  by_cases h2 : 2 * r < b
  · obtain ⟨d1, d2⟩ := div_of (x := 2 * X) (q := 2 * Q) (r := 2 * r) (b := b) (by rw [h, Nat.mul_assoc]; omega) h2
    rw [d1, d2]
    refine ⟨if 2 * r = 0 then 0 else 1, by split <;> omega, by omega, ?_⟩
    split <;> omega
  · obtain ⟨d1, d2⟩ := div_of (x := 2 * X) (q := 2 * Q + 1) (r := 2 * r - b) (b := b) (by rw [h, Nat.add_mul, Nat.mul_assoc]; omega) (by omega)
    rw [d1, d2]
    refine ⟨2 + (if 2 * r - b = 0 then 0 else 1), by split <;> omega, by omega, by omega⟩
theorem v_quotient_fin {K : rK} {f te w : Nat} {lp : Int} (hK : kS K f te w lp) {n : Nat} (hn : 6 < n) {a b : Nat} (ha : a < 2 ^ 64) (hb : b < 2 ^ 64) (fa : dG w a < te * 2 ^ f) (fb : dG w b < te * 2 ^ f) (na : dG w a ≠ 0) (nb : dG w b ≠ 0) :
    F_Real_quotient n K (lN a) (lN b) = some (lN (quoR f te w lp (dS w a) (dM f w a) (dP f w lp a) (dS w b) (dM f w b) (dP f w lp b))) := by
  have hF := kS_fmt hK
  have hbb := fmt_b hF
  have hi := inf_lt hF
  have hinf := fmt_inf hF
  have hpf := p2_pos f
  obtain ⟨-, g1, g2, -⟩ := fin_b hF fa
  obtain ⟨-, l1, l2, -⟩ := fin_b hF fb
  have sa := dS_le w a
  have sb := dS_le w b
  have hp53 : 2 ^ (f + 1) ≤ 2 ^ 53 := p2_le (by omega)
  have ma := dM_lt f w a
  have mb := dM_lt f w b
  have za : dM f w a ≠ 0 := fun z => na ((dM_0 (by omega) a).mp z)
  have zb : dM f w b ≠ 0 := fun z => nb ((dM_0 (by omega) b).mp z)
  unfold F_Real_quotient
  simp only [lt_]
  rw [v_isNegative hK ha, v_isNegative hK hb, v_isInfinite hK ha, v_isInfinite hK hb, v_isZero hK ha, v_isZero hK hb, if_neg (show ¬ dG w a = te * 2 ^ f by omega), if_neg (show ¬ dG w b = te * 2 ^ f by omega), if_neg na, if_neg nb]
  have cS : nI (dS w a) = nI (dS w b) ↔ dS w a = dS w b := nI_eq (by omega) (by omega)
  have eS : (if nI (dS w a) = nI (dS w b) then (0 : Int32) else (1 : Int32)) = nI ((dS w a + dS w b) % 2) := by
    by_cases h : dS w a = dS w b
    · rw [if_pos (cS.mpr h), show (dS w a + dS w b) % 2 = 0 by omega]; rfl
    · rw [if_neg (fun z => h (cS.mp z)), show (dS w a + dS w b) % 2 = 1 by omega]; rfl
  have z0 : ((0 : Int32) = 0) = True := by decide
  rw [eS]
  simp only [z0, not_true_eq_false, if_true, if_false]
  have hsx : (dS w a + dS w b) % 2 ≤ 1 := by omega
  unfold quoR
  generalize (dS w a + dS w b) % 2 = sx at *
  rw [v_alignedPower hK hn ha za, v_alignedPower hK hn hb zb, v_aligned hK hn ha za, v_aligned hK hn hb zb]
  simp only [Option.bind_some]
  have la := bl_pos za
  have lb := bl_pos zb
  have la2 := bl_le (Nat.lt_of_lt_of_le ma hp53)
  have lb2 := bl_le (Nat.lt_of_lt_of_le mb hp53)
  generalize dM f w a = mA at *
  generalize dM f w b = mB at *
  generalize dP f w lp a = pa at *
  generalize dP f w lp b = pb at *
  obtain ⟨A1, A2⟩ := al_b za (by omega)
  obtain ⟨B1, B2⟩ := al_b zb (by omega)
  -- 53 places and ten zeros
  have eA : mA * 2 ^ (63 - bl mA) = mA * 2 ^ (53 - bl mA) * 2 ^ 10 := by
    rw [Nat.mul_assoc, ← Nat.pow_add]; congr 2; omega
  have eB : mB * 2 ^ (63 - bl mB) = mB * 2 ^ (53 - bl mB) * 2 ^ 10 := by
    rw [Nat.mul_assoc, ← Nat.pow_add]; congr 2; omega
  have eA' : mA * 2 ^ (61 - bl mA) = mA * 2 ^ (53 - bl mA) * 2 ^ 8 := by
    rw [Nat.mul_assoc, ← Nat.pow_add]; congr 2; omega
  have eB' : mB * 2 ^ (61 - bl mB) = mB * 2 ^ (53 - bl mB) * 2 ^ 8 := by
    rw [Nat.mul_assoc, ← Nat.pow_add]; congr 2; omega
  rw [eA] at A1 A2
  rw [eB] at B1 B2
  rw [eA, eB, eA', eB']
  generalize mA * 2 ^ (53 - bl mA) = x at *
  generalize mB * 2 ^ (53 - bl mB) = y at *
  obtain ⟨Q, r, dv, hQ1, hQ2, hQ3⟩ := v_divided (a := x) (b := y) (n := n) (by omega) (by omega) (by omega) (by omega) hn
  rw [dv]
  simp only [Option.bind_some]
  have e0 : x * 2 ^ 8 * 2 ^ 61 = 2 * (x * 2 ^ 60) * 2 ^ 8 := by
    rw [Nat.mul_right_comm, show 2 ^ 61 = 2 * 2 ^ 60 from rfl, Nat.mul_left_comm]
  have e1 : x * 2 ^ 8 * 2 ^ 61 / (y * 2 ^ 8) = 2 * (x * 2 ^ 60) / y := by
    rw [e0]
    exact Nat.mul_div_mul_right _ _ (by decide)
  have e2 : x * 2 ^ 8 * 2 ^ 61 % (y * 2 ^ 8) = 2 * (x * 2 ^ 60) % y * 2 ^ 8 := by
    rw [e0]
    exact Nat.mul_mod_mul_right _ _ _
  have e3 : (if 2 * (x * 2 ^ 60) % y * 2 ^ 8 = 0 then 0 else 1) = if 2 * (x * 2 ^ 60) % y = 0 then 0 else 1 := by
    by_cases z : 2 * (x * 2 ^ 60) % y = 0
    · rw [if_pos z, z]; rfl
    · rw [if_neg z, if_neg (fun q => z (by rcases Nat.mul_eq_zero.mp q with q | q; (· exact q); cases q))]
  rw [e1, e2, e3]
  obtain ⟨t, t1, t2, t3⟩ := quo_2X hQ1.symm hQ2
  rw [t2]
  have hlo : 2 ^ 59 ≤ Q := by
    rcases Nat.lt_or_ge Q (2 ^ 59) with z | z
    · exfalso
      have h3 : (Q + 1) * y ≤ 2 ^ 59 * y := Nat.mul_le_mul_right _ z
      have h4 : 2 ^ 59 * y < 2 ^ 59 * 2 ^ 53 := Nat.mul_lt_mul_of_pos_left (by omega) (by decide)
      have h5 : 2 ^ 52 * 2 ^ 60 ≤ x * 2 ^ 60 := Nat.mul_le_mul_right _ (by omega)
      have h6 : 2 ^ 59 * 2 ^ 53 = 2 ^ 52 * 2 ^ 60 := by decide
      rw [Nat.add_mul, Nat.one_mul] at h3
      have h7 : x * 2 ^ 60 < (Q * y + y) := by rw [← hQ1]; exact Nat.add_lt_add_left hQ2 _
      exact Nat.lt_irrefl _ (Nat.lt_of_le_of_lt h5 (Nat.lt_of_lt_of_le h7 (Nat.le_trans h3 (Nat.le_of_lt (h6 ▸ h4)))))
    · exact z
  clear e0 e1 e2 e3 t2 hQ1 dv
  have hjl := jo_le Q
  have h55 : 2 ^ (f + 3) ≤ 2 ^ 55 := p2_le (by omega)
  have hJ : (if r = 0 then Q else jo Q) < 2 ^ 63 := by split <;> omega
  obtain ⟨E, hE⟩ : ∃ E : Int, E = pa - (61 - bl mA : Nat) - pb + (61 - bl mB : Nat) - 61 - 1 := ⟨_, rfl⟩
  rw [← hE]
  have ep : iZ (pa - (63 - bl mA : Nat)) - iZ (pb - (63 - bl mB : Nat)) - (60 : Int32) = iZ (E + (2 : Nat)) := by
    rw [show (60 : Int32) = iZ 60 from rfl, iZ_sub, iZ_sub]
    congr 1
    omega
  rw [ep, v_rounded hK hn _ (by omega) (by omega) hJ]
  simp only [Option.bind_some]
  have hmg := mg_jo (f := f) (inf := te * 2 ^ f) (lp := lp) (H := Q) (k := 2) (r := t) (by omega) (fun _ => by omega) E
  have ec : (if t = 0 then Q else jo Q) = if r = 0 then Q else jo Q := by
    by_cases z : t = 0
    · rw [if_pos z, if_pos (t3.mp z)]
    · rw [if_neg z, if_neg (fun q => z (t3.mpr q))]
  rw [ec] at hmg
  have hle := mg_le f (te * 2 ^ f) lp (Q * 2 ^ 2 + t) E
  rw [hmg, v_signed hK (by omega) hsx]
