/-! Products. -/
theorem mg_lost {f inf : Nat} {lp : Int} {H k r : Nat} (hr : r < 2 ^ k) (hH : r ≠ 0 → 2 ^ (f + 2) ≤ H) (e : Int) : mg f inf lp (2 * H + (if r = 0 then 0 else 1)) (e + k - 1) = mg f inf lp (H * 2 ^ k + r) e := by
  by_cases z : r = 0
  · rw [if_pos z, z, Nat.add_zero, Nat.add_zero, mg_two]
    have := mg_scale f inf lp H k (e + k)
    rw [show e + (k : Int) - k = e by omega] at this
    exact this.symm
  · rw [if_neg z]
    have h := hH z
    obtain ⟨j, rfl⟩ : ∃ j, k = j + 1 := ⟨k - 1, by rcases Nat.eq_zero_or_pos k with q | q; (· subst q; omega); omega⟩
    have h1 : 2 ^ (f + 2) * 2 ^ (j + 1) ≤ H * 2 ^ (j + 1) := Nat.mul_le_mul_right _ h
    rw [← Nat.pow_add] at h1
    have hb := bl_gt (n := H * 2 ^ (j + 1) + r) (b := f + 2 + (j + 1)) (by omega)
    have h2 : 2 ^ (j + 1) ≤ 2 ^ (f + 2 + (j + 1)) := p2_le (by omega)
    have := mg_jam (f := f) (inf := inf) (lp := lp) (e := e) (jm_two (H := H) (k := j) (r := r) (by omega) hr) (by omega) (by unfold mgS; omega)
    rw [this]
    congr 1
    omega
theorem mg_jo {f inf : Nat} {lp : Int} {H k r : Nat} (hr : r < 2 ^ k) (hH : r ≠ 0 → 2 ^ (f + 3) ≤ H) (e : Int) : mg f inf lp (if r = 0 then H else jo H) (e + k) = mg f inf lp (H * 2 ^ k + r) e := by
  by_cases z : r = 0
  · rw [if_pos z, z, Nat.add_zero]
    have := mg_scale f inf lp H k (e + k)
    rw [show e + (k : Int) - k = e by omega] at this
    exact this.symm
  · rw [if_neg z]
    have h := hH z
    have h1 : 2 ^ (f + 3) * 2 ^ k ≤ H * 2 ^ k := Nat.mul_le_mul_right _ h
    rw [← Nat.pow_add] at h1
    have hb := bl_gt (n := H * 2 ^ k + r) (b := f + 3 + k) (by omega)
    have h2 : 2 ^ (k + 1) ≤ 2 ^ (f + 3 + k) := p2_le (by omega)
    exact (mg_jam (f := f) (inf := inf) (lp := lp) (e := e) (jm_odd (H := H) (k := k) (r := r) (by omega) hr) (by omega) (by unfold mgS; omega)).symm
/-- two numbers in two parts -/
theorem mul_parts (B a b : Nat) : a * b = a / B * (b / B) * (B * B) + (a / B * (b % B) + a % B * (b / B)) * B + a % B * (b % B) := by
  have ha := Nat.div_add_mod a B
  have hb := Nat.div_add_mod b B
  calc a * b = (B * (a / B) + a % B) * (B * (b / B) + b % B) := by rw [ha, hb]
    _ = B * (a / B) * (B * (b / B)) + a % B * (B * (b / B)) + (B * (a / B) * (b % B) + a % B * (b % B)) := by rw [Nat.mul_add, Nat.add_mul, Nat.add_mul]
    _ = _ := by
      have e1 : B * (a / B) * (B * (b / B)) = a / B * (b / B) * (B * B) := by rw [Nat.mul_mul_mul_comm, Nat.mul_comm (B * B)]
      have e2 : a % B * (B * (b / B)) = a % B * (b / B) * B := by rw [Nat.mul_left_comm, Nat.mul_comm B]
      have e3 : B * (a / B) * (b % B) = a / B * (b % B) * B := by rw [Nat.mul_assoc, Nat.mul_comm B]
      rw [e1, e2, e3, Nat.add_mul]
      omega
theorem v_highProduct {a b : Nat} (ha : a < 2 ^ 63) (hb : b < 2 ^ 63) : F_Real_highProduct (lN a) (lN b) = lN (a * b / 2 ^ 64) := by
  have hm := mul_parts (2 ^ 32) a b
  have a1 : a / 2 ^ 32 < 2 ^ 31 := by omega
  have a2 : a % 2 ^ 32 < 2 ^ 32 := by omega
  have b1 : b / 2 ^ 32 < 2 ^ 31 := by omega
  have b2 : b % 2 ^ 32 < 2 ^ 32 := by omega
  unfold F_Real_highProduct
  simp only [lt_]
  have s32 : ∀ x : Nat, x < 2 ^ 64 → ((lN x).toUInt64 >>> (((32 : Int32)).toInt64.toUInt64 &&& Int64.toUInt64 63)).toInt64 = lN (x / 2 ^ 32) := fun x hx => wb_shr (k := 32) hx (by decide)
  have m32 : ∀ x : Nat, x < 2 ^ 64 → lN x &&& (4294967295 : Int64) = lN (x % 2 ^ 32) := fun x hx => wb_mask (k := 32) hx (by decide)
  rw [s32 a (by omega), s32 b (by omega), m32 a (by omega), m32 b (by omega)]
  generalize a / 2 ^ 32 = ah at *
  generalize a % 2 ^ 32 = al at *
  generalize b / 2 ^ 32 = bh at *
  generalize b % 2 ^ 32 = bl' at *
  have p1 : al * bl' ≤ (2 ^ 32 - 1) * (2 ^ 32 - 1) := Nat.mul_le_mul (by omega) (by omega)
  have p2 : ah * bl' ≤ (2 ^ 31 - 1) * (2 ^ 32 - 1) := Nat.mul_le_mul (by omega) (by omega)
  have p3 : al * bh ≤ (2 ^ 32 - 1) * (2 ^ 31 - 1) := Nat.mul_le_mul (by omega) (by omega)
  rw [lN_mul, lN_mul, lN_mul, lN_mul, s32 _ (by omega), lN_add, m32 _ (by omega), s32 _ (by omega), lN_add, lN_add, s32 _ (by omega), lN_add]
  congr 1
  generalize al * bl' = R at *
  generalize ah * bl' = P at *
  generalize al * bh = Q at *
  generalize ah * bh = H at *
  rw [hm]
  omega
def prodR (f te w : Nat) (lp : Int) (s1 m1 : Nat) (p1 : Int) (s2 m2 : Nat) (p2 : Int) : Nat := mg f (te * 2 ^ f) lp (m1 * m2) (p1 + p2) + (s1 + s2) % 2 * 2 ^ w
section PR
variable {K : rK} {f te w : Nat} {lp : Int}
theorem v_alignment (hK : kS K f te w lp) {n : Nat} (hn : 6 < n) {u : Nat} (hu : u < 2 ^ 64) (h0 : dM f w u ≠ 0) : F_Real_alignment n K (lN u) = some (nI (63 - bl (dM f w u))) := by
  have hb := fmt_b (kS_fmt hK)
  have hm := dM_lt f w u
  have hp53 : 2 ^ (f + 1) ≤ 2 ^ 53 := p2_le (by omega)
  have l1 := bl_pos h0
  have l2 := bl_le (Nat.lt_of_lt_of_le hm hp53)
  unfold F_Real_alignment
  rw [v_significand hK hu, v_leadingZeros h0 (by omega) hn]
  simp only [Option.bind_some]
  congr 1
  have := pk_sub (a := 64 - bl (dM f w u)) (b := 1) (by omega)
  rw [show 64 - bl (dM f w u) - 1 = 63 - bl (dM f w u) by omega] at this
  exact this
theorem v_aligned (hK : kS K f te w lp) {n : Nat} (hn : 6 < n) {u : Nat} (hu : u < 2 ^ 64) (h0 : dM f w u ≠ 0) : F_Real_aligned n K (lN u) = some (lN (dM f w u * 2 ^ (63 - bl (dM f w u)))) := by
  have l1 := bl_pos h0
  unfold F_Real_aligned
  rw [v_alignment hK hn hu h0, v_significand hK hu]
  simp only [Option.bind_some]
  rw [wb_shl _ (by omega)]
theorem v_alignedPower (hK : kS K f te w lp) {n : Nat} (hn : 6 < n) {u : Nat} (hu : u < 2 ^ 64) (h0 : dM f w u ≠ 0) : F_Real_alignedPower n K (lN u) = some (iZ (dP f w lp u - (63 - bl (dM f w u) : Nat))) := by
  unfold F_Real_alignedPower
  rw [v_alignment hK hn hu h0, v_power hK hu]
  simp only [Option.bind_some]
  rw [← iZ_nI, iZ_sub]
theorem al_b {m : Nat} (h0 : m ≠ 0) (h : m < 2 ^ 63) : 2 ^ 62 ≤ m * 2 ^ (63 - bl m) ∧ m * 2 ^ (63 - bl m) < 2 ^ 63 := by
  have l1 := bl_pos h0
  have l2 := bl_le h
  have b1 : bl (m * 2 ^ (63 - bl m)) = 63 := by rw [bl_mul h0]; omega
  have n1 : m * 2 ^ (63 - bl m) ≠ 0 := Nat.mul_ne_zero h0 (Nat.ne_of_gt (p2_pos _))
  have u1 := bl_lt (m * 2 ^ (63 - bl m))
  have v1 := bl_ge n1
  rw [b1] at u1 v1
  exact ⟨v1, u1⟩
theorem v_product_fin (hK : kS K f te w lp) {n : Nat} (hn : 6 < n) {a b : Nat} (ha : a < 2 ^ 64) (hb : b < 2 ^ 64) (fa : dG w a < te * 2 ^ f) (fb : dG w b < te * 2 ^ f) :
    F_Real_product n K (lN a) (lN b) = some (lN (prodR f te w lp (dS w a) (dM f w a) (dP f w lp a) (dS w b) (dM f w b) (dP f w lp b))) := by
  have hF := kS_fmt hK
  have hbb := fmt_b hF
  have hi := inf_lt hF
  have hinf := fmt_inf hF
  have hpf := p2_pos f
  obtain ⟨-, g1, g2, -⟩ := fin_b hF fa
  obtain ⟨-, l1, l2, -⟩ := fin_b hF fb
  have sa := dS_le w a
  have sb := dS_le w b
  have hp53 : 2 ^ (f + 1) ≤ 2 ^ 53 := p2_le (by omega)
  have ma := dM_lt f w a
  have mb := dM_lt f w b
  have za := dM_0 (f := f) (w := w) (by omega) a
  have zb := dM_0 (f := f) (w := w) (by omega) b
  unfold F_Real_product
  simp only [lt_]
  rw [v_isNegative hK ha, v_isNegative hK hb, v_isInfinite hK ha, v_isInfinite hK hb, v_isZero hK ha, v_isZero hK hb, if_neg (show ¬ dG w a = te * 2 ^ f by omega), if_neg (show ¬ dG w b = te * 2 ^ f by omega)]
  have cS : nI (dS w a) = nI (dS w b) ↔ dS w a = dS w b := nI_eq (by omega) (by omega)
  have eS : (if nI (dS w a) = nI (dS w b) then (0 : Int32) else (1 : Int32)) = nI ((dS w a + dS w b) % 2) := by
    by_cases h : dS w a = dS w b
    · rw [if_pos (cS.mpr h), show (dS w a + dS w b) % 2 = 0 by omega]; rfl
    · rw [if_neg (fun z => h (cS.mp z)), show (dS w a + dS w b) % 2 = 1 by omega]; rfl
  rw [eS]
  have z0 : ((0 : Int32) = 0) = True := by decide
  have z1 : ((1 : Int32) = 0) = False := by decide
  have hsx : (dS w a + dS w b) % 2 ≤ 1 := by omega
  unfold prodR
  generalize (dS w a + dS w b) % 2 = sx at *
  by_cases h0 : dG w a = 0
  · simp only [if_pos h0, z0, z1, not_true_eq_false, not_false_eq_true, if_true, if_false]
    rw [za.mpr h0, Nat.zero_mul, mg_0]
    exact congrArg some (v_signed hK (x := 0) (by omega) hsx)
  · by_cases h1 : dG w b = 0
    · simp only [if_neg h0, if_pos h1, z0, z1, not_true_eq_false, not_false_eq_true, if_true, if_false]
      rw [zb.mpr h1, Nat.mul_zero, mg_0]
      exact congrArg some (v_signed hK (x := 0) (by omega) hsx)
    · simp only [if_neg h0, if_neg h1, z0, not_true_eq_false, if_true, if_false]
      have na : dM f w a ≠ 0 := fun z => h0 (za.mp z)
      have nb : dM f w b ≠ 0 := fun z => h1 (zb.mp z)
      rw [v_aligned hK hn ha na, v_aligned hK hn hb nb, v_alignedPower hK hn ha na, v_alignedPower hK hn hb nb]
      simp only [Option.bind_some]
      obtain ⟨A1, A2⟩ := al_b na (by omega)
      obtain ⟨B1, B2⟩ := al_b nb (by omega)
      have la := bl_pos na
      have lb := bl_pos nb
      have hA : dM f w a * 2 ^ (63 - bl (dM f w a)) * (dM f w b * 2 ^ (63 - bl (dM f w b))) = dM f w a * dM f w b * 2 ^ (63 - bl (dM f w a) + (63 - bl (dM f w b))) := by
        rw [Nat.mul_mul_mul_comm, ← Nat.pow_add]
      generalize hua : 63 - bl (dM f w a) = ua at *
      generalize hub : 63 - bl (dM f w b) = ub at *
      generalize dM f w a * 2 ^ ua = L at *
      generalize dM f w b * 2 ^ ub = R at *
      generalize dP f w lp a = pa at *
      generalize dP f w lp b = pb at *
      have P1 : 2 ^ 62 * 2 ^ 62 ≤ L * R := Nat.mul_le_mul A1 B1
      have P2 : L * R ≤ (2 ^ 63 - 1) * (2 ^ 63 - 1) := Nat.mul_le_mul (by omega) (by omega)
      rw [lN_mul, v_highProduct A2 B2]
      have c9 : lN (L * R) = (0 : Int64) ↔ L * R % 2 ^ 64 = 0 := by
        rw [wb_mod]
        exact lN_z (Nat.mod_lt _ (by decide))
      have e10 : F_Real_jammed (lN (L * R / 2 ^ 64)) (if lN (L * R) = (0 : Int64) then (0 : Int32) else (1 : Int32)) = lN (if L * R % 2 ^ 64 = 0 then L * R / 2 ^ 64 else jo (L * R / 2 ^ 64)) := by
        rw [v_jammed (by omega)]
        by_cases z : L * R % 2 ^ 64 = 0
        · rw [if_pos (c9.mpr z), if_pos rfl, if_pos z]
        · rw [if_neg (fun q => z (c9.mp q)), if_neg (by decide), if_neg z]
      have ep : iZ (pa - ua) + iZ (pb - ub) + (64 : Int32) = iZ (pa + pb - (ua + ub : Nat) + 64) := by
        rw [show (64 : Int32) = iZ 64 from rfl, iZ_add, iZ_add]
        congr 1
        omega
      have hjl := jo_le (L * R / 2 ^ 64)
      have hJ : (if L * R % 2 ^ 64 = 0 then L * R / 2 ^ 64 else jo (L * R / 2 ^ 64)) < 2 ^ 63 := by split <;> omega
      rw [e10, ep, v_rounded hK hn _ (by omega) (by omega) hJ]
      simp only [Option.bind_some]
      have hH : 2 ^ (f + 3) ≤ L * R / 2 ^ 64 := by
        have : 2 ^ (f + 3) ≤ 2 ^ 55 := p2_le (by omega)
        omega
      have hdm := Nat.div_add_mod (L * R) (2 ^ 64)
      have e := mg_jo (f := f) (inf := te * 2 ^ f) (lp := lp) (H := L * R / 2 ^ 64) (k := 64) (r := L * R % 2 ^ 64) (Nat.mod_lt _ (by decide)) (fun _ => hH) (pa + pb - (ua + ub : Nat))
      rw [show L * R / 2 ^ 64 * 2 ^ 64 + L * R % 2 ^ 64 = L * R by omega, hA, mg_scale] at e
      have e' : mg f (te * 2 ^ f) lp (if L * R % 2 ^ 64 = 0 then L * R / 2 ^ 64 else jo (L * R / 2 ^ 64)) (pa + pb - (ua + ub : Nat) + 64) = mg f (te * 2 ^ f) lp (dM f w a * dM f w b) (pa + pb) := by
        rw [hA]
        exact e
      have hle := mg_le f (te * 2 ^ f) lp (dM f w a * dM f w b) (pa + pb)
      rw [e', v_signed hK (by omega) hsx]
end PR
