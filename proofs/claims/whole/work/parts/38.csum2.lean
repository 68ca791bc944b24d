/-! The class's sum, in bits. -/
theorem mg_0 (f inf : Nat) (lp e : Int) : mg f inf lp 0 e = 0 := if_pos rfl
theorem mg_le (f inf : Nat) (lp : Int) (N : Nat) (e : Int) : mg f inf lp N e ≤ inf := by
  unfold mg
  split <;> omega
theorem v_signed {K : rK} {f te w : Nat} {lp : Int} (hK : kS K f te w lp) {x s : Nat} (hx : x < 2 ^ w) (hs : s ≤ 1) : F_Real_signed K (nI s) (lN x) = lN (x + s * 2 ^ w) := by
  have hi := inf_lt (kS_fmt hK)
  obtain ⟨rfl, -⟩ := hK
  unfold F_Real_signed
  simp only [lt_]
  rcases (by omega : s = 0 ∨ s = 1) with z | z
  · subst z
    rw [if_pos (by rfl), Nat.zero_mul, Nat.add_zero]
  · subst z
    rw [if_neg (by decide)]
    show lN x ||| lN (2 ^ w) = _
    have := g_or' (k := w) (p := 2 ^ w) (a := x) (b := 1) rfl hx (by omega)
    rw [Nat.one_mul] at this ⊢
    exact this
theorem v_sgnM {sgl : Int32} {f te w : Nat} {lp : Int} (hM : mSg sgl f te w lp) {x s : Nat} (hx : x < 2 ^ w) (hs : s ≤ 1) : lN x ||| F_Md_sign (nI s) sgl = lN (x + s * 2 ^ w) := by
  have hi := inf_lt (mSg_fmt hM)
  have h1 : F_Md_sign (nI s) sgl = lN (s * 2 ^ w) := by
    rcases (by omega : s = 0 ∨ s = 1) with z | z
    · subst z
      rcases hM with ⟨rfl, rfl, rfl, rfl, rfl⟩ | ⟨rfl, rfl, rfl, rfl, rfl⟩ <;> rfl
    · subst z
      rcases hM with ⟨rfl, rfl, rfl, rfl, rfl⟩ | ⟨rfl, rfl, rfl, rfl, rfl⟩ <;> rfl
  rw [h1]
  have hsw : s * 2 ^ w ≤ 1 * 2 ^ w := Nat.mul_le_mul_right _ hs
  exact g_or' (k := w) (p := 2 ^ w) (a := x) (b := s) rfl hx (by omega)
/-- the sum of two finite numbers, in bits -/
def sumR (f te w : Nat) (lp : Int) (s1 m1 : Nat) (p1 : Int) (s2 m2 : Nat) (p2 : Int) : Nat :=
  if s1 = s2 then mg f (te * 2 ^ f) lp (m1 * 2 ^ (p1 - min p1 p2).toNat + m2 * 2 ^ (p2 - min p1 p2).toNat) (min p1 p2) + s1 * 2 ^ w
  else if m1 * 2 ^ (p1 - min p1 p2).toNat = m2 * 2 ^ (p2 - min p1 p2).toNat then 0
  else if m2 * 2 ^ (p2 - min p1 p2).toNat < m1 * 2 ^ (p1 - min p1 p2).toNat then mg f (te * 2 ^ f) lp (m1 * 2 ^ (p1 - min p1 p2).toNat - m2 * 2 ^ (p2 - min p1 p2).toNat) (min p1 p2) + s1 * 2 ^ w
  else mg f (te * 2 ^ f) lp (m2 * 2 ^ (p2 - min p1 p2).toNat - m1 * 2 ^ (p1 - min p1 p2).toNat) (min p1 p2) + s2 * 2 ^ w
theorem sumR_comm (f te w : Nat) (lp : Int) (s1 m1 : Nat) (p1 : Int) (s2 m2 : Nat) (p2 : Int) : sumR f te w lp s1 m1 p1 s2 m2 p2 = sumR f te w lp s2 m2 p2 s1 m1 p1 := by
  unfold sumR
  rw [Int.min_comm p2 p1]
  generalize m1 * 2 ^ (p1 - min p1 p2).toNat = a
  generalize m2 * 2 ^ (p2 - min p1 p2).toNat = b
  by_cases h : s1 = s2
  · rw [if_pos h, if_pos h.symm, h, Nat.add_comm a b]
  · rw [if_neg h, if_neg (show ¬ s2 = s1 from fun z => h z.symm)]
    rcases Nat.lt_trichotomy a b with z | z | z
    · rw [if_neg (show ¬ a = b by omega), if_neg (show ¬ b < a by omega), if_neg (show ¬ b = a by omega), if_pos z]
    · rw [if_pos z, if_pos z.symm]
    · rw [if_neg (show ¬ a = b by omega), if_pos z, if_neg (show ¬ b = a by omega), if_neg (show ¬ a < b by omega)]
theorem dS_le (w u : Nat) : dS w u ≤ 1 := by
  unfold dS
  omega
theorem v_orderedSum {K : rK} {f te w : Nat} {lp : Int} (hK : kS K f te w lp) {n : Nat} (hn : 6 < n) {g l : Nat} (hg : g < 2 ^ 64) (hl : l < 2 ^ 64) (fg : dG w g < te * 2 ^ f) (fl : dG w l < te * 2 ^ f) (ho : dG w l ≤ dG w g) :
    F_Real_orderedSum n K (lN g) (lN l) = some (lN (sumR f te w lp (dS w g) (dM f w g) (dP f w lp g) (dS w l) (dM f w l) (dP f w lp l))) := by
  have hF := kS_fmt hK
  have hb := fmt_b hF
  obtain ⟨-, g1, g2, g3⟩ := fin_b hF fg
  obtain ⟨-, l1, l2, l3⟩ := fin_b hF fl
  obtain ⟨o1, o2⟩ := ord_b hF ho
  have mg1 := dM_lt f w g
  have ml1 := dM_lt f w l
  have sg := dS_le w g
  have sl := dS_le w l
  have hp53 : 2 ^ (f + 1) ≤ 2 ^ 53 := p2_le (by omega)
  have hi := inf_lt hF
  have hinf := fmt_inf hF
  have hpf := p2_pos f
  unfold F_Real_orderedSum
  simp only [lt_]
  rw [v_isNegative hK hg, v_isNegative hK hl, v_significand hK hg, v_significand hK hl, v_power hK hg, v_power hK hl]
  generalize dS w g = sG at *
  generalize dS w l = sL at *
  generalize dM f w g = mG at *
  generalize dM f w l = mL at *
  generalize dP f w lp g = pG at *
  generalize dP f w lp l = pL at *
  obtain ⟨d, hd⟩ : ∃ d : Nat, pG = pL + d := ⟨(pG - pL).toNat, by omega⟩
  have e2 : lN mG <<< (((9 : Int32)).toInt64 &&& 63) = lN (mG * 2 ^ 9) := wb_shl mG (k := 9) (by decide)
  have e2' : lN mL <<< (((9 : Int32)).toInt64 &&& 63) = lN (mL * 2 ^ 9) := wb_shl mL (k := 9) (by decide)
  have e3 : iZ pG - iZ pL = nI d := by
    rw [iZ_sub, ← iZ_nI]
    congr 1
    omega
  have e9 : iZ pG - (9 : Int32) = iZ (pL + d - 9) := by
    rw [show (9 : Int32) = iZ 9 from rfl, iZ_sub]
    congr 1
    omega
  have cS : nI sG = nI sL ↔ sG = sL := nI_eq (by omega) (by omega)
  have cG : nI sG = 0 ↔ sG = 0 := nI_z (by omega)
  rw [e2, e2', e3, e9, v_shiftedDown (by omega) (by omega)]
  obtain ⟨hlow, hJ, hJ0, hmg⟩ := sum_mg hF (pL := pL) l1 mg1 ml1 (d := d) (fun z => g3 (by omega)) (fun z => o2 (by omega)) (decide (sG = sL)) (te * 2 ^ f)
  generalize hlw : (if mL * 2 ^ 9 % 2 ^ d = 0 then mL * 2 ^ 9 / 2 ^ d else jo (mL * 2 ^ 9 / 2 ^ d)) = low at *
  have hmin : min pG pL = pL := by omega
  unfold sumR
  rw [hmin, show (pG - pL).toNat = d by omega, show (pL - pL).toNat = 0 by omega, Nat.pow_zero, Nat.mul_one]
  by_cases hs : sG = sL
  · have hsD : decide (sG = sL) = true := by simp [hs]
    rw [hsD] at hJ hJ0 hmg
    simp only [if_true] at hJ hJ0 hmg
    rw [if_neg (not_not_intro (cS.mpr hs)), if_neg (show ¬ (1 : Int32) = 0 by decide), if_pos hs, lN_add]
    have esg : (if nI sG = 0 then (0 : Int32) else if ¬ (1 : Int32) = 0 then (1 : Int32) else if lN (mG * 2 ^ 9 + low) = (0 : Int64) then (0 : Int32) else (1 : Int32)) = nI sG := by
      by_cases z : sG = 0
      · rw [if_pos (cG.mpr z), z]; rfl
      · rw [if_neg (fun q => z (cG.mp q)), if_pos (by decide), show sG = 1 by omega]; rfl
    rw [esg, v_rounded hK hn _ (by omega) (by omega) hJ, hmg]
    simp only [Option.bind_some]
    have hle := mg_le f (te * 2 ^ f) lp (mG * 2 ^ d + mL) pL
    rw [v_signed hK (by omega) sg]
  · have hsD : decide (sG = sL) = false := by simp [hs]
    rw [hsD] at hJ hJ0 hmg
    simp only [Bool.false_eq_true, if_false] at hJ hJ0 hmg
    rw [if_pos (show ¬ nI sG = nI sL from fun q => hs (cS.mp q)), if_pos (show (0 : Int32) = 0 from rfl), if_neg hs, lN_sub hlow]
    have c4 : lN (mG * 2 ^ 9 - low) = (0 : Int64) ↔ mG * 2 ^ 9 - low = 0 := lN_z (by omega)
    have hdle : mL ≤ mG * 2 ^ d := by
      rcases Nat.eq_zero_or_pos d with z | z
      · have := o2 (by omega)
        rw [z]
        omega
      · have := g3 (by omega)
        have : 2 * mG ≤ mG * 2 ^ d := by
          rw [Nat.mul_comm 2]
          exact Nat.mul_le_mul_left _ (by have := p2_le (a := 1) (b := d) z; omega)
        have := p2_s f
        omega
    have hle := mg_le f (te * 2 ^ f) lp (mG * 2 ^ d - mL) pL
    by_cases hx : mG * 2 ^ d = mL
    · have hz : mG * 2 ^ d - mL = 0 := by omega
      have hz2 := hJ0.mpr hz
      have esg : (if nI sG = 0 then (0 : Int32) else if ¬ (0 : Int32) = 0 then (1 : Int32) else if lN (mG * 2 ^ 9 - low) = (0 : Int64) then (0 : Int32) else (1 : Int32)) = nI 0 := by
        by_cases z : sG = 0
        · rw [if_pos (cG.mpr z)]; rfl
        · rw [if_neg (fun q => z (cG.mp q)), if_neg (by decide), if_pos (c4.mpr hz2)]; rfl
      rw [esg, v_rounded hK hn _ (by omega) (by omega) hJ, hmg, if_pos hx]
      simp only [Option.bind_some]
      rw [v_signed hK (by omega) (by omega), hz, mg_0, Nat.zero_mul]
    · have hz : ¬ mG * 2 ^ 9 - low = 0 := fun q => by have := hJ0.mp q; omega
      have esg : (if nI sG = 0 then (0 : Int32) else if ¬ (0 : Int32) = 0 then (1 : Int32) else if lN (mG * 2 ^ 9 - low) = (0 : Int64) then (0 : Int32) else (1 : Int32)) = nI sG := by
        by_cases z : sG = 0
        · rw [if_pos (cG.mpr z), z]; rfl
        · rw [if_neg (fun q => z (cG.mp q)), if_neg (by decide), if_neg (fun q => hz (c4.mp q)), show sG = 1 by omega]; rfl
      rw [esg, v_rounded hK hn _ (by omega) (by omega) hJ, hmg, if_neg hx, if_pos (by omega)]
      simp only [Option.bind_some]
      rw [v_signed hK (by omega) sg]
theorem v_sum_fin {K : rK} {f te w : Nat} {lp : Int} (hK : kS K f te w lp) {n : Nat} (hn : 6 < n) {a b : Nat} (ha : a < 2 ^ 64) (hb : b < 2 ^ 64) (fa : dG w a < te * 2 ^ f) (fb : dG w b < te * 2 ^ f) :
    F_Real_sum n K (lN a) (lN b) = some (lN (sumR f te w lp (dS w a) (dM f w a) (dP f w lp a) (dS w b) (dM f w b) (dP f w lp b))) := by
  have hi := inf_lt (kS_fmt hK)
  unfold F_Real_sum
  simp only [lt_]
  rw [v_isInfinite hK ha, v_isInfinite hK hb, v_magnitude hK ha, v_magnitude hK hb, if_neg (by omega : ¬ dG w a = te * 2 ^ f), if_neg (by omega : ¬ dG w b = te * 2 ^ f), if_neg (by decide), if_pos rfl]
  have hc : lN (dG w b) ≤ lN (dG w a) ↔ dG w b ≤ dG w a := pk_lLE (by omega) (by omega)
  by_cases h : dG w b ≤ dG w a
  · rw [if_pos (hc.mpr h), v_orderedSum hK hn ha hb fa fb h]
    rfl
  · rw [if_neg (fun z => h (hc.mp z)), v_orderedSum hK hn hb ha fb fa (by omega), sumR_comm]
    rfl
