/-! What the bits say: sign, exponent, fraction, significand, power; the class's words for them. -/
def dG (w u : Nat) : Nat := u % 2 ^ w
def dS (w u : Nat) : Nat := u / 2 ^ w % 2
def dE (f w u : Nat) : Nat := u % 2 ^ w / 2 ^ f
def dF (f u : Nat) : Nat := u % 2 ^ f
def dM (f w u : Nat) : Nat := if dE f w u = 0 then dF f u else dF f u + 2 ^ f
def dP (f w : Nat) (lp : Int) (u : Nat) : Int := lp + (max (dE f w u) 1 : Nat) - 1
def fmt (f te w : Nat) (lp : Int) : Prop := (f = 23 ∧ te = 255 ∧ w = 31 ∧ lp = -149) ∨ (f = 52 ∧ te = 2047 ∧ w = 63 ∧ lp = -1074)
theorem kS_fmt {K : rK} {f te w : Nat} {lp : Int} (h : kS K f te w lp) : fmt f te w lp := h.2
theorem mSg_fmt {sgl : Int32} {f te w : Nat} {lp : Int} (h : mSg sgl f te w lp) : fmt f te w lp := by
  rcases h with ⟨-, h⟩ | ⟨-, h⟩
  · exact Or.inl h
  · exact Or.inr h
theorem fmt_b {f te w : Nat} {lp : Int} (h : fmt f te w lp) : 23 ≤ f ∧ f ≤ 52 ∧ 255 ≤ te ∧ te ≤ 2047 ∧ -1074 ≤ lp ∧ lp ≤ -149 ∧ f < w ∧ w ≤ 63 ∧ w - f ≤ 11 ∧ te + 1 = 2 ^ (w - f) := by
  rcases h with ⟨rfl, rfl, rfl, rfl⟩ | ⟨rfl, rfl, rfl, rfl⟩ <;> decide
theorem fmt_inf {f te w : Nat} {lp : Int} (h : fmt f te w lp) : te * 2 ^ f + 2 ^ f = 2 ^ w := by
  have hb := fmt_b h
  rw [← Nat.succ_mul, Nat.succ_eq_add_one, hb.2.2.2.2.2.2.2.2.2, ← Nat.pow_add]
  congr 1
  omega
/-- magnitude by exponent and fraction -/
theorem dG_EF {f w : Nat} (h : f ≤ w) (u : Nat) : dG w u = dE f w u * 2 ^ f + dF f u := by
  have h1 := Nat.div_add_mod (u % 2 ^ w) (2 ^ f)
  have h2 : u % 2 ^ w % 2 ^ f = u % 2 ^ f := Nat.mod_mod_of_dvd _ (Nat.pow_dvd_pow 2 h)
  unfold dG dE dF
  rw [h2, Nat.mul_comm] at h1
  omega
theorem dE_le {f te w : Nat} {lp : Int} (h : fmt f te w lp) (u : Nat) : dE f w u ≤ te := by
  have hb := fmt_b h
  have h1 : u % 2 ^ w < 2 ^ f * 2 ^ (w - f) := by
    rw [← Nat.pow_add, show f + (w - f) = w by omega]
    exact Nat.mod_lt _ (p2_pos w)
  have h2 : u % 2 ^ w / 2 ^ f < 2 ^ (w - f) := Nat.div_lt_of_lt_mul h1
  unfold dE
  omega
theorem dF_lt (f u : Nat) : dF f u < 2 ^ f := Nat.mod_lt _ (p2_pos f)
theorem dM_lt (f w u : Nat) : dM f w u < 2 ^ (f + 1) := by
  have := dF_lt f u
  have := p2_s f
  unfold dM
  split <;> omega
theorem dM_0 {f w : Nat} (h : f ≤ w) (u : Nat) : dM f w u = 0 ↔ dG w u = 0 := by
  have h1 := dG_EF h u
  have h2 := p2_pos f
  unfold dM
  by_cases he : dE f w u = 0
  · rw [if_pos he]
    rw [he, Nat.zero_mul] at h1
    omega
  · rw [if_neg he]
    have : 2 ^ f ≤ dE f w u * 2 ^ f := Nat.le_mul_of_pos_left _ (by omega)
    omega
section DC
variable {K : rK} {f te w : Nat} {lp : Int}
theorem v_magnitude (hK : kS K f te w lp) {u : Nat} (hu : u < 2 ^ 64) : F_Real_magnitude K (lN u) = lN (dG w u) := by
  have hb := fmt_b (kS_fmt hK)
  obtain ⟨rfl, -⟩ := hK
  unfold F_Real_magnitude dG
  have e : lN (2 ^ w) - (1 : Int64) = lN (2 ^ w - 1) := lN_sub (a := 2 ^ w) (b := 1) (p2_pos w)
  show lN u &&& (lN (2 ^ w) - 1) = _
  rw [e]
  exact wb_mask hu (by omega)
theorem v_exponent (hK : kS K f te w lp) {u : Nat} (hu : u < 2 ^ 64) : F_Real_exponent K (lN u) = nI (dE f w u) := by
  have hb := fmt_b (kS_fmt hK)
  have hc := kS_fmt hK
  obtain ⟨rfl, -⟩ := hK
  unfold F_Real_exponent dE
  show ((lN u).toUInt64 >>> ((nI f).toInt64.toUInt64 &&& Int64.toUInt64 63)).toInt64.toInt32 &&& nI te = _
  rw [wb_shr hu (by omega), lN_i]
  have ht : (nI te).toBitVec.toNat = 2 ^ (w - f) - 1 := by
    rw [pk_tn (by omega)]
    omega
  rw [pk_and _ (w - f) ht]
  have h1 : (nI (u / 2 ^ f)).toBitVec.toNat = u / 2 ^ f % 2 ^ 32 := BitVec.toNat_ofNat ..
  rw [h1, Nat.mod_mod_of_dvd _ (Nat.pow_dvd_pow 2 (by omega))]
  have h2 : u % (2 ^ f * 2 ^ (w - f)) / 2 ^ f = u / 2 ^ f % 2 ^ (w - f) := Nat.mod_mul_right_div_self ..
  rw [← Nat.pow_add, show f + (w - f) = w by omega] at h2
  rw [h2]
theorem v_fraction (hK : kS K f te w lp) {u : Nat} (hu : u < 2 ^ 64) : F_Real_fraction K (lN u) = lN (dF f u) := by
  have hb := fmt_b (kS_fmt hK)
  obtain ⟨rfl, -⟩ := hK
  unfold F_Real_fraction dF
  show lN u &&& (((1 : Int64) <<< ((nI f).toInt64 &&& 63)) - (1 : Int64)) = _
  rw [lN_msk (by omega)]
  exact wb_mask hu (by omega)
theorem nI_z {a : Nat} (h : a < 2 ^ 31) : nI a = 0 ↔ a = 0 := nI_eq (b := 0) h (by decide)
theorem v_significand (hK : kS K f te w lp) {u : Nat} (hu : u < 2 ^ 64) : F_Real_significand K (lN u) = lN (dM f w u) := by
  have hb := fmt_b (kS_fmt hK)
  have he := dE_le (kS_fmt hK) u
  have h1 := v_exponent hK hu
  have h2 := v_fraction hK hu
  have h3 := dF_lt f u
  have hp : 2 ^ (f + 1) ≤ 2 ^ 53 := p2_le (by omega)
  have hs := p2_s f
  unfold F_Real_significand dM
  simp only [lt_]
  rw [h1, h2]
  obtain ⟨rfl, -⟩ := hK
  show (if ¬ nI (dE f w u) = 0 then lN (dF f u) ||| ((1 : Int64) <<< ((nI f).toInt64 &&& 63)) else lN (dF f u)) = _
  by_cases h : dE f w u = 0
  · rw [if_neg (not_not_intro ((nI_z (by omega)).mpr h)), if_pos h]
  · rw [if_pos (fun z => h ((nI_z (by omega)).mp z)), if_neg h, lN_shl1 (by omega)]
    have := g_or' (k := f) (p := 2 ^ f) (a := dF f u) (b := 1) rfl h3 (by omega)
    rw [Nat.one_mul] at this
    exact this
theorem v_power (hK : kS K f te w lp) {u : Nat} (hu : u < 2 ^ 64) : F_Real_power K (lN u) = iZ (dP f w lp u) := by
  have hb := fmt_b (kS_fmt hK)
  have he := dE_le (kS_fmt hK) u
  have h1 := v_exponent hK hu
  unfold F_Real_power dP
  rw [h1]
  obtain ⟨rfl, -⟩ := hK
  show (iZ lp + (if nI (dE f w u) < (1 : Int32) then (1 : Int32) else nI (dE f w u))) - (1 : Int32) = _
  have hc : nI (dE f w u) < (1 : Int32) ↔ dE f w u < 1 := nI_ltI (b := 1) (by omega) (by decide)
  by_cases h : dE f w u < 1
  · rw [if_pos (hc.mpr h), show (1 : Int32) = iZ 1 from rfl, iZ_add, iZ_sub]
    congr 1
    omega
  · rw [if_neg (fun z => h (hc.mp z)), ← iZ_nI, show (1 : Int32) = iZ 1 from rfl, iZ_add, iZ_sub]
    congr 1
    omega
theorem v_isNegative (hK : kS K f te w lp) {u : Nat} (hu : u < 2 ^ 64) : F_Real_isNegative K (lN u) = nI (dS w u) := by
  have hb := fmt_b (kS_fmt hK)
  obtain ⟨rfl, -⟩ := hK
  unfold F_Real_isNegative dS
  simp only [lt_]
  show (if lN u &&& lN (2 ^ w) = (0 : Int64) then (0 : Int32) else (1 : Int32)) = _
  have hw : 2 ^ w ≤ 2 ^ 63 := p2_le (by omega)
  rw [wb_and hu (by omega)]
  have h1 : u &&& 2 ^ w = u / 2 ^ w % 2 * 2 ^ w := by
    have ht : u.testBit w = decide (u / 2 ^ w % 2 = 1) := Nat.testBit_eq_decide_div_mod_eq
    apply Nat.eq_of_testBit_eq
    intro i
    rw [Nat.testBit_and, Nat.testBit_two_pow]
    rcases Nat.mod_two_eq_zero_or_one (u / 2 ^ w) with z | z
    · rw [z] at ht ⊢
      rw [Nat.zero_mul, Nat.zero_testBit]
      by_cases h : w = i
      · subst h; simp [ht]
      · simp [h]
    · rw [z] at ht ⊢
      rw [Nat.one_mul, Nat.testBit_two_pow]
      by_cases h : w = i
      · subst h; simp [ht]
      · simp [h]
  rw [h1]
  rcases Nat.mod_two_eq_zero_or_one (u / 2 ^ w) with z | z
  · rw [z, Nat.zero_mul, if_pos (by rfl)]
    rfl
  · rw [z, Nat.one_mul, if_neg]
    · rfl
    · intro q
      have := (lN_z (by omega)).mp q
      have := p2_pos w
      omega
theorem inf_lt (h : fmt f te w lp) : te * 2 ^ f < 2 ^ 63 ∧ 2 ^ w ≤ 2 ^ 63 := by
  have hb := fmt_b h
  have h1 := fmt_inf h
  have h2 := p2_pos f
  have hw : 2 ^ w ≤ 2 ^ 63 := p2_le (by omega)
  omega
theorem dG_lt (w u : Nat) : dG w u < 2 ^ w := Nat.mod_lt _ (p2_pos w)
theorem v_isNan (hK : kS K f te w lp) {u : Nat} (hu : u < 2 ^ 64) : F_Real_isNan K (lN u) = if te * 2 ^ f < dG w u then 1 else 0 := by
  have h1 := v_magnitude hK hu
  have hi := inf_lt (kS_fmt hK)
  have hg := dG_lt w u
  unfold F_Real_isNan
  simp only [lt_]
  rw [h1]
  obtain ⟨rfl, -⟩ := hK
  show (if lN (dG w u) ≤ lN (te * 2 ^ f) then (0 : Int32) else (1 : Int32)) = _
  have hc : lN (dG w u) ≤ lN (te * 2 ^ f) ↔ dG w u ≤ te * 2 ^ f := pk_lLE (by omega) (by omega)
  by_cases h : te * 2 ^ f < dG w u
  · rw [if_neg (fun z => by have := hc.mp z; omega), if_pos h]
  · rw [if_pos (hc.mpr (by omega)), if_neg h]
theorem v_isInfinite (hK : kS K f te w lp) {u : Nat} (hu : u < 2 ^ 64) : F_Real_isInfinite K (lN u) = if dG w u = te * 2 ^ f then 1 else 0 := by
  have h1 := v_magnitude hK hu
  have hi := inf_lt (kS_fmt hK)
  have hg := dG_lt w u
  unfold F_Real_isInfinite
  simp only [lt_]
  rw [h1]
  obtain ⟨rfl, -⟩ := hK
  have hc : lN (dG w u) = lN (te * 2 ^ f) ↔ dG w u = te * 2 ^ f := pk_lEQ (by omega) (by omega)
  by_cases h : dG w u = te * 2 ^ f
  · rw [if_pos h]
    have := hc.mpr h
    simp [this]
  · rw [if_neg h]
    have : ¬ lN (dG w u) = lN (te * 2 ^ f) := fun z => h (hc.mp z)
    simp [this]
theorem v_isZero (hK : kS K f te w lp) {u : Nat} (hu : u < 2 ^ 64) : F_Real_isZero K (lN u) = if dG w u = 0 then 1 else 0 := by
  have h1 := v_magnitude hK hu
  have hi := inf_lt (kS_fmt hK)
  have hg := dG_lt w u
  unfold F_Real_isZero
  simp only [lt_]
  rw [h1]
  have hc : lN (dG w u) = 0 ↔ dG w u = 0 := lN_z (by omega)
  by_cases h : dG w u = 0
  · rw [if_pos h]
    have := hc.mpr h
    simp [this]
  · rw [if_neg h]
    have : ¬ lN (dG w u) = 0 := fun z => h (hc.mp z)
    simp [this]
end DC
