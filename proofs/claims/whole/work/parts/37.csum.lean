/-! The class's sum of two finite numbers. -/
theorem jo_or (h : Nat) : h ||| 1 = jo h := by
  unfold jo
  have h1 : h / 2 * 2 ||| 1 = h / 2 * 2 + 1 := by
    have := Nat.shiftLeft_add_eq_or_of_lt (i := 1) (b := 1) (by decide) (h / 2)
    rw [Nat.shiftLeft_eq] at this
    exact this.symm
  rcases Nat.mod_two_eq_zero_or_one h with z | z
  · rw [show h / 2 * 2 = h by omega] at h1 ⊢
    exact h1
  · have h2 : h = h / 2 * 2 ||| 1 := by rw [h1]; omega
    calc h ||| 1 = (h / 2 * 2 ||| 1) ||| 1 := by rw [← h2]
      _ = h / 2 * 2 ||| 1 := by rw [Nat.or_assoc, Nat.or_self]
      _ = _ := h1
theorem v_jammed {h : Nat} (hh : h < 2 ^ 63) (b : Int32) : F_Real_jammed (lN h) b = lN (if b = 0 then h else jo h) := by
  unfold F_Real_jammed
  simp only [lt_]
  by_cases z : b = 0
  · rw [if_pos z, if_pos z]
  · rw [if_neg z, if_neg z, ← jo_or]
    exact wb_or (b := 1) (by omega) (by decide)
theorem v_shiftedDown {x d : Nat} (hx : x < 2 ^ 63) (hd : d < 2 ^ 31) : F_Real_shiftedDown (lN x) (nI d) = lN (if x % 2 ^ d = 0 then x / 2 ^ d else jo (x / 2 ^ d)) := by
  unfold F_Real_shiftedDown
  simp only [lt_]
  have hc : nI d ≤ (63 : Int32) ↔ d ≤ 63 := nI_leI (b := 63) hd (by decide)
  by_cases h : d ≤ 63
  · rw [if_pos (hc.mpr h), lN_msk (by omega), wb_mask (by omega) (by omega), wb_shr (by omega) (by omega), v_jammed (Nat.lt_of_le_of_lt (Nat.div_le_self _ _) hx)]
    have hm := Nat.mod_le x (2 ^ d)
    have c : lN (x % 2 ^ d) = (0 : Int64) ↔ x % 2 ^ d = 0 := lN_z (by omega)
    by_cases z : x % 2 ^ d = 0
    · rw [if_pos (c.mpr z), if_pos rfl, if_pos z]
    · rw [if_neg (fun q => z (c.mp q)), if_neg (by decide), if_neg z]
  · have hp : 2 ^ 63 ≤ 2 ^ d := p2_le (by omega)
    rw [if_neg (fun q => h (hc.mp q)), Nat.div_eq_of_lt (by omega), Nat.mod_eq_of_lt (by omega)]
    have e : (0 : Int64) = lN 0 := rfl
    have c : lN x = (0 : Int64) ↔ x = 0 := lN_z (by omega)
    by_cases z : x = 0
    · rw [if_pos (c.mpr z), e, v_jammed (by decide), if_pos rfl, if_pos z]
    · rw [if_neg (fun q => z (c.mp q)), e, v_jammed (by decide), if_neg (by decide), if_neg z]
/-- finite, and what that gives -/
theorem fin_b {f te w : Nat} {lp : Int} (h : fmt f te w lp) {u : Nat} (hf : dG w u < te * 2 ^ f) : dE f w u < te ∧ lp ≤ dP f w lp u ∧ dP f w lp u ≤ lp + te - 2 ∧ (lp < dP f w lp u → 2 ^ f ≤ dM f w u) := by
  have hb := fmt_b h
  have he := dE_le h u
  have h1 := dG_EF (f := f) (w := w) (by omega) u
  have h2 : dE f w u < te := by
    rcases Nat.lt_or_ge (dE f w u) te with z | z
    · exact z
    · have : dE f w u = te := by omega
      rw [this] at h1
      omega
  unfold dP dM
  refine ⟨h2, by omega, by omega, fun h3 => ?_⟩
  rw [if_neg (by omega)]
  omega
/-- the order of magnitudes is the order of powers, then of significands -/
theorem ord_b {f te w : Nat} {lp : Int} (h : fmt f te w lp) {g l : Nat} (ho : dG w l ≤ dG w g) : dP f w lp l ≤ dP f w lp g ∧ (dP f w lp l = dP f w lp g → dM f w l ≤ dM f w g) := by
  have hb := fmt_b h
  have h1 := dG_EF (f := f) (w := w) (by omega) g
  have h2 := dG_EF (f := f) (w := w) (by omega) l
  have h3 := dF_lt f g
  have h4 := dF_lt f l
  have hE : dE f w l ≤ dE f w g := by
    rcases Nat.lt_or_ge (dE f w g) (dE f w l) with z | z
    · have : (dE f w g + 1) * 2 ^ f ≤ dE f w l * 2 ^ f := Nat.mul_le_mul_right _ z
      rw [Nat.add_mul, Nat.one_mul] at this
      omega
    · exact z
  unfold dP dM
  refine ⟨by omega, fun h5 => ?_⟩
  rcases Nat.lt_or_ge (dE f w l) (dE f w g) with z | z
  · have : dE f w l = 0 ∧ dE f w g = 1 := by omega
    rw [if_pos this.1, if_neg (by omega)]
    omega
  · have : dE f w l = dE f w g := by omega
    rw [this] at h2 ⊢
    split <;> omega
theorem jo_le (h : Nat) : jo h ≤ h + 1 ∧ h ≤ jo h := by
  unfold jo
  omega
/-- the significands with nine more places, one shifted down: what stands for the exact sum -/
theorem sum_mg {f te w : Nat} {lp : Int} (hF : fmt f te w lp) {mG mL d : Nat} {pL : Int} (hp : lp ≤ pL) (h1 : mG < 2 ^ (f + 1)) (h2 : mL < 2 ^ (f + 1)) (hn : 0 < d → 2 ^ f ≤ mG) (ho : d = 0 → mL ≤ mG) (same : Bool) (inf : Nat) :
    let low := if mL * 2 ^ 9 % 2 ^ d = 0 then mL * 2 ^ 9 / 2 ^ d else jo (mL * 2 ^ 9 / 2 ^ d)
    let J := if same then mG * 2 ^ 9 + low else mG * 2 ^ 9 - low
    let X := if same then mG * 2 ^ d + mL else mG * 2 ^ d - mL
    low ≤ mG * 2 ^ 9 ∧ J < 2 ^ 63 ∧ (J = 0 ↔ X = 0) ∧ mg f inf lp J (pL + d - 9) = mg f inf lp X pL := by
  have hb := fmt_b hF
  have hps := p2_s f
  have hp53 : 2 ^ (f + 1) ≤ 2 ^ 53 := p2_le (by omega)
  intro low J X
  by_cases hd : d ≤ 9
  · have e9 : 2 ^ 9 = 2 ^ (9 - d) * 2 ^ d := by rw [← Nat.pow_add]; congr 1; omega
    have hpd := p2_pos d
    have hp9 := p2_pos (9 - d)
    have hlow : low = mL * 2 ^ (9 - d) := by
      show (if mL * 2 ^ 9 % 2 ^ d = 0 then mL * 2 ^ 9 / 2 ^ d else jo (mL * 2 ^ 9 / 2 ^ d)) = _
      rw [e9, ← Nat.mul_assoc, Nat.mul_mod_left, if_pos rfl, Nat.mul_div_cancel _ hpd]
    have hG : mG * 2 ^ 9 = mG * 2 ^ d * 2 ^ (9 - d) := by rw [e9, Nat.mul_assoc, Nat.mul_comm (2 ^ d)]
    have hle : mL ≤ mG * 2 ^ d := by
      rcases Nat.eq_zero_or_pos d with z | z
      · have := ho z
        rw [z]
        omega
      · have := hn z
        have : 2 * mG ≤ mG * 2 ^ d := by
          rw [Nat.mul_comm 2]
          exact Nat.mul_le_mul_left _ (by have := p2_le (a := 1) (b := d) z; omega)
        omega
    have hJX : J = X * 2 ^ (9 - d) := by
      show (if same then mG * 2 ^ 9 + low else mG * 2 ^ 9 - low) = (if same then mG * 2 ^ d + mL else mG * 2 ^ d - mL) * 2 ^ (9 - d)
      rw [hlow, hG]
      cases same
      · exact (Nat.sub_mul _ _ _).symm
      · exact (Nat.add_mul _ _ _).symm
    have hlow2 : low ≤ mG * 2 ^ 9 := by
      rw [hlow, hG]
      exact Nat.mul_le_mul_right _ hle
    refine ⟨hlow2, ?_, ?_, ?_⟩
    · show (if same then mG * 2 ^ 9 + low else mG * 2 ^ 9 - low) < 2 ^ 63
      split <;> omega
    · rw [hJX]
      constructor
      · intro z
        rcases Nat.mul_eq_zero.mp z with z | z
        · exact z
        · omega
      · intro z; rw [z, Nat.zero_mul]
    · rw [hJX, show pL + (d : Int) - 9 = pL - ((9 - d : Nat) : Int) by omega]
      exact mg_scale f inf lp X (9 - d) pL
  · have hmG := hn (by omega)
    obtain ⟨k, rfl⟩ : ∃ k, d = 9 + k := ⟨d - 9, by omega⟩
    have ed : 2 ^ (9 + k) = 2 ^ 9 * 2 ^ k := Nat.pow_add 2 9 k
    have hpk := p2_pos k
    have hk1 : 2 ^ 1 ≤ 2 ^ k := p2_le (by omega)
    have dv : mL * 2 ^ 9 / 2 ^ (9 + k) = mL / 2 ^ k := by
      rw [ed, Nat.mul_comm mL]
      exact Nat.mul_div_mul_left _ _ (by decide)
    have md : mL * 2 ^ 9 % 2 ^ (9 + k) = 2 ^ 9 * (mL % 2 ^ k) := by
      rw [ed, Nat.mul_comm mL]
      exact Nat.mul_mod_mul_left _ _ _
    have hdm := Nat.div_add_mod mL (2 ^ k)
    have hr := Nat.mod_lt mL hpk
    have hh : mL / 2 ^ k ≤ mL := Nat.div_le_self _ _
    have hlowd : low = if mL % 2 ^ k = 0 then mL / 2 ^ k else jo (mL / 2 ^ k) := by
      show (if mL * 2 ^ 9 % 2 ^ (9 + k) = 0 then mL * 2 ^ 9 / 2 ^ (9 + k) else jo (mL * 2 ^ 9 / 2 ^ (9 + k))) = _
      rw [dv, md]
      by_cases z : mL % 2 ^ k = 0
      · rw [if_pos z, z, Nat.mul_zero, if_pos rfl]
      · rw [if_neg z, if_neg (by omega)]
    have hGX : mG * 2 ^ (9 + k) = mG * 2 ^ 9 * 2 ^ k := by rw [ed, Nat.mul_assoc]
    generalize hq : mL / 2 ^ k = q at *
    generalize hrr : mL % 2 ^ k = r at *
    have hjo := jo_le q
    have hlow2 : low ≤ q + 1 := by rw [hlowd]; split <;> omega
    have hbig : 2 ^ 9 * 2 ^ k ≤ 2 ^ 9 * 2 ^ k := Nat.le_refl _
    have hGbig : 2 * mL + 2 ^ (k + 9) ≤ mG * 2 ^ 9 * 2 ^ k := by
      have a1 : 2 ^ 9 * 2 ^ 1 ≤ 2 ^ 9 * 2 ^ k := Nat.mul_le_mul_left _ hk1
      have a2 : mG * (2 ^ 9 * 2 ^ 1) ≤ mG * (2 ^ 9 * 2 ^ k) := Nat.mul_le_mul_left _ a1
      have a3 : 2 ^ f * (2 ^ 9 * 2 ^ k) ≤ mG * (2 ^ 9 * 2 ^ k) := Nat.mul_le_mul_right _ hmG
      have a4 : 2 * (2 ^ 9 * 2 ^ k) ≤ 2 ^ f * (2 ^ 9 * 2 ^ k) := Nat.mul_le_mul_right _ (by have := p2_le (a := 1) (b := f) (by omega); omega)
      rw [Nat.mul_assoc, Nat.add_comm k 9, ed]
      omega
    have hX1 : 2 ^ (f + k + 8) ≤ X := by
      show 2 ^ (f + k + 8) ≤ if same then mG * 2 ^ (9 + k) + mL else mG * 2 ^ (9 + k) - mL
      have a3 : 2 ^ f * (2 ^ 9 * 2 ^ k) ≤ mG * (2 ^ 9 * 2 ^ k) := Nat.mul_le_mul_right _ hmG
      have a5 : 2 ^ (f + k + 8) * 2 = 2 ^ f * (2 ^ 9 * 2 ^ k) := by
        rw [← Nat.pow_succ, ← Nat.pow_add, ← Nat.pow_add]
        congr 1
        omega
      have a6 : 2 ^ (f + 1) ≤ 2 ^ (f + k + 8) := p2_le (by omega)
      rw [hGX, Nat.mul_assoc]
      split <;> omega
    have hjm : jm X k J := by
      show jm (if same then mG * 2 ^ (9 + k) + mL else mG * 2 ^ (9 + k) - mL) k (if same then mG * 2 ^ 9 + low else mG * 2 ^ 9 - low)
      rw [hlowd, hGX]
      cases same
      · simp only [Bool.false_eq_true, if_false]
        by_cases z : r = 0
        · rw [if_pos z]
          have e : mG * 2 ^ 9 * 2 ^ k - mL = (mG * 2 ^ 9 - q) * 2 ^ k := by
            rw [Nat.sub_mul, Nat.mul_comm q]
            omega
          rw [e]
          exact jm_exact _ _
        · rw [if_neg z]
          have hqlt : q + 1 ≤ mG * 2 ^ 9 := by omega
          have e : mG * 2 ^ 9 * 2 ^ k - mL = (mG * 2 ^ 9 - q - 1) * 2 ^ k + (2 ^ k - r) := by
            rw [Nat.sub_mul, Nat.sub_mul, Nat.one_mul, Nat.mul_comm q]
            have : 2 ^ k * q + 2 ^ k ≤ mG * 2 ^ 9 * 2 ^ k := by
              have := Nat.mul_le_mul_right (2 ^ k) hqlt
              rw [Nat.add_mul, Nat.one_mul, Nat.mul_comm q] at this
              exact this
            omega
          rw [e]
          have h3 := jm_odd (H := mG * 2 ^ 9 - q - 1) (k := k) (r := 2 ^ k - r) (by omega) (by omega)
          have e2 : jo (mG * 2 ^ 9 - q - 1) = mG * 2 ^ 9 - jo q := by
            unfold jo
            omega
          rw [e2] at h3
          exact h3
      · simp only [if_true]
        by_cases z : r = 0
        · rw [if_pos z]
          have e : mG * 2 ^ 9 * 2 ^ k + mL = (mG * 2 ^ 9 + q) * 2 ^ k := by
            rw [Nat.add_mul, Nat.mul_comm q]
            omega
          rw [e]
          exact jm_exact _ _
        · rw [if_neg z]
          have e : mG * 2 ^ 9 * 2 ^ k + mL = (mG * 2 ^ 9 + q) * 2 ^ k + r := by
            rw [Nat.add_mul, Nat.mul_comm q]
            omega
          rw [e]
          have h3 := jm_odd (H := mG * 2 ^ 9 + q) (k := k) (r := r) (by omega) (by omega)
          have e2 : jo (mG * 2 ^ 9 + q) = mG * 2 ^ 9 + jo q := by
            unfold jo
            omega
          rw [e2] at h3
          exact h3
    have hXk : 2 ^ (k + 1) ≤ X := Nat.le_trans (p2_le (by omega)) hX1
    have hbl := bl_gt hX1
    have hJ0 : J ≠ 0 := by
      intro z
      have := jm_bl hjm hXk
      rw [z, bl_0] at this
      omega
    refine ⟨by omega, ?_, ⟨fun z => absurd z hJ0, fun z => ?_⟩, ?_⟩
    · show (if same then mG * 2 ^ 9 + low else mG * 2 ^ 9 - low) < 2 ^ 63
      split <;> omega
    · have := p2_pos (f + k + 8)
      omega
    · have := mg_jam (f := f) (inf := inf) (lp := lp) (e := pL) hjm hXk (by unfold mgS; omega)
      rw [this]
      congr 1
      omega
