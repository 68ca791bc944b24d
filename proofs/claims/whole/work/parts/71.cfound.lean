/-! The decimal found (class): powers of ten, ends, zeros dropped. -/
/-- log10 of 2^h, without what is behind the point: as the class reckons it -/
def lgt (h : Int) : Int := h * 661971961083 / 2199023255552
theorem lg_dec : ∀ i : Nat, i < 2100 → (((iZ ((i : Int) - 1075)).toInt64 * (661971961083 : Int64)) >>> ((41 : Int32).toInt64 &&& 63)).toInt32 = iZ (lgt ((i : Int) - 1075)) := by decide +kernel
theorem lg_dec2 : ∀ i : Nat, i < 2100 → 10 ^ (lgt ((i : Int) - 1075) + 400).toNat * 2 ^ 1400 ≤ 2 ^ (i + 325) * 10 ^ 400 ∧ 2 ^ (i + 325) * 10 ^ 400 < 10 ^ (lgt ((i : Int) - 1075) + 401).toNat * 2 ^ 1400 ∧ -330 < lgt ((i : Int) - 1075) ∧ lgt ((i : Int) - 1075) < 310 := by decide +kernel
theorem lg_a {h : Int} (h1 : -1075 ≤ h) (h2 : h < 1025) : (((iZ h).toInt64 * (661971961083 : Int64)) >>> ((41 : Int32).toInt64 &&& 63)).toInt32 = iZ (lgt h) := by
  have := lg_dec (h + 1075).toNat (by omega)
  rw [show (((h + 1075).toNat : Int)) - 1075 = h by omega] at this
  exact this
theorem lg_b {h : Int} (h1 : -1075 ≤ h) (h2 : h < 1025) : tD 1 (lgt h) ≤ tM 1 h ∧ tM 1 h < tD 1 (lgt h + 1) ∧ -330 < lgt h ∧ lgt h < 310 := by
  have := lg_dec2 (h + 1075).toNat (by omega)
  rw [show (((h + 1075).toNat : Int)) - 1075 = h by omega, show (h + 1075).toNat + 325 = (h + 1400).toNat by omega] at this
  rw [tD_def, tM_def, tD_def, Nat.one_mul, Nat.one_mul, Nat.one_mul, show lgt h + 1 + 400 = lgt h + 401 by omega]
  exact this
theorem dv_e {a q r P : Nat} (h : a = q * P + r) (hr : r < P) : a / P = q := by
  subst h
  rw [Nat.mul_comm, Nat.mul_add_div (by omega), Nat.div_eq_of_lt hr, Nat.add_zero]
theorem tD_s (d : Nat) (k : Int) : tD (d + 1) k = tD d k + tD 1 k := by rw [tD_mul (d + 1), Nat.add_mul, Nat.one_mul, ← tD_mul d]
section FD
variable {f te w : Nat} {lp : Int} {x : Nat}
/-- closer below: a power of two, not the lowest -/
abbrev clo (f w x : Nat) : Prop := dF f x = 0 ∧ 1 < dE f w x
theorem dM_pos (hf : fmt f te w lp) (hx : x < te * 2 ^ f) (hx0 : 0 < x) : 0 < dM f w x := by
  have hb := fmt_b hf
  obtain ⟨g1, g2, g3, g4⟩ := dE_fin hf hx
  have := dM_0 (f := f) (w := w) (by omega) x
  rw [g1] at this
  omega
theorem dM_par (hf : fmt f te w lp) (x : Nat) : dM f w x % 2 = x % 2 := by
  have hb := fmt_b hf
  have h1 : x % 2 ^ f % 2 = x % 2 := Nat.mod_mod_of_dvd _ ⟨2 ^ (f - 1), p2_p (by omega)⟩
  have h2 : 2 ^ f % 2 = 0 := by rw [p2_p (show 0 < f by omega)]; exact Nat.mul_mod_right _ _
  unfold dM dF
  split <;> omega
/-- halfway below, in quarters of the last place -/
theorem hw_lo (hf : fmt f te w lp) (hx : x < te * 2 ^ f) (hx0 : 0 < x) : hw f w lp (x - 1) = tM (4 * dM f w x - (if clo f w x then 1 else 2)) (dP f w lp x - 2) := by
  have hb := fmt_b hf
  obtain ⟨g1, g2, g3, g4⟩ := dE_fin hf hx
  obtain ⟨k1, k2, k3, k4⟩ := dE_fin hf (show x - 1 < te * 2 ^ f by omega)
  have hp := dP_b2 hf hx
  have e1 := Nat.div_add_mod x (2 ^ f)
  have e2 := Nat.div_add_mod (x - 1) (2 ^ f)
  have m1 := Nat.mod_lt x (p2_pos f)
  have m2 := Nat.mod_lt (x - 1) (p2_pos f)
  have hP := p2_pos f
  have tw : ∀ (m : Nat) (q : Int), -1400 < q → tM m (q + 1) = tM (2 * m) q := fun m q h => by
    have := tM_two (m := m) (q := q) (j := 1) h
    rw [Nat.pow_one] at this
    exact this
  unfold hw
  by_cases hz : x % 2 ^ f = 0
  · -- the first of its exponent
    have hE : 1 ≤ x / 2 ^ f := by
      by_cases z : x / 2 ^ f = 0
      · rw [z, hz] at e1; omega
      · omega
    have d1 : (x - 1) / 2 ^ f = x / 2 ^ f - 1 := by
      have : x - 1 = (x / 2 ^ f - 1) * 2 ^ f + (2 ^ f - 1) := by
        rw [Nat.sub_mul, Nat.one_mul, Nat.mul_comm]
        have := Nat.mul_le_mul_left (2 ^ f) hE
        omega
      exact dv_e this (by omega)
    have d2 : (x - 1) % 2 ^ f = 2 ^ f - 1 := by
      rw [d1, Nat.mul_sub, Nat.mul_one] at e2
      have := Nat.mul_le_mul_left (2 ^ f) hE
      omega
    have a1 : dM f w x = 2 ^ f := by
      unfold dM dF
      rw [g2, if_neg (by omega), hz, Nat.zero_add]
    by_cases hc : 1 < x / 2 ^ f
    · have a2 : dM f w (x - 1) = 2 ^ f - 1 + 2 ^ f := by
        unfold dM dF
        rw [k2, d1, if_neg (by omega), d2]
      have a3 : dP f w lp (x - 1) = dP f w lp x - 1 := by
        unfold dP
        rw [k2, g2, d1]
        omega
      have hcl : clo f w x := ⟨hz, by rw [g2]; exact hc⟩
      rw [if_pos hcl, a1, a2, a3, show dP f w lp x - 1 - 1 = dP f w lp x - 2 by omega]
      congr 1
      omega
    · have a2 : dM f w (x - 1) = 2 ^ f - 1 := by
        unfold dM dF
        rw [k2, d1, if_pos (by omega), d2]
      have a3 : dP f w lp (x - 1) = dP f w lp x := by
        unfold dP
        rw [k2, g2, d1]
        omega
      have hcl : ¬ clo f w x := fun z => by have := z.2; rw [g2] at this; exact hc this
      rw [if_neg hcl, a1, a2, a3, show dP f w lp x - 1 = (dP f w lp x - 2) + 1 by omega, tw _ _ (by omega)]
      congr 1
      omega
  · have d1 : (x - 1) / 2 ^ f = x / 2 ^ f := by
      have : x - 1 = x / 2 ^ f * 2 ^ f + (x % 2 ^ f - 1) := by rw [Nat.mul_comm]; omega
      exact dv_e this (by omega)
    have d2 : (x - 1) % 2 ^ f = x % 2 ^ f - 1 := by
      rw [d1] at e2
      omega
    have a2 : dM f w (x - 1) + 1 = dM f w x := by
      unfold dM dF
      rw [k2, g2, d1, d2]
      split <;> omega
    have a3 : dP f w lp (x - 1) = dP f w lp x := by
      unfold dP
      rw [k2, g2, d1]
    have hcl : ¬ clo f w x := fun z => hz z.1
    rw [if_neg hcl, a3, show dP f w lp x - 1 = (dP f w lp x - 2) + 1 by omega, tw _ _ (by omega)]
    congr 1
    omega
theorem hw_hi (hf : fmt f te w lp) (hx : x < te * 2 ^ f) : hw f w lp x = tM (4 * dM f w x + 2) (dP f w lp x - 2) ∧ tM (dM f w x) (dP f w lp x) = tM (4 * dM f w x) (dP f w lp x - 2) := by
  have hp := dP_b2 hf hx
  have t1 := tM_two (m := 2 * dM f w x + 1) (q := dP f w lp x - 2) (j := 1) (by omega)
  have t2 := tM_two (m := dM f w x) (q := dP f w lp x - 2) (j := 2) (by omega)
  unfold hw
  constructor
  · rw [show dP f w lp x - 1 = dP f w lp x - 2 + ((1 : Nat) : Int) by omega, t1]
    congr 1
    omega
  · rw [show dP f w lp x - 2 + ((2 : Nat) : Int) = dP f w lp x by omega] at t2
    rw [t2]
/-- seventeen digits always do -/
theorem sp17 (hf : fmt f te w lp) (hx : x < te * 2 ^ f) (hx0 : 0 < x) {p : Int} (hp1 : tD 1 p ≤ tM (dM f w x) (dP f w lp x)) (hp3 : -331 < p) : ∀ (t nn : Nat), 0 < t → nn + t = 18 → ∃ D K, spK f w lp x p t nn = some (D, K) := by
  intro t
  induction t with
  | zero => intro nn h; omega
  | succ t ih =>
    intro nn _ hn
    by_cases r1 : isR f w lp x (tM (dM f w x) (dP f w lp x) / tD 1 (p - nn + 1)) (p - nn + 1)
    · by_cases r2 : isR f w lp x (tM (dM f w x) (dP f w lp x) / tD 1 (p - nn + 1) + 1) (p - nn + 1)
      · exact ⟨_, _, by simp only [spK, lt_]; rw [if_pos r1, if_pos r2]⟩
      · exact ⟨_, _, by simp only [spK, lt_]; rw [if_pos r1, if_neg r2]⟩
    · by_cases r2 : isR f w lp x (tM (dM f w x) (dP f w lp x) / tD 1 (p - nn + 1) + 1) (p - nn + 1)
      · exact ⟨_, _, by simp only [spK, lt_]; rw [if_neg r1, if_pos r2]⟩
      · by_cases ht : t = 0
        · exfalso
          subst ht
          obtain rfl : nn = 17 := by omega
          have hpos := dM_pos hf hx hx0
          have hM := dM_b hf x
          have hb := fmt_b hf
          have lo := hw_lo hf hx hx0
          have hi := hw_hi hf hx
          have fl := fl_D (v := tM (dM f w x) (dP f w lp x)) (k := p - (17 : Nat) + 1)
          have t10 := tD_ten (k := p - (17 : Nat) + 1) (j := 16) (by omega)
          rw [show p - ((17 : Nat) : Int) + 1 + ((16 : Nat) : Int) = p by omega] at t10
          generalize tM (dM f w x) (dP f w lp x) / tD 1 (p - (17 : Nat) + 1) = d at *
          unfold isR at r1 r2
          rw [lo, hi.1] at r1 r2
          rw [hi.2] at fl hp1
          rw [tD_s d] at fl r2
          generalize tD d (p - (17 : Nat) + 1) = A at *
          have hcl : (if clo f w x then 1 else 2) = 1 ∨ (if clo f w x then 1 else 2) = 2 := by split <;> simp
          have hc52 : clo f w x → dM f w x ≤ 2 ^ 52 := by
            intro z
            unfold dM
            rw [z.1, if_neg (by have := z.2; omega), Nat.zero_add]
            exact p2_le (by omega)
          rw [tM_mul (4 * dM f w x)] at fl hp1
          rw [tM_mul (4 * dM f w x + 2)] at r1 r2
          have hz := tM_pos (dP f w lp x - 2)
          by_cases hc : clo f w x
          · have h52 := hc52 hc
            rw [if_pos hc, tM_mul (4 * dM f w x - 1)] at r1 r2
            generalize tM 1 (dP f w lp x - 2) = z at *
            generalize tD 1 (p - (17 : Nat) + 1) = u at *
            rw [Nat.sub_mul, Nat.one_mul] at r1 r2
            rw [Nat.add_mul] at r1 r2
            have h4 : 4 * dM f w x * z ≤ 4 * 2 ^ 52 * z := Nat.mul_le_mul_right z (by omega)
            have h5 : 4 * 1 * z ≤ 4 * dM f w x * z := Nat.mul_le_mul_right z (by omega)
            generalize 4 * dM f w x * z = v at *
            rw [t10] at hp1
            omega
          · rw [if_neg hc, tM_mul (4 * dM f w x - 2)] at r1 r2
            generalize tM 1 (dP f w lp x - 2) = z at *
            generalize tD 1 (p - (17 : Nat) + 1) = u at *
            rw [Nat.sub_mul] at r1 r2
            rw [Nat.add_mul] at r1 r2
            have h4 : 4 * dM f w x * z ≤ 4 * 2 ^ 53 * z := Nat.mul_le_mul_right z (by omega)
            have h5 : 4 * 1 * z ≤ 4 * dM f w x * z := Nat.mul_le_mul_right z (by omega)
            generalize 4 * dM f w x * z = v at *
            rw [t10] at hp1
            omega
        · obtain ⟨D, K, h⟩ := ih (nn + 1) (by omega) (by omega)
          exact ⟨D, K, by simp only [spK, lt_]; rw [if_neg r1, if_neg r2]; exact h⟩
end FD
