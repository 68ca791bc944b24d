/-! A real as a whole number: class and reference alike. -/
def clampI (x : Int64) : Int64 := if (if x < (2147483647 : Int64) then x else (2147483647 : Int64)) < (-2147483648 : Int64) then (-2147483648 : Int64) else if x < (2147483647 : Int64) then x else (2147483647 : Int64)
theorem clamp_Z {z : Int} (h1 : -9223372036854775808 ≤ z) (h2 : z ≤ 9223372036854775807) : clampI (lZ z) = lZ (if z < -2147483648 then -2147483648 else if z < 2147483647 then z else 2147483647) := by
  have e1 : (2147483647 : Int64) = lZ 2147483647 := by decide
  have e2 : (-2147483648 : Int64) = lZ (-2147483648) := by decide
  unfold clampI
  rw [e1, e2]
  have c1 : lZ z < lZ 2147483647 ↔ z < 2147483647 := lZ_lt h1 h2 (by omega) (by omega)
  have c2 : lZ z < lZ (-2147483648) ↔ z < -2147483648 := lZ_lt h1 h2 (by omega) (by omega)
  by_cases h : z < 2147483647
  · rw [if_pos (c1.mpr h)]
    by_cases h3 : z < -2147483648
    · rw [if_pos (c2.mpr h3), if_pos h3]
    · rw [if_neg (fun q => h3 (c2.mp q)), if_neg h3, if_pos h]
  · rw [if_neg (fun q => h (c1.mp q)), if_neg (by decide), if_neg (show ¬ z < -2147483648 by omega), if_neg h]
theorem tw_ge {f w : Nat} {lp : Int} {u : Nat} (hz : dM f w u ≠ 0) (h : 31 < (bl (dM f w u) : Int) + dP f w lp u) : 2 ^ 31 ≤ twV f w lp u := by
  have hb := bl_ge hz
  have hp := bl_pos hz
  unfold twV
  by_cases h0 : 0 ≤ dP f w lp u
  · rw [if_pos h0]
    have h3 : 2 ^ (bl (dM f w u) - 1) * 2 ^ (dP f w lp u).toNat ≤ dM f w u * 2 ^ (dP f w lp u).toNat := Nat.mul_le_mul_right _ hb
    rw [← Nat.pow_add] at h3
    exact Nat.le_trans (p2_le (by omega)) h3
  · rw [if_neg h0, Nat.le_div_iff_mul_le (p2_pos _), ← Nat.pow_add]
    exact Nat.le_trans (p2_le (by omega)) hb
theorem tw_lt {f w : Nat} {lp : Int} {u : Nat} (h : dM f w u = 0 ∨ (bl (dM f w u) : Int) + dP f w lp u ≤ 31) : twV f w lp u < 2 ^ 31 := by
  unfold twV
  rcases h with h | h
  · rw [h]
    simp
  · have hb := bl_lt (dM f w u)
    by_cases h0 : 0 ≤ dP f w lp u
    · rw [if_pos h0]
      have h3 : dM f w u * 2 ^ (dP f w lp u).toNat < 2 ^ bl (dM f w u) * 2 ^ (dP f w lp u).toNat := Nat.mul_lt_mul_of_pos_right hb (p2_pos _)
      rw [← Nat.pow_add] at h3
      exact Nat.lt_of_lt_of_le h3 (p2_le (by omega))
    · rw [if_neg h0]
      apply Nat.div_lt_of_lt_mul
      rw [← Nat.pow_add]
      exact Nat.lt_of_lt_of_le hb (p2_le (by omega))
theorem wholeFromReal_eq {K : rK} {f te w : Nat} {lp : Int} (hK : kS K f te w lp) {n : Nat} (hn : 10000 < n) {u : Nat} (hu : u < 2 ^ 64) (to : Int32) :
    ∃ t : Int64, F_Md_towards n (lN (dM f w u)) (iZ (dP f w lp u)) (nI (dS w u)) (if te * 2 ^ f < dG w u then 1 else 0) (if dG w u = te * 2 ^ f then 1 else 0) (if to = 4 then 1 else 0) = some t ∧ F_PB_wholeFromReal K (lN u) to = (if to = 4 then t else F_Md_cut t to) := by
  have hF := kS_fmt hK
  have ecl : ∀ x : Int64, (if (if x < (2147483647 : Int64) then x else (2147483647 : Int64)) < (-2147483648 : Int64) then (-2147483648 : Int64) else if x < (2147483647 : Int64) then x else (2147483647 : Int64)) = clampI x := fun _ => rfl
  unfold F_PB_wholeFromReal
  simp only [lt_]
  rw [ecl, cut_eq, v_toLong hK hu]
  by_cases h1 : te * 2 ^ f < dG w u
  · rw [if_pos h1, if_pos h1]
    refine ⟨0, ?_, ?_⟩
    · unfold F_Md_towards
      rw [if_neg (show ¬ (1 : Int32) = 0 by decide)]
    · rw [show clampI 0 = 0 by decide]
      by_cases h4 : to = 4
      · rw [if_neg (not_not_intro h4), if_pos h4]
      · rw [if_pos h4, if_neg h4]
  · rw [if_neg h1, if_neg h1]
    have hle : dG w u ≤ te * 2 ^ f := by omega
    obtain ⟨hsat, hlt⟩ := sat_iff hF hle
    rw [v_towards hF hn hle]
    refine ⟨_, rfl, ?_⟩
    by_cases h4 : to = 4
    · rw [if_neg (not_not_intro h4), if_pos h4, if_pos h4, if_neg (show ¬ (1 : Int32) = 0 by decide), if_neg (show ¬ (1 : Int32) = 0 by decide)]
      by_cases hs : 62 - (f : Int) < dP f w lp u
      · rw [if_pos hs, if_pos (hsat.mp hs)]
        split
        · rfl
        · decide
      · rw [if_neg hs, if_neg (fun z => hs (hsat.mpr z))]
    · rw [if_pos h4, if_neg h4, if_neg h4, if_pos (show (0 : Int32) = 0 from rfl), if_pos (show (0 : Int32) = 0 from rfl)]
      congr 1
      by_cases hs : 62 - (f : Int) < dP f w lp u
      · have hA : dG w u = te * 2 ^ f ∨ (dM f w u ≠ 0 ∧ 31 < (bl (dM f w u) : Int) + dP f w lp u) := by
          rcases hsat.mp hs with q | q
          · exact Or.inl q
          · exact Or.inr ⟨q.1, by omega⟩
        rw [if_pos hs, if_pos hA]
        by_cases hd : dS w u = 0
        · rw [if_pos hd, if_pos hd]; decide
        · rw [if_neg hd, if_neg hd]; decide
      · have hV := hlt hs
        rw [if_neg hs]
        have eP : lN (twV f w lp u) = lZ (twV f w lp u) := (lZ_lN _).symm
        have eN : -lN (twV f w lp u) = lZ (-(twV f w lp u : Int)) := by rw [eP, lZ_neg]
        by_cases hA : dG w u = te * 2 ^ f ∨ (dM f w u ≠ 0 ∧ 31 < (bl (dM f w u) : Int) + dP f w lp u)
        · rw [if_pos hA]
          have hge : 2 ^ 31 ≤ twV f w lp u := by
            rcases hA with q | q
            · exact absurd (hsat.mpr (Or.inl q)) hs
            · exact tw_ge q.1 q.2
          by_cases hd : dS w u = 0
          · rw [if_pos hd, if_pos hd, eP, clamp_Z (by omega) (by omega), if_neg (by omega), if_neg (by omega)]
            decide
          · rw [if_neg hd, if_neg hd, eN, clamp_Z (by omega) (by omega)]
            have : (if -(twV f w lp u : Int) < -2147483648 then (-2147483648 : Int) else if -(twV f w lp u : Int) < 2147483647 then -(twV f w lp u : Int) else 2147483647) = -2147483648 := by
              split
              · rfl
              · rw [if_pos (by omega)]
                omega
            rw [this]
            decide
        · rw [if_neg hA]
          have hlt2 : twV f w lp u < 2 ^ 31 := by
            apply tw_lt
            by_cases hz : dM f w u = 0
            · exact Or.inl hz
            · refine Or.inr ?_
              have : ¬ 31 < (bl (dM f w u) : Int) + dP f w lp u := fun q => hA (Or.inr ⟨hz, q⟩)
              omega
          by_cases hd : dS w u = 0
          · rw [if_pos hd, eP, clamp_Z (by omega) (by omega), if_neg (by omega)]
            have e : (if (twV f w lp u : Int) < 2147483647 then (twV f w lp u : Int) else 2147483647) = twV f w lp u := by split <;> omega
            rw [e]
          · rw [if_neg hd, eN, clamp_Z (by omega) (by omega), if_neg (by omega), if_pos (by omega)]
