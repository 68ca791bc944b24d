/-! The operators on floats and doubles: class and reference alike, for all bits. -/
/-- the bits with another sign -/
theorem neg_bits {f te w : Nat} {lp : Int} (hF : fmt f te w lp) (b s : Nat) (hs : s ≤ 1) : dG w (dG w b + s * 2 ^ w) = dG w b ∧ dE f w (dG w b + s * 2 ^ w) = dE f w b ∧ dF f (dG w b + s * 2 ^ w) = dF f b ∧ dS w (dG w b + s * 2 ^ w) = s ∧ dG w b + s * 2 ^ w < 2 ^ 64 := by
  have hb := fmt_b hF
  have hg := dG_lt w b
  have hp := p2_pos w
  have hw : 2 ^ w ≤ 2 ^ 63 := p2_le (by omega)
  have h1 : (dG w b + s * 2 ^ w) % 2 ^ w = dG w b := by
    rw [Nat.add_mul_mod_self_right, Nat.mod_eq_of_lt hg]
  have h2 : dG w b % 2 ^ f = b % 2 ^ f := Nat.mod_mod_of_dvd _ (Nat.pow_dvd_pow 2 (by omega))
  have hsw : s * 2 ^ w ≤ 1 * 2 ^ w := Nat.mul_le_mul_right _ hs
  refine ⟨h1, ?_, ?_, ?_, by omega⟩
  · unfold dE
    rw [h1]
    rfl
  · unfold dF
    have h3 : (dG w b + s * 2 ^ w) % 2 ^ f = (dG w b + s * 2 ^ w) % 2 ^ w % 2 ^ f := (Nat.mod_mod_of_dvd _ (Nat.pow_dvd_pow 2 (by omega))).symm
    rw [h3, h1, h2]
  · unfold dS
    rw [Nat.add_mul_div_right _ _ hp, Nat.div_eq_of_lt hg, Nat.zero_add]
    omega
section BR
variable {K : rK} {sgl : Int32} {f te w : Nat} {lp : Int}
theorem v_negate (hK : kS K f te w lp) {b : Nat} (hb : b < 2 ^ 64) (rb : dG w b ≤ te * 2 ^ f) : F_Real_negate K (lN b) = lN (dG w b + (1 - dS w b) * 2 ^ w) := by
  have sb := dS_le w b
  have hg := dG_lt w b
  have cz : nI (dS w b) = 0 ↔ dS w b = 0 := nI_z (by omega)
  unfold F_Real_negate
  simp only [lt_]
  rw [v_isNan hK hb, v_isNegative hK hb, v_magnitude hK hb, if_neg (show ¬ te * 2 ^ f < dG w b by omega), if_pos rfl]
  by_cases h : dS w b = 0
  · rw [if_neg (not_not_intro (cz.mpr h)), h]
    exact v_signed hK (s := 1) hg (by omega)
  · rw [if_pos (show ¬ nI (dS w b) = 0 from fun z => h (cz.mp z)), show 1 - dS w b = 0 by omega]
    exact v_signed hK (s := 0) hg (by omega)
set_option maxHeartbeats 4000000 in
theorem broken_eq (hK : kS K f te w lp) (hM : mSg sgl f te w lp) {n : Nat} (hn : 10000 < n) (op : Int32) {a b : Nat} (ha : a < 2 ^ 64) (hb : b < 2 ^ 64) (m1 m2 : Int64) (e1 e2 mi1 mi2 na1 na2 fa1 fa2 : Int32) :
    ∃ r : Int64, F_PB_realResult n K op (lN a) (lN b) = some r ∧ ∃ st, F_Md_broken n m1 m2 e1 e2 mi1 mi2 na1 na2 fa1 fa2 op (lN a) (lN b) sgl = some (r, st) := by
  have hF := kS_fmt hK
  have hnan : F_Real_nan K = F_Md_nan sgl := by rw [v_nanC hK, v_nanM hM]
  have z0 : ((0 : Int32) = 0) = True := by decide
  have z1 : ((1 : Int32) = 0) = False := by decide
  have hap : ∀ (fu : Int32 × Int32 → Prop), True := fun _ => trivial
  unfold F_PB_realResult F_Md_broken
  simp only [lt_]
  rw [v_apart hM ha, if_neg (show ¬ (1 : Int32) = 0 by decide)]
  simp only []
  rw [v_apart hM hb, if_pos (show (0 : Int32) = 0 from rfl)]
  simp only []
  rw [v_isNan hK ha, v_isNan hK hb]
  -- a NaN on either side
  have nanAdd : ∀ (x y : Int64) (p q u v n1 n2 g1 g2 : Int32), (¬ n1 = 0 ∨ ¬ n2 = 0) → F_Md_add n x y p q u v n1 n2 g1 g2 sgl = some (F_Md_nan sgl) := by
    intro x y p q u v n1 n2 g1 g2 h
    unfold F_Md_add
    simp only [lt_]
    rcases h with h | h
    · rw [if_pos h]
    · by_cases h1 : n1 = 0
      · rw [if_neg (not_not_intro h1), if_pos h]
      · rw [if_pos h1]
  have nanTimes : ∀ (x y : Int64) (p q u v n1 n2 g1 g2 : Int32), (¬ n1 = 0 ∨ ¬ n2 = 0) → F_Md_times n x y p q u v n1 n2 g1 g2 sgl = some (F_Md_nan sgl) := by
    intro x y p q u v n1 n2 g1 g2 h
    unfold F_Md_times
    simp only [lt_]
    rcases h with h | h
    · rw [if_pos h]
    · by_cases h1 : n1 = 0
      · rw [if_neg (not_not_intro h1), if_pos h]
      · rw [if_pos h1]
  have nanOver : ∀ (x y : Int64) (p q u v n1 n2 g1 g2 : Int32), (¬ n1 = 0 ∨ ¬ n2 = 0) → F_Md_over n x y p q u v n1 n2 g1 g2 sgl = some (F_Md_nan sgl) := by
    intro x y p q u v n1 n2 g1 g2 h
    unfold F_Md_over
    simp only [lt_]
    rcases h with h | h
    · rw [if_pos h]
    · by_cases h1 : n1 = 0
      · rw [if_neg (not_not_intro h1), if_pos h]
      · rw [if_pos h1]
  have nanRest : ∀ (x y : Int64) (p q u n1 n2 g1 g2 : Int32), (¬ n1 = 0 ∨ ¬ n2 = 0) → F_Md_rest n x y p q u n1 n2 g1 g2 sgl = some (F_Md_nan sgl) := by
    intro x y p q u n1 n2 g1 g2 h
    unfold F_Md_rest
    simp only [lt_]
    rcases h with h | h
    · rw [if_pos h]
    · by_cases h1 : n1 = 0
      · rw [if_neg (not_not_intro h1), if_pos h]
      · rw [if_pos h1]
  by_cases hnn : te * 2 ^ f < dG w a ∨ te * 2 ^ f < dG w b
  · have hc : ¬ (if te * 2 ^ f < dG w a then (1 : Int32) else 0) = 0 ∨ ¬ (if te * 2 ^ f < dG w b then (1 : Int32) else 0) = 0 := by
      rcases hnn with h | h
      · left; rw [if_pos h]; decide
      · right; rw [if_pos h]; decide
    refine ⟨F_Md_nan sgl, ?_, ?_⟩
    · rw [hnan]
      rcases hc with h | h
      · rw [if_pos h]
      · by_cases h1 : (if te * 2 ^ f < dG w a then (1 : Int32) else 0) = 0
        · rw [if_neg (not_not_intro h1), if_neg h]
        · rw [if_pos h1]
    · by_cases o0 : op = 0
      · rw [if_pos o0, nanAdd _ _ _ _ _ _ _ _ _ _ hc]
        exact ⟨_, rfl⟩
      · rw [if_neg o0]
        by_cases o1 : op = 1
        · rw [if_pos o1, nanAdd _ _ _ _ _ _ _ _ _ _ hc]
          exact ⟨_, rfl⟩
        · rw [if_neg o1]
          by_cases o2 : op = 2
          · rw [if_pos o2, nanTimes _ _ _ _ _ _ _ _ _ _ hc]
            exact ⟨_, rfl⟩
          · rw [if_neg o2]
            by_cases o3 : op = 3
            · rw [if_pos o3, nanOver _ _ _ _ _ _ _ _ _ _ hc]
              exact ⟨_, rfl⟩
            · rw [if_neg o3, nanRest _ _ _ _ _ _ _ _ _ hc]
              exact ⟨_, rfl⟩
  · have ra : dG w a ≤ te * 2 ^ f := by omega
    have rb : dG w b ≤ te * 2 ^ f := by omega
    rw [if_neg (show ¬ te * 2 ^ f < dG w a by omega), if_neg (show ¬ te * 2 ^ f < dG w b by omega), if_neg (show ¬ ¬ (0 : Int32) = 0 by decide), if_pos (show (0 : Int32) = 0 from rfl)]
    by_cases o0 : op = 0
    · rw [if_pos o0, if_pos o0]
      obtain ⟨r, g1, g2⟩ := add_eq hK hM hn ha hb ra rb rfl
      exact ⟨r, by rw [g1]; rfl, _, by rw [g2]; rfl⟩
    · rw [if_neg o0, if_neg o0]
      by_cases o1 : op = 1
      · rw [if_pos o1, if_pos o1, v_negate hK hb rb]
        have sb := dS_le w b
        obtain ⟨q1, q2, q3, q4, q5⟩ := neg_bits hF b (1 - dS w b) (by omega)
        have q6 : dM f w (dG w b + (1 - dS w b) * 2 ^ w) = dM f w b := by unfold dM; rw [q2, q3]
        have q7 : dP f w lp (dG w b + (1 - dS w b) * 2 ^ w) = dP f w lp b := by unfold dP; rw [q2]
        obtain ⟨r, g1, g2⟩ := add_eq hK hM hn ha q5 ra (by rw [q1]; exact rb) q4.symm
        rw [q1, q6, q7] at g2
        have cz : nI (dS w b) = 0 ↔ dS w b = 0 := nI_z (by omega)
        have ex : (if ¬ nI (dS w b) = 0 then (0 : Int32) else (1 : Int32)) = nI (1 - dS w b) := by
          by_cases h : dS w b = 0
          · rw [if_neg (not_not_intro (cz.mpr h)), h]; rfl
          · rw [if_pos (show ¬ nI (dS w b) = 0 from fun z => h (cz.mp z)), show 1 - dS w b = 0 by omega]; rfl
        rw [ex]
        exact ⟨r, by rw [g1]; rfl, _, by rw [g2]; rfl⟩
      · rw [if_neg o1, if_neg o1]
        by_cases o2 : op = 2
        · rw [if_pos o2, if_pos o2]
          obtain ⟨r, g1, g2⟩ := times_eq hK hM hn ha hb ra rb
          exact ⟨r, by rw [g1]; rfl, _, by rw [g2]; rfl⟩
        · rw [if_neg o2, if_neg o2]
          by_cases o3 : op = 3
          · rw [if_pos o3, if_pos o3]
            obtain ⟨r, g1, g2⟩ := over_eq hK hM hn ha hb ra rb
            exact ⟨r, by rw [g1]; rfl, _, by rw [g2]; rfl⟩
          · rw [if_neg o3, if_neg o3]
            obtain ⟨r, g1, g2⟩ := rest_eq hK hM hn ha hb ra rb
            exact ⟨r, by rw [g1]; rfl, _, by rw [g2]; rfl⟩
end BR
