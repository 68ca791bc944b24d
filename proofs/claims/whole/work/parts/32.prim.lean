/-! Binary lengths: Model.length and PrimitiveBits.leadingZeros -/
theorem lN_z {n : Nat} (h : n < 2 ^ 64) : lN n = 0 ↔ n = 0 := by
  constructor
  · intro e
    have h1 := wb_tn h
    rw [e] at h1
    exact h1.symm
  · intro e; subst e; rfl
theorem lN_inj {a b : Nat} (ha : a < 2 ^ 64) (hb : b < 2 ^ 64) : lN a = lN b ↔ a = b := by
  constructor
  · intro e
    have h1 := wb_tn ha
    rw [e, wb_tn hb] at h1
    exact h1.symm
  · intro e; rw [e]
theorem bl_half {v : Nat} (h : v ≠ 0) : bl v = bl (v / 2) + 1 := by
  have h1 := bl_lt v
  have h2 := bl_ge h
  have h3 := bl_pos h
  by_cases hv : v = 1
  · subst hv; rfl
  · have h4 : v / 2 ≠ 0 := by omega
    have h5 : 2 ≤ bl v := by have := bl_gt (n := v) (b := 1) (by omega); omega
    have h6 : bl (v / 2) = bl v - 1 := by
      refine bl_uniq (by omega) ?_ ?_
      · have e : 2 ^ (bl v - 1) = 2 * 2 ^ (bl v - 1 - 1) := p2_p (by omega)
        omega
      · have e : 2 ^ bl v = 2 * 2 ^ (bl v - 1) := p2_p (by omega)
        omega
    omega
theorem len_L (j : Int32 → Option Int32) : ∀ (n v c : Nat), v < 2 ^ 64 → bl v < n → F_Md_length_L4 j n (nI c) (lN v) = j (nI (c + bl v)) := by
  intro n
  induction n with
  | zero => intro v c _ h; omega
  | succ n ih =>
    intro v c hv hn
    show (if lN v = 0 then j (nI c) else F_Md_length_L4 j n (nI c + Int32.ofInt 1) (((lN v).toUInt64 >>> ((nI 1).toInt64.toUInt64 &&& Int64.toUInt64 63)).toInt64)) = _
    by_cases h : v = 0
    · subst h
      rw [if_pos ((lN_z (by omega)).mpr rfl)]
      rfl
    · rw [if_neg (fun z => h ((lN_z hv).mp z)), wb_shr hv (by decide)]
      have e1 : nI c + Int32.ofInt 1 = nI (c + 1) := nI_1 c
      have hb := bl_half h
      rw [e1, show 2 ^ 1 = 2 from rfl, ih (v / 2) (c + 1) (by omega) (by omega), hb]
      congr 2
      omega
theorem v_length {n v : Nat} (hv : v < 2 ^ 64) (hn : 64 < n) : F_Md_length n (lN v) = some (nI (bl v)) := by
  have h := bl_le hv
  have e := len_L (fun y1 => some y1) n v 0 hv (by omega)
  rw [Nat.zero_add] at e
  exact e
theorem lz_step (j : Int32 → Option Int32) (n z r s : Nat) (hs : s = 32 ∨ s = 16 ∨ s = 8 ∨ s = 4 ∨ s = 2 ∨ s = 1) (h1 : 2 ^ (64 - 2 * s) ≤ r) (h2 : r < 2 ^ 64) :
    ∃ d : Nat, F_PB_leadingZeros_L8 j (n + 1) (nI z) (lN r) (nI s) = F_PB_leadingZeros_L8 j n (nI (z + d)) (lN (r * 2 ^ d)) (nI (s / 2)) ∧ 2 ^ (64 - s) ≤ r * 2 ^ d ∧ r * 2 ^ d < 2 ^ 64 := by
  have hs1 : ¬ nI s ≤ 0 := nI_nle (by omega) (by omega)
  have hs2 : (64 : Int32) - nI s = nI (64 - s) := pk_sub (a := 64) (b := s) (by omega)
  have hs3 : nI s >>> ((1 : Int32) &&& 31) = nI (s / 2) := by rcases hs with rfl | rfl | rfl | rfl | rfl | rfl <;> decide
  have hX : ((lN r).toUInt64 >>> (((64 : Int32) - nI s).toInt64.toUInt64 &&& Int64.toUInt64 63)).toInt64 = lN (r / 2 ^ (64 - s)) := by
    rw [hs2]
    exact wb_shr h2 (by omega)
  have hp := p2_pos (64 - s)
  by_cases hr : r < 2 ^ (64 - s)
  · have hz : r / 2 ^ (64 - s) = 0 := Nat.div_eq_of_lt hr
    refine ⟨s, ?_, ?_, ?_⟩
    · show (if nI s ≤ 0 then j (nI z) else F_PB_leadingZeros_L8 j n (if ¬ ((lN r).toUInt64 >>> (((64 : Int32) - nI s).toInt64.toUInt64 &&& Int64.toUInt64 63)).toInt64 = 0 then nI z else nI z + nI s) (if ¬ ((lN r).toUInt64 >>> (((64 : Int32) - nI s).toInt64.toUInt64 &&& Int64.toUInt64 63)).toInt64 = 0 then lN r else lN r <<< ((nI s).toInt64 &&& 63)) (nI s >>> ((1 : Int32) &&& 31))) = _
      rw [if_neg hs1, hX, hz, if_neg (by decide), if_neg (by decide), hs3, wb_shl r (by omega), nI_add]
    · have e : 2 ^ (64 - s) = 2 ^ (64 - 2 * s) * 2 ^ s := by rw [← Nat.pow_add]; congr 1; omega
      rw [e]
      exact Nat.mul_le_mul_right _ h1
    · have e : 2 ^ 64 = 2 ^ (64 - s) * 2 ^ s := by rw [← Nat.pow_add]; congr 1; omega
      rw [e]
      exact Nat.mul_lt_mul_of_pos_right hr (p2_pos s)
  · have hz : r / 2 ^ (64 - s) ≠ 0 := by
      have := Nat.div_pos (Nat.le_of_not_lt hr) hp
      omega
    have hz2 : ¬ lN (r / 2 ^ (64 - s)) = 0 := fun z => hz ((lN_z (Nat.lt_of_le_of_lt (Nat.div_le_self _ _) h2)).mp z)
    refine ⟨0, ?_, ?_, ?_⟩
    · show (if nI s ≤ 0 then j (nI z) else F_PB_leadingZeros_L8 j n (if ¬ ((lN r).toUInt64 >>> (((64 : Int32) - nI s).toInt64.toUInt64 &&& Int64.toUInt64 63)).toInt64 = 0 then nI z else nI z + nI s) (if ¬ ((lN r).toUInt64 >>> (((64 : Int32) - nI s).toInt64.toUInt64 &&& Int64.toUInt64 63)).toInt64 = 0 then lN r else lN r <<< ((nI s).toInt64 &&& 63)) (nI s >>> ((1 : Int32) &&& 31))) = _
      rw [if_neg hs1, hX, if_pos hz2, if_pos hz2, hs3, Nat.add_zero, Nat.pow_zero, Nat.mul_one]
    · rw [Nat.pow_zero, Nat.mul_one]; omega
    · rw [Nat.pow_zero, Nat.mul_one]; omega
theorem v_leadingZeros {n v : Nat} (h0 : v ≠ 0) (hv : v < 2 ^ 64) (hn : 6 < n) : F_PB_leadingZeros n (lN v) = some (nI (64 - bl v)) := by
  obtain ⟨n, rfl⟩ : ∃ k, n = k + 7 := ⟨n - 7, by omega⟩
  have step := lz_step (fun y1 => some y1)
  obtain ⟨d1, e1, a1, b1⟩ := step (n + 6) 0 v 32 (by simp) (by show 1 ≤ v; omega) hv
  obtain ⟨d2, e2, a2, b2⟩ := step (n + 5) _ _ 16 (by simp) a1 b1
  obtain ⟨d3, e3, a3, b3⟩ := step (n + 4) _ _ 8 (by simp) a2 b2
  obtain ⟨d4, e4, a4, b4⟩ := step (n + 3) _ _ 4 (by simp) a3 b3
  obtain ⟨d5, e5, a5, b5⟩ := step (n + 2) _ _ 2 (by simp) a4 b4
  obtain ⟨d6, e6, a6, b6⟩ := step (n + 1) _ _ 1 (by simp) a5 b5
  have e0 : F_PB_leadingZeros (n + 7) (lN v) = F_PB_leadingZeros_L8 (fun y1 => some y1) (n + 6 + 1) (nI 0) (lN v) (nI 32) := rfl
  have e7 : ∀ (x : Int32) (y : Int64), F_PB_leadingZeros_L8 (fun y1 => some y1) (n + 1) x y (nI (1 / 2)) = some x := by
    intro x y
    show (if nI (1 / 2) ≤ 0 then some x else _) = some x
    exact if_pos (by decide)
  rw [e0, e1]
  show F_PB_leadingZeros_L8 _ (n + 5 + 1) _ _ (nI 16) = _
  rw [e2]
  show F_PB_leadingZeros_L8 _ (n + 4 + 1) _ _ (nI 8) = _
  rw [e3]
  show F_PB_leadingZeros_L8 _ (n + 3 + 1) _ _ (nI 4) = _
  rw [e4]
  show F_PB_leadingZeros_L8 _ (n + 2 + 1) _ _ (nI 2) = _
  rw [e5]
  show F_PB_leadingZeros_L8 _ (n + 1 + 1) _ _ (nI 1) = _
  rw [e6, e7]
  have hb : bl (v * 2 ^ d1 * 2 ^ d2 * 2 ^ d3 * 2 ^ d4 * 2 ^ d5 * 2 ^ d6) = 64 := bl_uniq (by decide) a6 b6
  rw [bl_mul (by intro z; simp [z] at a5), bl_mul (by intro z; simp [z] at a4), bl_mul (by intro z; simp [z] at a3), bl_mul (by intro z; simp [z] at a2), bl_mul (by intro z; simp [z] at a1), bl_mul h0] at hb
  congr 2
  omega
