/-! The text of a float or double: both sides lay the same letters. -/
section TR
variable {K : rK} {sgl : Int32} {f te w : Nat} {lp : Int}
theorem dl_len {d : Nat} {k : Int} (h0 : 0 < d) (hd : d < 10 ^ 17) (h1 : -400 < k) (h2 : k < 400) : (dl d k).length ≤ 24 := by
  have h19 : d < 10 ^ 19 := Nat.lt_of_lt_of_le hd (by decide)
  have g := ndg_ge 19 d h19 h0
  have p := ndg_pos d
  have hnd : ndg d ≤ 17 := by
    have := (Nat.pow_lt_pow_iff_right (show 1 < 10 by decide)).mp (Nat.lt_of_le_of_lt g hd)
    omega
  unfold dl
  split
  · have := pp_len (d := d) (b := -k) (by omega) (by omega) (by omega)
    omega
  · have h3 : (pp d ((ndg d : Int) - 1)).length ≤ 19 := by
      unfold pp
      split
      · split
        · rw [List.length_append, List.length_append, dgs_len, dgs_len]
          show _ + 1 + _ ≤ 19
          omega
        · omega
      · rw [List.length_append, dgs_len]
        show _ + 2 ≤ 19
        omega
    have n3 := ndg_3 (v := (k + ndg d - 1).natAbs) (by omega)
    have h4 : (wl (k + ndg d - 1)).length ≤ 4 := by
      unfold wl
      rw [List.length_append, dgs_len]
      split
      · show 1 + _ ≤ 4
        omega
      · show 0 + _ ≤ 4
        omega
    rw [List.length_append, List.length_append]
    show _ + 1 + _ ≤ 24
    omega
theorem v_isCloser (hK : kS K f te w lp) {u : Nat} (hu : u < 2 ^ 64) : F_Real_isCloserBelow K (lN u) = if dF f u = 0 ∧ 1 < dE f w u then 1 else 0 := by
  have he := dE_le (kS_fmt hK) u
  have hb := fmt_b (kS_fmt hK)
  have hF := dF_lt f u
  have hp : 2 ^ f ≤ 2 ^ 52 := p2_le (by omega)
  unfold F_Real_isCloserBelow
  simp only [lt_]
  rw [v_fraction hK hu, v_exponent hK hu]
  have hz : lN (dF f u) = 0 ↔ dF f u = 0 := lN_z (by omega)
  have hc : nI (dE f w u) ≤ (1 : Int32) ↔ dE f w u ≤ 1 := nI_leI (b := 1) (by omega) (by decide)
  by_cases q : dF f u = 0
  · rw [if_neg (fun y => y (hz.mpr q))]
    by_cases q2 : dE f w u ≤ 1
    · rw [if_pos (hc.mpr q2), if_neg (by omega)]
    · rw [if_neg (fun y => q2 (hc.mp y)), if_pos (by omega)]
  · rw [if_pos (fun y => q (hz.mp y)), if_neg (fun y => q y.1)]
theorem d_G (hf : fmt f te w lp) (u : Nat) : dM f w (dG w u) = dM f w u ∧ dP f w lp (dG w u) = dP f w lp u ∧ dF f (dG w u) = dF f u ∧ dE f w (dG w u) = dE f w u := by
  have hb := fmt_b hf
  have e1 : dE f w (dG w u) = dE f w u := by unfold dE dG; rw [Nat.mod_mod]
  have e2 : dF f (dG w u) = dF f u := by
    unfold dF dG
    exact Nat.mod_mod_of_dvd _ (Nat.pow_dvd_pow 2 (by omega))
  exact ⟨by unfold dM; rw [e1, e2], by unfold dP; rw [e1], e2, e1⟩
theorem cNaN : ∀ k, k < [78, 97, 78].length → [(78 : Int32), 97, 78].getD k 0 = nI ([78, 97, 78].getD k 0) ∧ [78, 97, 78].getD k 0 < 256 := by decide
theorem cInf : ∀ k, k < [73, 110, 102, 105, 110, 105, 116, 121].length → [(73 : Int32), 110, 102, 105, 110, 105, 116, 121].getD k 0 = nI ([73, 110, 102, 105, 110, 105, 116, 121].getD k 0) ∧ [73, 110, 102, 105, 110, 105, 116, 121].getD k 0 < 256 := by decide
theorem cZero : ∀ k, k < [48, 46, 48].length → [(48 : Int32), 46, 48].getD k 0 = nI ([48, 46, 48].getD k 0) ∧ [48, 46, 48].getD k 0 < 256 := by decide
theorem tx_nil (row : Nat → Int32) : tx 0 row [] := ⟨rfl, fun i hi => absurd hi (Nat.not_lt_zero i)⟩
/-- what is common: the decimal -/
theorem dec_of (hf : fmt f te w lp) {x : Nat} (hx : x < te * 2 ^ f) (hx0 : 0 < x) {n : Nat} (dig : Int64) (pw used lost : Int32) (lim : Nat → Int64) {cb : Int32} (hcb : cb = if clo f w x then 1 else 0) (hn : 2000 < n) :
    ∃ (p : Int) (D : Nat) (K : Int) (D0 z : Nat) (u l : Int32) (lim' : Nat → Int64), tD 1 p ≤ tM (dM f w x) (dP f w lp x) ∧ tM (dM f w x) (dP f w lp x) < tD 1 (p + 1) ∧ -331 < p ∧ p < 311 ∧ spK f w lp x p 16 2 = some (D, K) ∧ D = D0 * 10 ^ z ∧ D0 % 10 ≠ 0 ∧ F_SD_find n dig pw used lost lim (lN (dM f w x)) (iZ (dP f w lp x)) cb = some (lN D0, iZ (K + z), u, l, lim') ∧ D ≤ 10 ^ 17 ∧ 0 < D0 ∧ D0 < 10 ^ 17 ∧ -400 < K + z ∧ K + z < 400 := by
  obtain ⟨p, D, K, D0, z, u, l, lim', h1, h2, h3, h4, h5, h6, h7, h8⟩ := v_find hf hx hx0 dig pw used lost lim hcb hn
  obtain ⟨hR, m, hm1, hm2, hK, hDle⟩ := sp_in _ 16 2 D K h5
  have hDp := isR_pos hR
  have h17 : (10 : Nat) ^ 17 = 100000000000000000 := rfl
  have hD17 : D ≤ 10 ^ 17 := by
    have e1 := tD_ten (k := K) (j := m) (by omega)
    rw [show K + (m : Int) = p + 1 by omega] at e1
    have e2 : tM (dM f w x) (dP f w lp x) / tD 1 K < 10 ^ m := by
      refine Nat.div_lt_of_lt_mul ?_
      rw [Nat.mul_comm, ← e1]
      exact h2
    have e3 : 10 ^ m ≤ 10 ^ 17 := Nat.pow_le_pow_right (by decide) (by omega)
    omega
  have hz : z ≤ 17 := by
    by_cases q : z ≤ 17
    · exact q
    · exfalso
      have h1 : 10 ^ 18 ≤ 10 ^ z := Nat.pow_le_pow_right (by decide) (by omega)
      have h2 := Nat.mul_le_mul (show 1 ≤ D0 by omega) h1
      omega
  have hD0lt : D0 < 10 ^ 17 := by
    have := Nat.le_mul_of_pos_right D0 (show 0 < 10 ^ z from Nat.pow_pos (by decide))
    omega
  exact ⟨p, D, K, D0, z, u, l, lim', h1, h2, h3, h4, h5, h6, h7, h8, hD17, by omega, hD0lt, by omega, by omega⟩
theorem write_bits (hS : mSg sgl f te w lp) {u : Nat} (hu : u < 2 ^ 64) : (if sgl = 0 then lN u &&& (9223372036854775807 : Int64) else lN u &&& (2147483647 : Int64)) = lN (dG w u) ∧ (if sgl = 0 then if (0 : Int64) ≤ lN u then (0 : Int32) else (1 : Int32) else if ¬ ((lN u >>> (((31 : Int32)).toInt64 &&& 63)) &&& (1 : Int64)) = (1 : Int64) then (0 : Int32) else (1 : Int32)) = nI (dS w u) ∧ F_Rs_greatest sgl = lN (te * 2 ^ f - 1) := by
  rcases hS with ⟨rfl, rfl, rfl, rfl, rfl⟩ | ⟨rfl, rfl, rfl, rfl, rfl⟩
  · refine ⟨?_, ?_, by decide⟩
    · rw [if_neg (by decide)]
      exact wb_mask (k := 31) hu (by decide)
    · rw [if_neg (by decide)]
      have e : (lN u >>> (((31 : Int32)).toInt64 &&& 63)) &&& (1 : Int64) = lN (dS 31 u) := by
        unfold dS
        -- the arithmetic shift and the unsigned one agree in the lowest places
        apply Int64.toBitVec_inj.mp
        apply BitVec.eq_of_toNat_eq
        rw [wb_tn (show u / 2 ^ 31 % 2 < 2 ^ 64 by omega)]
        have h1 : ((lN u >>> (((31 : Int32)).toInt64 &&& 63)) &&& (1 : Int64)).toBitVec = ((lN u).toBitVec.sshiftRight 31) &&& 1#64 := rfl
        rw [h1]
        have h2 : (((lN u).toBitVec.sshiftRight 31) &&& 1#64).toNat = ((lN u).toBitVec.sshiftRight 31).toNat % 2 := by
          rw [BitVec.toNat_and]
          exact Nat.and_two_pow_sub_one_eq_mod _ 1
        rw [h2]
        have h3 : ((lN u).toBitVec.sshiftRight 31).toNat % 2 = (((lN u).toBitVec.sshiftRight 31).getLsbD 0).toNat := by
          rw [BitVec.getLsbD, Nat.testBit_zero]
          rcases Nat.mod_two_eq_zero_or_one ((lN u).toBitVec.sshiftRight 31).toNat with h | h <;> rw [h] <;> rfl
        rw [h3, BitVec.getLsbD_sshiftRight]
        simp only [show ¬ 64 ≤ 0 by decide, decide_false, Bool.not_false, Bool.true_and]
        rw [if_pos (by decide), BitVec.getLsbD, wb_tn hu, Nat.testBit_eq_decide_div_mod_eq]
        rcases Nat.mod_two_eq_zero_or_one (u / 2 ^ (31 + 0)) with h | h
        · rw [show (31 + 0 : Nat) = 31 from rfl] at h
          rw [h]; simp [h]
        · rw [show (31 + 0 : Nat) = 31 from rfl] at h
          rw [h]; simp [h]
      rw [e]
      have hb : dS 31 u = 0 ∨ dS 31 u = 1 := by unfold dS; omega
      rcases hb with h | h <;> rw [h] <;> decide
  · refine ⟨?_, ?_, by decide⟩
    · rw [if_pos rfl]
      exact wb_mask (k := 63) hu (by decide)
    · rw [if_pos rfl]
      have ht := lN_ti hu
      have hc : (0 : Int64) ≤ lN u ↔ 0 ≤ (lN u).toInt := by rw [Int64.le_iff_toInt_le]; rfl
      unfold dS
      by_cases q : u < 2 ^ 63
      · rw [if_pos q] at ht
        rw [if_pos (hc.mpr (by omega)), Nat.div_eq_of_lt q]
        rfl
      · rw [if_neg q] at ht
        rw [if_neg (fun y => by have := hc.mp y; omega), show u / 2 ^ 63 = 1 by omega]
        rfl
end TR
