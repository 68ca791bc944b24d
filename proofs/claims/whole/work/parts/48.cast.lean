/-! Casts. -/
theorem cut_eq (v : Int64) (t : Int32) : F_PB_wholeOf v t = F_Md_cut v t := by
  unfold F_PB_wholeOf F_Md_cut
  by_cases h0 : t = 0
  · rw [if_pos h0, if_pos h0]
    obtain ⟨n, hn, rfl⟩ := wb_of v
    rw [lN_i, pk_char]
    have h1 : (nI n).toBitVec.toNat = n % 2 ^ 32 := BitVec.toNat_ofNat ..
    have h2 : lN n &&& (65535 : Int64) = lN (n % 2 ^ 16) := wb_mask (k := 16) hn (by decide)
    rw [h1, h2, show 65536 = 2 ^ 16 from rfl, Nat.mod_mod_of_dvd _ (Nat.pow_dvd_pow 2 (by decide : 16 ≤ 32)), nI_l (by omega)]
  · rw [if_neg h0, if_neg h0]
section CA
variable {K : rK} {sgl : Int32} {f te w : Nat} {lp : Int}
theorem fromWhole_eq (hK : kS K f te w lp) (hM : mSg sgl f te w lp) {n : Nat} (hn : 10000 < n) (x : Int64) :
    ∃ r : Int64, F_Real_fromWhole n K x = some r ∧ (x = (-9223372036854775808 : Int64) → F_Md_round n (1 : Int32) (4611686018427387904 : Int64) (1 : Int32) (0 : Int32) sgl = some r) ∧ (x = 0 → r = 0) ∧ (¬ x = (-9223372036854775808 : Int64) → F_Md_round n (if (0 : Int64) ≤ x then (0 : Int32) else (1 : Int32)) (if (0 : Int64) ≤ x then x else -x) (0 : Int32) (0 : Int32) sgl = some r) := by
  have hF := kS_fmt hK
  have hinf := fmt_inf hF
  have hpf := p2_pos f
  have both : ∀ (s v : Nat) (e : Int), s ≤ 1 → v < 2 ^ 63 → -10 ≤ e → e ≤ 10 → F_Real_rounded n K (nI s) (iZ e) (lN v) = some (lN (mg f (te * 2 ^ f) lp v e + s * 2 ^ w)) ∧ F_Md_round n (nI s) (lN v) (iZ e) (0 : Int32) sgl = some (lN (mg f (te * 2 ^ f) lp v e + s * 2 ^ w)) := by
    intro s v e hs hv q1 q2
    have hle := mg_le f (te * 2 ^ f) lp v e
    constructor
    · rw [v_rounded hK (by omega) _ (by omega) (by omega) hv, v_signed hK (by omega) hs]
    · have := v_round hM (n := n) (by omega) (nI s) (e := e) (m := v) (l := 0) (by omega) (by omega) hv (by omega) (fun z => by omega)
      rw [show (0 : Int32) = nI 0 from rfl, this, Nat.add_zero, mg_two, v_sgnM hM (by omega) hs]
  unfold F_Real_fromWhole
  simp only [lt_]
  by_cases hmin : x = (-9223372036854775808 : Int64)
  · rw [if_neg (not_not_intro hmin)]
    obtain ⟨b1, b2⟩ := both 1 (2 ^ 62) 1 (by omega) (by omega) (by omega) (by omega)
    have b1' : F_Real_rounded n K (1 : Int32) (1 : Int32) (4611686018427387904 : Int64) = some (lN (mg f (te * 2 ^ f) lp (2 ^ 62) 1 + 1 * 2 ^ w)) := b1
    refine ⟨_, by rw [b1']; rfl, fun _ => b2, fun z => ?_, fun z => absurd hmin z⟩
    rw [hmin] at z
    exact absurd z (by decide)
  · rw [if_pos hmin]
    have ht := x.toInt_lt
    have ht2 := x.le_toInt
    by_cases hp : (0 : Int64) ≤ x
    · rw [if_pos hp, if_pos hp]
      have h0 : 0 ≤ x.toInt := by simpa using Int64.le_iff_toInt_le.mp hp
      obtain ⟨v, hv⟩ : ∃ v : Nat, x.toInt = v := ⟨x.toInt.toNat, by omega⟩
      have ex : x = lN v := by rw [← lZ_lN, ← hv]; exact (Int64.ofInt_toInt x).symm
      obtain ⟨b1, b2⟩ := both 0 v 0 (by omega) (by omega) (by omega) (by omega)
      rw [ex]
      refine ⟨_, by rw [show (0 : Int32) = nI 0 from rfl]; rw [show F_Real_rounded n K (nI 0) (nI 0) (lN v) = _ from b1]; rfl, fun z => absurd (ex.trans z) hmin, fun z => ?_, fun _ => b2⟩
      have : v = 0 := (lN_z (by omega)).mp z
      rw [this, mg_0, Nat.zero_mul]
      rfl
    · rw [if_neg hp, if_neg hp]
      have h0 : x.toInt < 0 := by
        have : ¬ (0 : Int) ≤ x.toInt := fun z => hp (Int64.le_iff_toInt_le.mpr (by simpa using z))
        omega
      have hne : x.toInt ≠ -9223372036854775808 := fun z => hmin (Int64.toInt_inj.mp (by rw [z]; rfl))
      obtain ⟨v, hv⟩ : ∃ v : Nat, x.toInt = -(v : Int) := ⟨(-x.toInt).toNat, by omega⟩
      have ex : -x = lN v := by
        have e1 : x = lZ (-(v : Int)) := by rw [← hv]; exact (Int64.ofInt_toInt x).symm
        rw [e1, lZ_neg, ← lZ_lN]
        congr 1
        omega
      obtain ⟨b1, b2⟩ := both 1 v 0 (by omega) (by omega) (by omega) (by omega)
      rw [ex]
      refine ⟨_, by rw [show F_Real_rounded n K (1 : Int32) (0 : Int32) (lN v) = _ from b1]; rfl, fun z => absurd z hmin, fun z => ?_, fun _ => b2⟩
      rw [z] at h0
      exact absurd h0 (by decide)
end CA
theorem fromReal_eq {K0 K2 : rK} {sg0 : Int32} {f0 te0 w0 f te w : Nat} {lp0 lp : Int} (hK0 : kS K0 f0 te0 w0 lp0) (hM0 : mSg sg0 f0 te0 w0 lp0) (hK2 : kS K2 f te w lp) {n : Nat} (hn : 10000 < n) {u : Nat} (hu : u < 2 ^ 64) :
    ∃ r : Int64, F_Real_fromReal n K0 K2 (lN u) = some r ∧ (te * 2 ^ f < dG w u → F_Md_nan sg0 = r) ∧ (dG w u = te * 2 ^ f → F_Md_far (nI (dS w u)) sg0 = r) ∧ (dG w u < te * 2 ^ f → F_Md_round n (nI (dS w u)) (lN (dM f w u)) (iZ (dP f w lp u)) (0 : Int32) sg0 = some r) := by
  have hF := kS_fmt hK2
  have hb := fmt_b hF
  have hF0 := kS_fmt hK0
  have hinf0 := fmt_inf hF0
  have hp0 := p2_pos f0
  have su := dS_le w u
  have mu := dM_lt f w u
  have pu := dP_b hF u
  have hp53 : 2 ^ (f + 1) ≤ 2 ^ 53 := p2_le (by omega)
  unfold F_Real_fromReal
  rw [v_isNan hK2 hu, v_isInfinite hK2 hu, v_isNegative hK2 hu, v_power hK2 hu, v_significand hK2 hu]
  by_cases h1 : te * 2 ^ f < dG w u
  · rw [if_pos h1, if_neg (show ¬ (1 : Int32) = 0 by decide)]
    exact ⟨_, rfl, fun _ => by rw [v_nanC hK0, v_nanM hM0], fun z => by omega, fun z => by omega⟩
  · rw [if_neg h1, if_pos (show (0 : Int32) = 0 from rfl)]
    by_cases h2 : dG w u = te * 2 ^ f
    · rw [if_pos h2, if_neg (show ¬ (1 : Int32) = 0 by decide)]
      exact ⟨_, rfl, fun z => absurd z h1, fun _ => by rw [v_farC hK0 su, v_farM hM0 su], fun z => by omega⟩
    · rw [if_neg h2, if_pos (show (0 : Int32) = 0 from rfl), v_rounded hK0 (by omega) _ (by omega) (by omega) (by omega)]
      have hle := mg_le f0 (te0 * 2 ^ f0) lp0 (dM f w u) (dP f w lp u)
      rw [v_signed hK0 (by omega) su]
      refine ⟨_, rfl, fun z => absurd z h1, fun z => absurd z h2, fun _ => ?_⟩
      have := v_round hM0 (n := n) (by omega) (nI (dS w u)) (e := dP f w lp u) (m := dM f w u) (l := 0) (by omega) (by omega) (by omega) (by omega) (fun z => by omega)
      rw [show (0 : Int32) = nI 0 from rfl, this, Nat.add_zero, mg_two, v_sgnM hM0 (by omega) su]

/-- a real towards zero: the class's long and the reference's -/
def twV (f w : Nat) (lp : Int) (u : Nat) : Nat := if 0 ≤ dP f w lp u then dM f w u * 2 ^ (dP f w lp u).toNat else dM f w u / 2 ^ (-dP f w lp u).toNat
section TW
variable {K : rK} {sgl : Int32} {f te w : Nat} {lp : Int}
theorem sat_iff (hF : fmt f te w lp) {u : Nat} (hn : dG w u ≤ te * 2 ^ f) : (62 - (f : Int) < dP f w lp u ↔ dG w u = te * 2 ^ f ∨ (dM f w u ≠ 0 ∧ 63 < (bl (dM f w u) : Int) + dP f w lp u)) ∧ (¬ 62 - (f : Int) < dP f w lp u → twV f w lp u < 2 ^ 63) := by
  have hb := fmt_b hF
  have hm := dM_lt f w u
  have hbl := bl_le hm
  have hlt := bl_lt (dM f w u)
  have hM0 := dM_0 (f := f) (w := w) (by omega) u
  constructor
  · constructor
    · intro h
      by_cases hi : dG w u = te * 2 ^ f
      · exact Or.inl hi
      · obtain ⟨-, g1, g2, g3⟩ := fin_b hF (u := u) (by omega)
        have := bl_gt (g3 (by omega))
        refine Or.inr ⟨fun z => ?_, by omega⟩
        rw [z, bl_0] at this
        omega
    · rintro (hi | ⟨-, h⟩)
      · have := (inf_iff hF u).2.mp hi
        unfold dP
        rw [this.1]
        rcases hF with ⟨rfl, rfl, rfl, rfl⟩ | ⟨rfl, rfl, rfl, rfl⟩ <;> omega
      · omega
  · intro h
    unfold twV
    by_cases hp : 0 ≤ dP f w lp u
    · rw [if_pos hp]
      have h3 : dM f w u * 2 ^ (dP f w lp u).toNat < 2 ^ (f + 1) * 2 ^ (dP f w lp u).toNat := Nat.mul_lt_mul_of_pos_right hm (p2_pos _)
      rw [← Nat.pow_add] at h3
      exact Nat.lt_of_lt_of_le h3 (p2_le (by omega))
    · rw [if_neg hp]
      have h4 := Nat.div_le_self (dM f w u) (2 ^ (-dP f w lp u).toNat)
      have : 2 ^ (f + 1) ≤ 2 ^ 53 := p2_le (by omega)
      omega
theorem v_toLong (hK : kS K f te w lp) {u : Nat} (hu : u < 2 ^ 64) : F_Real_toLong K (lN u) = if te * 2 ^ f < dG w u then 0 else if 62 - (f : Int) < dP f w lp u then (if dS w u = 0 then (9223372036854775807 : Int64) else (-9223372036854775808 : Int64)) else if dS w u = 0 then lN (twV f w lp u) else -lN (twV f w lp u) := by
  have hF := kS_fmt hK
  have hb := fmt_b hF
  have hm := dM_lt f w u
  have hp53 : 2 ^ (f + 1) ≤ 2 ^ 53 := p2_le (by omega)
  have pu := dP_b hF u
  have su := dS_le w u
  have cz : nI (dS w u) = 0 ↔ dS w u = 0 := nI_z (by omega)
  have eK : K.1 = nI f := by rw [hK.1]
  unfold F_Real_toLong
  simp only [lt_]
  rw [v_isNan hK hu, v_power hK hu, v_isNegative hK hu, v_significand hK hu, eK]
  have e62 : (62 : Int32) - nI f = iZ (62 - f) := by rw [← iZ_nI, show (62 : Int32) = iZ 62 from rfl, iZ_sub]
  have c62 : iZ (dP f w lp u) ≤ iZ (62 - f) ↔ dP f w lp u ≤ 62 - f := iZ_le (by omega) (by omega) (by omega) (by omega)
  have e64 : (-64 : Int32) = iZ (-64) := by decide
  have c64 : iZ (-64) < iZ (dP f w lp u) ↔ -64 < dP f w lp u := iZ_lt (by omega) (by omega) (by omega) (by omega)
  have c0 : (0 : Int32) ≤ iZ (dP f w lp u) ↔ 0 ≤ dP f w lp u := iZ_le (a := 0) (by omega) (by omega) (by omega) (by omega)
  rw [e62, e64]
  by_cases h1 : te * 2 ^ f < dG w u
  · rw [if_pos h1, if_pos h1, if_neg (show ¬ (1 : Int32) = 0 by decide)]
  · rw [if_neg h1, if_neg h1, if_pos (show (0 : Int32) = 0 from rfl)]
    by_cases h2 : 62 - (f : Int) < dP f w lp u
    · rw [if_pos h2, if_neg (fun z => by have := c62.mp z; omega)]
      by_cases hs : dS w u = 0
      · rw [if_pos hs, if_pos (cz.mpr hs)]
      · rw [if_neg hs, if_neg (fun z => hs (cz.mp z))]
    · rw [if_neg h2, if_pos (c62.mpr (by omega))]
      have ev : (if iZ (-64) < iZ (dP f w lp u) then (if 0 ≤ iZ (dP f w lp u) then lN (dM f w u) <<< ((iZ (dP f w lp u)).toInt64 &&& 63) else ((lN (dM f w u)).toUInt64 >>> ((-iZ (dP f w lp u)).toInt64.toUInt64 &&& Int64.toUInt64 63)).toInt64) else (0 : Int64)) = lN (twV f w lp u) := by
        unfold twV
        by_cases h3 : -64 < dP f w lp u
        · rw [if_pos (c64.mpr h3)]
          by_cases h4 : 0 ≤ dP f w lp u
          · rw [if_pos (c0.mpr h4), if_pos h4, show iZ (dP f w lp u) = nI (dP f w lp u).toNat by rw [← iZ_nI]; congr 1; omega, wb_shl _ (by omega)]
          · rw [if_neg (fun z => h4 (c0.mp z)), if_neg h4, show -iZ (dP f w lp u) = nI (-dP f w lp u).toNat by rw [iZ_neg, ← iZ_nI]; congr 1; omega, wb_shr (by omega) (by omega)]
        · rw [if_neg (fun z => h3 (c64.mp z)), if_neg (show ¬ 0 ≤ dP f w lp u by omega), Nat.div_eq_of_lt]
          · rfl
          · have : 2 ^ 53 ≤ 2 ^ (-dP f w lp u).toNat := p2_le (by omega)
            omega
      by_cases h3 : -64 < dP f w lp u
      · rw [if_pos (c64.mpr h3)] at ev ⊢
        rw [ev]
        by_cases hs : dS w u = 0
        · rw [if_pos hs, if_pos (cz.mpr hs)]
        · rw [if_neg hs, if_neg (fun z => hs (cz.mp z))]
      · rw [if_neg (fun z => h3 (c64.mp z))] at ev ⊢
        rw [← ev]
        by_cases hs : dS w u = 0
        · rw [if_pos hs]
        · rw [if_neg hs]; rfl
theorem v_towards (hF : fmt f te w lp) {n : Nat} (hn : 10000 < n) {u : Nat} (hn2 : dG w u ≤ te * 2 ^ f) (wide : Int32) : F_Md_towards n (lN (dM f w u)) (iZ (dP f w lp u)) (nI (dS w u)) 0 (if dG w u = te * 2 ^ f then 1 else 0) wide = some (if dG w u = te * 2 ^ f ∨ (dM f w u ≠ 0 ∧ (if wide = 0 then 31 else 63) < (bl (dM f w u) : Int) + dP f w lp u) then (if dS w u = 0 then (if wide = 0 then (2147483647 : Int64) else (9223372036854775807 : Int64)) else -(if wide = 0 then (2147483647 : Int64) else (9223372036854775807 : Int64)) - (1 : Int64)) else if dS w u = 0 then lN (twV f w lp u) else -lN (twV f w lp u)) := by
  have hb := fmt_b hF
  have hm := dM_lt f w u
  have hp53 : 2 ^ (f + 1) ≤ 2 ^ 53 := p2_le (by omega)
  have pu := dP_b hF u
  have su := dS_le w u
  have hbl := bl_le (Nat.lt_of_lt_of_le hm hp53)
  have cz : nI (dS w u) = 0 ↔ dS w u = 0 := nI_z (by omega)
  have cm : lN (dM f w u) = (0 : Int64) ↔ dM f w u = 0 := lN_z (by omega)
  have c0 : iZ (dP f w lp u) < (0 : Int32) ↔ dP f w lp u < 0 := iZ_lt (b := 0) (by omega) (by omega) (by omega) (by omega)
  have e60 : (-60 : Int32) = iZ (-60) := by decide
  have c60 : iZ (-60) ≤ iZ (dP f w lp u) ↔ -60 ≤ dP f w lp u := iZ_le (by omega) (by omega) (by omega) (by omega)
  have e1 : (if wide = 0 then (31 : Int32) else (63 : Int32)) = iZ (if wide = 0 then 31 else 63) := by split <;> rfl
  unfold F_Md_towards
  simp only [lt_]
  rw [if_pos trivial, e1, e60]
  have hsat : (if nI (dS w u) = 0 then (if wide = 0 then (2147483647 : Int64) else (9223372036854775807 : Int64)) else (-(if wide = 0 then (2147483647 : Int64) else (9223372036854775807 : Int64))) - (1 : Int64)) = (if dS w u = 0 then (if wide = 0 then (2147483647 : Int64) else (9223372036854775807 : Int64)) else -(if wide = 0 then (2147483647 : Int64) else (9223372036854775807 : Int64)) - (1 : Int64)) := by
    by_cases hs : dS w u = 0
    · rw [if_pos hs, if_pos (cz.mpr hs)]
    · rw [if_neg hs, if_neg (fun z => hs (cz.mp z))]
  by_cases hi : dG w u = te * 2 ^ f
  · rw [if_pos hi, if_pos (show ¬ (1 : Int32) = 0 by decide), if_pos (Or.inl hi), hsat]
  · rw [if_neg hi, if_neg (show ¬ ¬ (0 : Int32) = 0 by decide)]
    have ev : dP f w lp u ≤ 63 → (if nI (dS w u) = 0 then (if iZ (dP f w lp u) < 0 then if iZ (-60) ≤ iZ (dP f w lp u) then lN (dM f w u) >>> ((-iZ (dP f w lp u)).toInt64 &&& 63) else (0 : Int64) else lN (dM f w u) <<< ((iZ (dP f w lp u)).toInt64 &&& 63)) else -(if iZ (dP f w lp u) < 0 then if iZ (-60) ≤ iZ (dP f w lp u) then lN (dM f w u) >>> ((-iZ (dP f w lp u)).toInt64 &&& 63) else (0 : Int64) else lN (dM f w u) <<< ((iZ (dP f w lp u)).toInt64 &&& 63))) = if dS w u = 0 then lN (twV f w lp u) else -lN (twV f w lp u) := by
      intro h63
      have e : (if iZ (dP f w lp u) < 0 then if iZ (-60) ≤ iZ (dP f w lp u) then lN (dM f w u) >>> ((-iZ (dP f w lp u)).toInt64 &&& 63) else (0 : Int64) else lN (dM f w u) <<< ((iZ (dP f w lp u)).toInt64 &&& 63)) = lN (twV f w lp u) := by
        unfold twV
        by_cases h4 : dP f w lp u < 0
        · rw [if_pos (c0.mpr h4), if_neg (show ¬ 0 ≤ dP f w lp u by omega)]
          by_cases h5 : -60 ≤ dP f w lp u
          · rw [if_pos (c60.mpr h5), show -iZ (dP f w lp u) = nI (-dP f w lp u).toNat by rw [iZ_neg, ← iZ_nI]; congr 1; omega, wb_c _ (by omega)]
            exact pf_shr (by rw [lN_bv, wb_sm _ (by omega), BitVec.toNat_ofNat]; omega) (by omega)
          · rw [if_neg (fun z => h5 (c60.mp z)), Nat.div_eq_of_lt]
            · rfl
            · have : 2 ^ 53 ≤ 2 ^ (-dP f w lp u).toNat := p2_le (by omega)
              omega
        · rw [if_neg (fun z => h4 (c0.mp z)), if_pos (show 0 ≤ dP f w lp u by omega)]
          by_cases h6 : dP f w lp u = 63 ∨ dP f w lp u < 63
          · rw [show iZ (dP f w lp u) = nI (dP f w lp u).toNat by rw [← iZ_nI]; congr 1; omega, wb_shl _ (by omega)]
          · omega
      rw [e]
      by_cases hs : dS w u = 0
      · rw [if_pos hs, if_pos (cz.mpr hs)]
      · rw [if_neg hs, if_neg (fun z => hs (cz.mp z))]
    by_cases hz : dM f w u = 0
    · have hG := (dM_0 (f := f) (w := w) (by omega) u).mp hz
      obtain ⟨-, g1, g2, g3⟩ := fin_b hF (u := u) (by omega)
      have hp : dP f w lp u ≤ 63 := by
        rcases (by omega : lp < dP f w lp u ∨ dP f w lp u ≤ 63) with q | q
        · have := g3 q
          have := p2_pos f
          omega
        · exact q
      rw [if_pos (cm.mpr hz), ev hp, if_neg (show ¬ (dG w u = te * 2 ^ f ∨ (dM f w u ≠ 0 ∧ (if wide = 0 then 31 else 63) < (bl (dM f w u) : Int) + dP f w lp u)) from fun z => z.elim hi (fun y => y.1 hz))]
    · rw [if_neg (fun z => hz (cm.mp z)), v_length (by omega) (by omega)]
      simp only [Option.bind_some]
      have el : nI (bl (dM f w u)) + iZ (dP f w lp u) = iZ (bl (dM f w u) + dP f w lp u) := by rw [← iZ_nI, iZ_add]
      have hl1 := bl_pos hz
      have cl : iZ (bl (dM f w u) + dP f w lp u) ≤ iZ (if wide = 0 then 31 else 63) ↔ (bl (dM f w u) : Int) + dP f w lp u ≤ (if wide = 0 then 31 else 63) := iZ_le (by omega) (by omega) (by split <;> omega) (by split <;> omega)
      rw [el]
      by_cases hle : (bl (dM f w u) : Int) + dP f w lp u ≤ (if wide = 0 then 31 else 63)
      · have hp : dP f w lp u ≤ 63 := by split at hle <;> omega
        rw [if_pos (cl.mpr hle), ev hp, if_neg (show ¬ (dG w u = te * 2 ^ f ∨ (dM f w u ≠ 0 ∧ (if wide = 0 then 31 else 63) < (bl (dM f w u) : Int) + dP f w lp u)) from fun z => z.elim hi (fun y => by have := y.2; omega))]
      · rw [if_neg (fun z => hle (cl.mp z)), if_pos (Or.inr ⟨hz, by omega⟩), hsat]
end TW
