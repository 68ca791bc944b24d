/-! All numbers that are not NaN: class and reference answer alike. -/
theorem v_nanC {K : rK} {f te w : Nat} {lp : Int} (hK : kS K f te w lp) : F_Real_nan K = lN (te * 2 ^ f + 2 ^ (f - 1)) := by
  obtain ⟨rfl, h⟩ := hK
  rcases h with ⟨rfl, rfl, rfl, rfl⟩ | ⟨rfl, rfl, rfl, rfl⟩ <;> decide
theorem v_nanM {sgl : Int32} {f te w : Nat} {lp : Int} (hM : mSg sgl f te w lp) : F_Md_nan sgl = lN (te * 2 ^ f + 2 ^ (f - 1)) := by
  rcases hM with ⟨rfl, rfl, rfl, rfl, rfl⟩ | ⟨rfl, rfl, rfl, rfl, rfl⟩ <;> decide
theorem v_farM {sgl : Int32} {f te w : Nat} {lp : Int} (hM : mSg sgl f te w lp) {s : Nat} (hs : s ≤ 1) : F_Md_far (nI s) sgl = lN (te * 2 ^ f + s * 2 ^ w) := by
  have hinf := fmt_inf (mSg_fmt hM)
  have hpf := p2_pos f
  have h : F_Md_far (nI s) sgl = lN (te * 2 ^ f) ||| F_Md_sign (nI s) sgl := by
    rcases hM with ⟨rfl, rfl, rfl, rfl, rfl⟩ | ⟨rfl, rfl, rfl, rfl, rfl⟩ <;> rfl
  rw [h, v_sgnM hM (by omega) hs]
theorem v_farC {K : rK} {f te w : Nat} {lp : Int} (hK : kS K f te w lp) {s : Nat} (hs : s ≤ 1) : F_Real_signed K (nI s) K.2.2.2.2 = lN (te * 2 ^ f + s * 2 ^ w) := by
  have hinf := fmt_inf (kS_fmt hK)
  have hpf := p2_pos f
  have h : K.2.2.2.2 = lN (te * 2 ^ f) := by rw [hK.1]
  rw [h]
  exact v_signed hK (by omega) hs
/-- an infinite number has a significand -/
theorem inf_M {f te w : Nat} {lp : Int} (h : fmt f te w lp) {u : Nat} (hi : dG w u = te * 2 ^ f) : dM f w u ≠ 0 := by
  have hb := fmt_b h
  have hp := p2_pos f
  intro z
  have := (dM_0 (f := f) (w := w) (by omega) u).mp z
  have h2 : 0 < te * 2 ^ f := Nat.mul_pos (by omega) hp
  omega
theorem dP_b {f te w : Nat} {lp : Int} (h : fmt f te w lp) (u : Nat) : -3000 ≤ dP f w lp u ∧ dP f w lp u ≤ 3000 := by
  have hb := fmt_b h
  have he := dE_le h u
  unfold dP
  omega
section EQ
variable {K : rK} {sgl : Int32} {f te w : Nat} {lp : Int}
theorem add_eq (hK : kS K f te w lp) (hM : mSg sgl f te w lp) {n : Nat} (hn : 10000 < n) {a b s2 : Nat} (ha : a < 2 ^ 64) (hb : b < 2 ^ 64) (ra : dG w a ≤ te * 2 ^ f) (rb : dG w b ≤ te * 2 ^ f) (hs2 : s2 = dS w b) :
    ∃ r : Int64, F_Real_sum n K (lN a) (lN b) = some r ∧ F_Md_add n (lN (dM f w a)) (lN (dM f w b)) (iZ (dP f w lp a)) (iZ (dP f w lp b)) (nI (dS w a)) (nI s2) 0 0 (if dG w a = te * 2 ^ f then 1 else 0) (if dG w b = te * 2 ^ f then 1 else 0) sgl = some r := by
  subst hs2
  have hF := kS_fmt hK
  have ma := dM_lt f w a
  have mb := dM_lt f w b
  have sa := dS_le w a
  have sb := dS_le w b
  have pa := dP_b hF a
  have pb := dP_b hF b
  have z0 : ((0 : Int32) = 0) = True := by decide
  have z1 : ((1 : Int32) = 0) = False := by decide
  have cS : nI (dS w a) = nI (dS w b) ↔ dS w a = dS w b := nI_eq (by omega) (by omega)
  by_cases ia : dG w a = te * 2 ^ f
  · by_cases ib : dG w b = te * 2 ^ f
    · unfold F_Real_sum F_Real_infiniteSum F_Md_add
      simp only [lt_, v_isInfinite hK ha, v_isInfinite hK hb, v_isNegative hK ha, v_isNegative hK hb, if_pos ia, if_pos ib, z0, z1, not_true_eq_false, not_false_eq_true, if_true, if_false]
      by_cases hs : dS w a = dS w b
      · rw [if_pos (cS.mpr hs), if_pos (cS.mpr hs)]
        exact ⟨_, rfl, by rw [v_farC hK sa, v_farM hM sa]⟩
      · rw [if_neg (fun z => hs (cS.mp z)), if_neg (fun z => hs (cS.mp z))]
        exact ⟨_, rfl, by rw [v_nanC hK, v_nanM hM]⟩
    · unfold F_Real_sum F_Real_infiniteSum F_Md_add
      simp only [lt_, v_isInfinite hK ha, v_isInfinite hK hb, v_isNegative hK ha, v_isNegative hK hb, if_pos ia, if_neg ib, z0, z1, not_true_eq_false, not_false_eq_true, if_true, if_false]
      exact ⟨_, rfl, by rw [v_farC hK sa, v_farM hM sa]⟩
  · by_cases ib : dG w b = te * 2 ^ f
    · unfold F_Real_sum F_Real_infiniteSum F_Md_add
      simp only [lt_, v_isInfinite hK ha, v_isInfinite hK hb, v_isNegative hK ha, v_isNegative hK hb, if_neg ia, if_pos ib, z0, z1, not_true_eq_false, not_false_eq_true, if_true, if_false]
      exact ⟨_, rfl, by rw [v_farC hK sb, v_farM hM sb]⟩
    · rw [if_neg ia, if_neg ib]
      exact ⟨_, v_sum_fin hK (by omega) ha hb (by omega) (by omega), v_add_fin hM (by omega) ma mb pa.1 pa.2 pb.1 pb.2 sa sb⟩
theorem times_eq (hK : kS K f te w lp) (hM : mSg sgl f te w lp) {n : Nat} (hn : 10000 < n) {a b : Nat} (ha : a < 2 ^ 64) (hb : b < 2 ^ 64) (ra : dG w a ≤ te * 2 ^ f) (rb : dG w b ≤ te * 2 ^ f) :
    ∃ r : Int64, F_Real_product n K (lN a) (lN b) = some r ∧ F_Md_times n (lN (dM f w a)) (lN (dM f w b)) (iZ (dP f w lp a)) (iZ (dP f w lp b)) (nI (dS w a)) (nI (dS w b)) 0 0 (if dG w a = te * 2 ^ f then 1 else 0) (if dG w b = te * 2 ^ f then 1 else 0) sgl = some r := by
  have hF := kS_fmt hK
  have hbb := fmt_b hF
  have ma := dM_lt f w a
  have mb := dM_lt f w b
  have sa := dS_le w a
  have sb := dS_le w b
  have pa := dP_b hF a
  have pb := dP_b hF b
  have hp53 : 2 ^ (f + 1) ≤ 2 ^ 53 := p2_le (by omega)
  have z0 : ((0 : Int32) = 0) = True := by decide
  have z1 : ((1 : Int32) = 0) = False := by decide
  have cS : nI (dS w a) = nI (dS w b) ↔ dS w a = dS w b := nI_eq (by omega) (by omega)
  have eS : (if nI (dS w a) = nI (dS w b) then (0 : Int32) else (1 : Int32)) = nI ((dS w a + dS w b) % 2) := by
    by_cases h : dS w a = dS w b
    · rw [if_pos (cS.mpr h), show (dS w a + dS w b) % 2 = 0 by omega]; rfl
    · rw [if_neg (fun z => h (cS.mp z)), show (dS w a + dS w b) % 2 = 1 by omega]; rfl
  have hsx : (dS w a + dS w b) % 2 ≤ 1 := by omega
  have hfar : F_Real_signed K (nI ((dS w a + dS w b) % 2)) K.2.2.2.2 = F_Md_far (nI ((dS w a + dS w b) % 2)) sgl := by rw [v_farC hK hsx, v_farM hM hsx]
  have hnan : F_Real_nan K = F_Md_nan sgl := by rw [v_nanC hK, v_nanM hM]
  have za := dM_0 (f := f) (w := w) (by omega) a
  have zb := dM_0 (f := f) (w := w) (by omega) b
  have ca : (lN (dM f w a) = (0 : Int64)) = (dG w a = 0) := propext ((lN_z (by omega)).trans za)
  have cb : (lN (dM f w b) = (0 : Int64)) = (dG w b = 0) := propext ((lN_z (by omega)).trans zb)
  have hfin : dG w a < te * 2 ^ f → dG w b < te * 2 ^ f → ∃ r : Int64, F_Real_product n K (lN a) (lN b) = some r ∧ F_Md_times n (lN (dM f w a)) (lN (dM f w b)) (iZ (dP f w lp a)) (iZ (dP f w lp b)) (nI (dS w a)) (nI (dS w b)) 0 0 0 0 sgl = some r := fun q1 q2 => ⟨_, v_product_fin hK (by omega) ha hb q1 q2, v_times_fin hM (by omega) ma mb pa.1 pa.2 pb.1 pb.2 sa sb⟩
  by_cases ia : dG w a = te * 2 ^ f
  · have na : ¬ dG w a = 0 := fun z => inf_M hF ia (za.mpr z)
    have kna := eq_false na
    by_cases ib : dG w b = te * 2 ^ f
    · have nb : ¬ dG w b = 0 := fun z => inf_M hF ib (zb.mpr z)
      have knb := eq_false nb
      unfold F_Real_product F_Md_times
      simp only [lt_, ca, cb, eS, v_isInfinite hK ha, v_isInfinite hK hb, v_isZero hK ha, v_isZero hK hb, v_isNegative hK ha, v_isNegative hK hb, if_pos ia, if_pos ib, if_neg na, if_neg nb, z0, z1, not_true_eq_false, not_false_eq_true, if_true, if_false, kna, knb]
      exact ⟨_, rfl, by rw [hfar]⟩
    · by_cases nb : dG w b = 0
      · have knb := eq_true nb
        unfold F_Real_product F_Md_times
        simp only [lt_, ca, cb, eS, v_isInfinite hK ha, v_isInfinite hK hb, v_isZero hK ha, v_isZero hK hb, v_isNegative hK ha, v_isNegative hK hb, if_pos ia, if_neg ib, if_neg na, if_pos nb, z0, z1, not_true_eq_false, not_false_eq_true, if_true, if_false, kna, knb]
        exact ⟨_, rfl, by rw [hnan]⟩
      · have knb := eq_false nb
        unfold F_Real_product F_Md_times
        simp only [lt_, ca, cb, eS, v_isInfinite hK ha, v_isInfinite hK hb, v_isZero hK ha, v_isZero hK hb, v_isNegative hK ha, v_isNegative hK hb, if_pos ia, if_neg ib, if_neg na, if_neg nb, z0, z1, not_true_eq_false, not_false_eq_true, if_true, if_false, kna, knb]
        exact ⟨_, rfl, by rw [hfar]⟩
  · by_cases ib : dG w b = te * 2 ^ f
    · have nb : ¬ dG w b = 0 := fun z => inf_M hF ib (zb.mpr z)
      have knb := eq_false nb
      by_cases na : dG w a = 0
      · have kna := eq_true na
        unfold F_Real_product F_Md_times
        simp only [lt_, ca, cb, eS, v_isInfinite hK ha, v_isInfinite hK hb, v_isZero hK ha, v_isZero hK hb, v_isNegative hK ha, v_isNegative hK hb, if_neg ia, if_pos ib, if_pos na, if_neg nb, z0, z1, not_true_eq_false, not_false_eq_true, if_true, if_false, kna, knb]
        exact ⟨_, rfl, by rw [hnan]⟩
      · have kna := eq_false na
        unfold F_Real_product F_Md_times
        simp only [lt_, ca, cb, eS, v_isInfinite hK ha, v_isInfinite hK hb, v_isZero hK ha, v_isZero hK hb, v_isNegative hK ha, v_isNegative hK hb, if_neg ia, if_pos ib, if_neg na, if_neg nb, z0, z1, not_true_eq_false, not_false_eq_true, if_true, if_false, kna, knb]
        exact ⟨_, rfl, by rw [hfar]⟩
    · rw [if_neg ia, if_neg ib]
      exact hfin (by omega) (by omega)
theorem over_eq (hK : kS K f te w lp) (hM : mSg sgl f te w lp) {n : Nat} (hn : 10000 < n) {a b : Nat} (ha : a < 2 ^ 64) (hb : b < 2 ^ 64) (ra : dG w a ≤ te * 2 ^ f) (rb : dG w b ≤ te * 2 ^ f) :
    ∃ r : Int64, F_Real_quotient n K (lN a) (lN b) = some r ∧ F_Md_over n (lN (dM f w a)) (lN (dM f w b)) (iZ (dP f w lp a)) (iZ (dP f w lp b)) (nI (dS w a)) (nI (dS w b)) 0 0 (if dG w a = te * 2 ^ f then 1 else 0) (if dG w b = te * 2 ^ f then 1 else 0) sgl = some r := by
  have hF := kS_fmt hK
  have hbb := fmt_b hF
  have ma := dM_lt f w a
  have mb := dM_lt f w b
  have sa := dS_le w a
  have sb := dS_le w b
  have pa := dP_b hF a
  have pb := dP_b hF b
  have hp53 : 2 ^ (f + 1) ≤ 2 ^ 53 := p2_le (by omega)
  have z0 : ((0 : Int32) = 0) = True := by decide
  have z1 : ((1 : Int32) = 0) = False := by decide
  have cS : nI (dS w a) = nI (dS w b) ↔ dS w a = dS w b := nI_eq (by omega) (by omega)
  have eS : (if nI (dS w a) = nI (dS w b) then (0 : Int32) else (1 : Int32)) = nI ((dS w a + dS w b) % 2) := by
    by_cases h : dS w a = dS w b
    · rw [if_pos (cS.mpr h), show (dS w a + dS w b) % 2 = 0 by omega]; rfl
    · rw [if_neg (fun z => h (cS.mp z)), show (dS w a + dS w b) % 2 = 1 by omega]; rfl
  have hsx : (dS w a + dS w b) % 2 ≤ 1 := by omega
  have hfar : F_Real_signed K (nI ((dS w a + dS w b) % 2)) K.2.2.2.2 = F_Md_far (nI ((dS w a + dS w b) % 2)) sgl := by rw [v_farC hK hsx, v_farM hM hsx]
  have hzero : F_Real_signed K (nI ((dS w a + dS w b) % 2)) (0 : Int64) = F_Md_sign (nI ((dS w a + dS w b) % 2)) sgl := by
    rw [v_sign0 hM hsx]
    have := v_signed hK (x := 0) (s := (dS w a + dS w b) % 2) (p2_pos w) hsx
    rw [Nat.zero_add] at this
    exact this
  have hnan : F_Real_nan K = F_Md_nan sgl := by rw [v_nanC hK, v_nanM hM]
  have za := dM_0 (f := f) (w := w) (by omega) a
  have zb := dM_0 (f := f) (w := w) (by omega) b
  have ca : (lN (dM f w a) = (0 : Int64)) = (dG w a = 0) := propext ((lN_z (by omega)).trans za)
  have cb : (lN (dM f w b) = (0 : Int64)) = (dG w b = 0) := propext ((lN_z (by omega)).trans zb)
  by_cases ia : dG w a = te * 2 ^ f
  · have na : ¬ dG w a = 0 := fun z => inf_M hF ia (za.mpr z)
    have kna := eq_false na
    by_cases ib : dG w b = te * 2 ^ f
    · have nb : ¬ dG w b = 0 := fun z => inf_M hF ib (zb.mpr z)
      have knb := eq_false nb
      unfold F_Real_quotient F_Md_over
      simp only [lt_, ca, cb, eS, v_isInfinite hK ha, v_isInfinite hK hb, v_isZero hK ha, v_isZero hK hb, v_isNegative hK ha, v_isNegative hK hb, if_pos ia, if_pos ib, if_neg na, if_neg nb, z0, z1, not_true_eq_false, not_false_eq_true, if_true, if_false, kna, knb]
      exact ⟨_, rfl, by rw [hnan]⟩
    · rcases Classical.propComplete (dG w b = 0) with knb | knb <;>
      · unfold F_Real_quotient F_Md_over
        simp only [lt_, ca, cb, eS, v_isInfinite hK ha, v_isInfinite hK hb, v_isZero hK ha, v_isZero hK hb, v_isNegative hK ha, v_isNegative hK hb, if_pos ia, if_neg ib, if_neg na, z0, z1, not_true_eq_false, not_false_eq_true, if_true, if_false, kna, knb]
        exact ⟨_, rfl, by rw [hfar]⟩
  · by_cases ib : dG w b = te * 2 ^ f
    · have nb : ¬ dG w b = 0 := fun z => inf_M hF ib (zb.mpr z)
      have knb := eq_false nb
      rcases Classical.propComplete (dG w a = 0) with kna | kna <;>
      · unfold F_Real_quotient F_Md_over
        simp only [lt_, ca, cb, eS, v_isInfinite hK ha, v_isInfinite hK hb, v_isZero hK ha, v_isZero hK hb, v_isNegative hK ha, v_isNegative hK hb, if_neg ia, if_pos ib, if_neg nb, z0, z1, not_true_eq_false, not_false_eq_true, if_true, if_false, kna, knb]
        exact ⟨_, rfl, by rw [hzero]⟩
    · by_cases nb : dG w b = 0
      · have knb := eq_true nb
        by_cases na : dG w a = 0
        · have kna := eq_true na
          unfold F_Real_quotient F_Md_over
          simp only [lt_, ca, cb, eS, v_isInfinite hK ha, v_isInfinite hK hb, v_isZero hK ha, v_isZero hK hb, v_isNegative hK ha, v_isNegative hK hb, if_neg ia, if_neg ib, z0, z1, not_true_eq_false, not_false_eq_true, if_true, if_false, kna, knb]
          exact ⟨_, rfl, by rw [hnan]⟩
        · have kna := eq_false na
          unfold F_Real_quotient F_Md_over
          simp only [lt_, ca, cb, eS, v_isInfinite hK ha, v_isInfinite hK hb, v_isZero hK ha, v_isZero hK hb, v_isNegative hK ha, v_isNegative hK hb, if_neg ia, if_neg ib, z0, z1, not_true_eq_false, not_false_eq_true, if_true, if_false, kna, knb]
          exact ⟨_, rfl, by rw [hfar]⟩
      · have knb := eq_false nb
        by_cases na : dG w a = 0
        · have kna := eq_true na
          unfold F_Real_quotient F_Md_over
          simp only [lt_, ca, cb, eS, v_isInfinite hK ha, v_isInfinite hK hb, v_isZero hK ha, v_isZero hK hb, v_isNegative hK ha, v_isNegative hK hb, if_neg ia, if_neg ib, z0, z1, not_true_eq_false, not_false_eq_true, if_true, if_false, kna, knb]
          exact ⟨_, rfl, by rw [hzero]⟩
        · have kna := eq_false na
          rw [if_neg ia, if_neg ib]
          exact ⟨_, v_quotient_fin hK (by omega) ha hb (by omega) (by omega) na nb, v_over_fin hM (by omega) ma mb (fun z => na (za.mp z)) (fun z => nb (zb.mp z)) pa.1 pa.2 pb.1 pb.2 sa sb⟩
theorem rest_eq (hK : kS K f te w lp) (hM : mSg sgl f te w lp) {n : Nat} (hn : 10000 < n) {a b : Nat} (ha : a < 2 ^ 64) (hb : b < 2 ^ 64) (ra : dG w a ≤ te * 2 ^ f) (rb : dG w b ≤ te * 2 ^ f) :
    ∃ r : Int64, F_Real_remainder n K (lN a) (lN b) = some r ∧ F_Md_rest n (lN (dM f w a)) (lN (dM f w b)) (iZ (dP f w lp a)) (iZ (dP f w lp b)) (nI (dS w a)) 0 0 (if dG w a = te * 2 ^ f then 1 else 0) (if dG w b = te * 2 ^ f then 1 else 0) sgl = some r := by
  have hF := kS_fmt hK
  have hbb := fmt_b hF
  have hi := inf_lt hF
  have hinf := fmt_inf hF
  have hpf := p2_pos f
  have ma := dM_lt f w a
  have mb := dM_lt f w b
  have sa := dS_le w a
  have pa := dP_b hF a
  have pb := dP_b hF b
  have hp53 : 2 ^ (f + 1) ≤ 2 ^ 53 := p2_le (by omega)
  have z0 : ((0 : Int32) = 0) = True := by decide
  have z1 : ((1 : Int32) = 0) = False := by decide
  have hnan : F_Real_nan K = F_Md_nan sgl := by rw [v_nanC hK, v_nanM hM]
  have za := dM_0 (f := f) (w := w) (by omega) a
  have zb := dM_0 (f := f) (w := w) (by omega) b
  have cb : (lN (dM f w b) = (0 : Int64)) = (dG w b = 0) := propext ((lN_z (by omega)).trans zb)
  by_cases ia : dG w a = te * 2 ^ f
  · unfold F_Real_remainder F_Md_rest
    simp only [lt_, v_isInfinite hK ha, if_pos ia, z0, z1, not_true_eq_false, not_false_eq_true, if_true, if_false]
    exact ⟨_, rfl, by rw [hnan]⟩
  · by_cases ib : dG w b = te * 2 ^ f
    · have nb : ¬ dG w b = 0 := fun z => inf_M hF ib (zb.mpr z)
      have knb := eq_false nb
      have cg : (lN (dG w b) ≤ lN (dG w a)) = False := eq_false (fun z => by have := (pk_lLE (by omega) (by omega)).mp z; omega)
      have hround : (F_Md_round n (nI (dS w a)) (lN (dM f w a)) (iZ (dP f w lp a)) (0 : Int32) sgl).bind (fun x => some x) = some (F_Real_signed K (nI (dS w a)) (lN (dG w a))) := by
        have := v_round hM (n := n) (by omega) (nI (dS w a)) (e := dP f w lp a) (m := dM f w a) (l := 0) (by omega) (by omega) (by omega) (by omega) (fun z => by omega)
        rw [show (0 : Int32) = nI 0 from rfl, this]
        simp only [Option.bind_some]
        rw [Nat.add_zero, mg_two, mg_id hF (by omega), v_sgnM hM (by omega) sa, v_signed hK (by omega) sa]
      unfold F_Real_remainder F_Md_rest
      simp only [lt_, cb, cg, v_isInfinite hK ha, v_isZero hK hb, v_magnitude hK ha, v_magnitude hK hb, v_isNegative hK ha, if_neg ia, if_pos ib, if_neg nb, knb, z0, z1, not_true_eq_false, not_false_eq_true, if_true, if_false]
      exact ⟨_, rfl, hround⟩
    · by_cases nb : dG w b = 0
      · have knb := eq_true nb
        unfold F_Real_remainder F_Md_rest
        simp only [lt_, cb, v_isInfinite hK ha, v_isZero hK hb, if_neg ia, if_neg ib, if_pos nb, knb, z0, z1, not_true_eq_false, not_false_eq_true, if_true, if_false]
        exact ⟨_, rfl, by rw [hnan]⟩
      · have knb := eq_false nb
        rw [if_neg ia, if_neg ib]
        obtain ⟨-, l1, l2, l3⟩ := fin_b hF (u := b) (by omega)
        obtain ⟨-, g1, g2, g3⟩ := fin_b hF (u := a) (by omega)
        exact ⟨_, v_remainder_fin hK hn ha hb (by omega) (by omega) nb, v_rest_fin hM hn ma mb (fun z => nb (zb.mp z)) (fun z => l3 (by omega)) pa.1 pa.2 pb.1 pb.2 sa⟩
end EQ
