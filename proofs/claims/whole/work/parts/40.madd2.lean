/-! The reference's sum of two finite numbers is sumR. -/
theorem v_sign0 {sgl : Int32} {f te w : Nat} {lp : Int} (hM : mSg sgl f te w lp) {s : Nat} (hs : s ≤ 1) : F_Md_sign (nI s) sgl = lN (s * 2 ^ w) := by
  have h := v_sgnM hM (x := 0) (p2_pos w) hs
  rw [show lN 0 = 0 from rfl, Int64.zero_or, Nat.zero_add] at h
  exact h
theorem mg_up (f inf : Nat) (lp : Int) (m : Nat) {p q : Int} (h : q ≤ p) : mg f inf lp (m * 2 ^ (p - q).toNat) q = mg f inf lp m p := by
  have := mg_scale f inf lp m (p - q).toNat p
  rw [show p - ((p - q).toNat : Int) = q by omega] at this
  exact this
theorem sumR_core (f te w : Nat) (lp : Int) {mG mL kG kL d sG sL : Nat} {pG pL : Int} (hd : pG - kG = pL - kL + d) (hge : mL * 2 ^ kL ≤ mG * 2 ^ kG * 2 ^ d) :
    (if sG = sL then mg f (te * 2 ^ f) lp (mG * 2 ^ kG * 2 ^ d + mL * 2 ^ kL) (pL - kL) + sG * 2 ^ w else if mG * 2 ^ kG * 2 ^ d = mL * 2 ^ kL then 0 else mg f (te * 2 ^ f) lp (mG * 2 ^ kG * 2 ^ d - mL * 2 ^ kL) (pL - kL) + sG * 2 ^ w) = sumR f te w lp sG mG pG sL mL pL := by
  have e1 : mG * 2 ^ kG * 2 ^ d = mG * 2 ^ (pG - min pG pL).toNat * 2 ^ (min pG pL - (pL - kL)).toNat := by
    rw [Nat.mul_assoc, Nat.mul_assoc, ← Nat.pow_add, ← Nat.pow_add]
    congr 2
    omega
  have e2 : mL * 2 ^ kL = mL * 2 ^ (pL - min pG pL).toNat * 2 ^ (min pG pL - (pL - kL)).toNat := by
    rw [Nat.mul_assoc, ← Nat.pow_add]
    congr 2
    omega
  have hle : pL - kL ≤ min pG pL := by omega
  unfold sumR
  rw [e1, e2] at hge ⊢
  have hpt := p2_pos (min pG pL - (pL - kL)).toNat
  generalize mG * 2 ^ (pG - min pG pL).toNat = a at *
  generalize mL * 2 ^ (pL - min pG pL).toNat = b at *
  have hba : b ≤ a := Nat.le_of_mul_le_mul_right hge hpt
  rw [← Nat.add_mul, ← Nat.sub_mul, mg_up f _ lp _ hle, mg_up f _ lp _ hle]
  by_cases hs : sG = sL
  · rw [if_pos hs, if_pos hs]
  · rw [if_neg hs, if_neg hs]
    by_cases h : a = b
    · rw [if_pos h, if_pos (by rw [h])]
    · rw [if_neg h, if_neg (fun z => h (Nat.eq_of_mul_eq_mul_right hpt z)), if_pos (by omega)]
theorem v_add_fin {sgl : Int32} {f te w : Nat} {lp : Int} (hM : mSg sgl f te w lp) {n : Nat} (hn : 64 < n) {m1 m2 s1 s2 : Nat} {p1 p2 : Int} (h1 : m1 < 2 ^ (f + 1)) (h2 : m2 < 2 ^ (f + 1)) (r1 : -3000 ≤ p1) (r2 : p1 ≤ 3000) (r3 : -3000 ≤ p2) (r4 : p2 ≤ 3000) (hs1 : s1 ≤ 1) (hs2 : s2 ≤ 1) :
    F_Md_add n (lN m1) (lN m2) (iZ p1) (iZ p2) (nI s1) (nI s2) 0 0 0 0 sgl = some (lN (sumR f te w lp s1 m1 p1 s2 m2 p2)) := by
  have hF := mSg_fmt hM
  have hb := fmt_b hF
  have hinf := fmt_inf hF
  have hpf := p2_pos f
  have hp53 : 2 ^ (f + 1) ≤ 2 ^ 53 := p2_le (by omega)
  have c1 : lN m1 = (0 : Int64) ↔ m1 = 0 := lN_z (by omega)
  have c2 : lN m2 = (0 : Int64) ↔ m2 = 0 := lN_z (by omega)
  have z0 : ((0 : Int32) = 0) = True := by decide
  have hround : ∀ (m s : Nat) (p : Int), m < 2 ^ (f + 1) → s ≤ 1 → -3000 ≤ p → p ≤ 3000 → (F_Md_round n (nI s) (lN m) (iZ p) (0 : Int32) sgl).bind (fun x => some x) = some (lN (mg f (te * 2 ^ f) lp m p + s * 2 ^ w)) := by
    intro m s p hm hs q1 q2
    have := v_round hM hn (nI s) (e := p) (m := m) (l := 0) (by omega) (by omega) (by omega) (by omega) (fun z => by omega)
    rw [show (0 : Int32) = nI 0 from rfl, this]
    simp only [Option.bind_some]
    have hle := mg_le f (te * 2 ^ f) lp m p
    rw [Nat.add_zero, mg_two, v_sgnM hM (by omega) hs]
  unfold F_Md_add
  simp only [lt_, z0, not_true_eq_false, if_true, if_false]
  by_cases hm1 : m1 = 0
  · have k1 : (lN m1 = (0 : Int64)) = True := eq_true (c1.mpr hm1)
    by_cases hm2 : m2 = 0
    · have k2 : (lN m2 = (0 : Int64)) = True := eq_true (c2.mpr hm2)
      simp only [k1, k2, not_true_eq_false, if_false]
      have e : (if nI s1 = 0 then (0 : Int32) else if nI s2 = 0 then (0 : Int32) else (1 : Int32)) = nI (s1 * s2) := by
        rcases (by omega : s1 = 0 ∨ s1 = 1) with z | z <;> rcases (by omega : s2 = 0 ∨ s2 = 1) with y | y <;> subst z <;> subst y <;> rfl
      rw [e, v_sign0 hM (by rcases (by omega : s1 = 0 ∨ s1 = 1) with z | z <;> subst z <;> omega)]
      unfold sumR
      rw [hm1, hm2, Nat.zero_mul, Nat.zero_mul, Nat.add_zero, mg_0, Nat.zero_add]
      by_cases hs : s1 = s2
      · rw [if_pos hs, hs]
        rcases (by omega : s2 = 0 ∨ s2 = 1) with z | z <;> subst z <;> rfl
      · rw [if_neg hs, if_pos rfl]
        rcases (by omega : (s1 = 0 ∧ s2 = 1) ∨ (s1 = 1 ∧ s2 = 0)) with ⟨z, y⟩ | ⟨z, y⟩ <;> subst z <;> subst y <;> simp
    · have k2 : (lN m2 = (0 : Int64)) = False := eq_false (fun z => hm2 (c2.mp z))
      simp only [k1, k2, not_true_eq_false, not_false_eq_true, if_true, if_false]
      rw [hround m2 s2 p2 h2 hs2 r3 r4]
      unfold sumR
      rw [hm1, Nat.zero_mul, Nat.zero_add, Nat.sub_zero, mg_up f _ lp m2 (by omega : min p1 p2 ≤ p2)]
      by_cases hs : s1 = s2
      · rw [if_pos hs, hs]
      · have := Nat.mul_ne_zero hm2 (Nat.ne_of_gt (p2_pos (p2 - min p1 p2).toNat))
        rw [if_neg hs, if_neg (by omega), if_neg (by omega)]
  · have k1 : (lN m1 = (0 : Int64)) = False := eq_false (fun z => hm1 (c1.mp z))
    by_cases hm2 : m2 = 0
    · have k2 : (lN m2 = (0 : Int64)) = True := eq_true (c2.mpr hm2)
      simp only [k1, k2, not_true_eq_false, not_false_eq_true, if_true, if_false]
      rw [hround m1 s1 p1 h1 hs1 r1 r2]
      unfold sumR
      rw [hm2, Nat.zero_mul, Nat.add_zero, Nat.sub_zero, mg_up f _ lp m1 (by omega : min p1 p2 ≤ p1)]
      by_cases hs : s1 = s2
      · rw [if_pos hs]
      · have := Nat.mul_ne_zero hm1 (Nat.ne_of_gt (p2_pos (p1 - min p1 p2).toNat))
        rw [if_neg hs, if_neg (by omega), if_pos (by omega)]
    · have k2 : (lN m2 = (0 : Int64)) = False := eq_false (fun z => hm2 (c2.mp z))
      simp only [k1, k2, not_false_eq_true, if_true]
      have l1 := bl_pos hm1
      have l2 := bl_pos hm2
      have l3 := bl_le (Nat.lt_of_lt_of_le h1 hp53)
      have l4 := bl_le (Nat.lt_of_lt_of_le h2 hp53)
      rw [v_length (by omega) hn, v_length (by omega) hn]
      simp only [Option.bind_some]
      have e1 : (61 : Int32) - nI (bl m1) = nI (61 - bl m1) := pk_sub (a := 61) (b := bl m1) (by omega)
      have e2 : (61 : Int32) - nI (bl m2) = nI (61 - bl m2) := pk_sub (a := 61) (b := bl m2) (by omega)
      rw [e1, e2, wb_shl m1 (by omega), wb_shl m2 (by omega)]
      have e3 : iZ p1 - nI (61 - bl m1) = iZ (p1 - (61 - bl m1 : Nat)) := by rw [← iZ_nI, iZ_sub]
      have e4 : iZ p2 - nI (61 - bl m2) = iZ (p2 - (61 - bl m2 : Nat)) := by rw [← iZ_nI, iZ_sub]
      rw [e3, e4]
      have b1 : bl (m1 * 2 ^ (61 - bl m1)) = 61 := by rw [bl_mul hm1]; omega
      have b2 : bl (m2 * 2 ^ (61 - bl m2)) = 61 := by rw [bl_mul hm2]; omega
      have n1 : m1 * 2 ^ (61 - bl m1) ≠ 0 := Nat.mul_ne_zero hm1 (Nat.ne_of_gt (p2_pos _))
      have n2 : m2 * 2 ^ (61 - bl m2) ≠ 0 := Nat.mul_ne_zero hm2 (Nat.ne_of_gt (p2_pos _))
      have u1 := bl_lt (m1 * 2 ^ (61 - bl m1))
      have u2 := bl_lt (m2 * 2 ^ (61 - bl m2))
      have v1 := bl_ge n1
      have v2 := bl_ge n2
      rw [b1] at u1 v1
      rw [b2] at u2 v2
      generalize hk1 : 61 - bl m1 = k1' at *
      generalize hk2 : 61 - bl m2 = k2' at *
      have cq : iZ (p1 - k1') < iZ (p2 - k2') ↔ p1 - k1' < p2 - k2' := iZ_lt (by omega) (by omega) (by omega) (by omega)
      have ce : iZ (p1 - k1') = iZ (p2 - k2') ↔ p1 - k1' = p2 - k2' := iZ_eq (by omega) (by omega) (by omega) (by omega)
      have ca : lN (m2 * 2 ^ k2') ≤ lN (m1 * 2 ^ k1') ↔ m2 * 2 ^ k2' ≤ m1 * 2 ^ k1' := pk_lLE (by omega) (by omega)
      -- the greater first, or the second
      have first : ∀ d : Nat, p1 - (k1' : Int) = p2 - k2' + d → (d = 0 → m2 * 2 ^ k2' ≤ m1 * 2 ^ k1') → addT n (lN (m1 * 2 ^ k1')) (lN (m2 * 2 ^ k2')) (iZ (p1 - k1')) (iZ (p2 - k2')) (nI s1) (nI s2) sgl = some (lN (sumR f te w lp s1 m1 p1 s2 m2 p2)) := by
        intro d hd ho
        rw [add_core hM hn v1 u1 (by omega) u2 hd (by omega) (by omega) ho hs1 hs2]
        congr 2
        refine sumR_core f te w lp hd ?_
        rcases Nat.eq_zero_or_pos d with z | z
        · have := ho z
          rw [z, Nat.pow_zero, Nat.mul_one]
          exact this
        · have h3 : m1 * 2 ^ k1' * 2 ^ 1 ≤ m1 * 2 ^ k1' * 2 ^ d := Nat.mul_le_mul_left _ (p2_le z)
          omega
      have second : ∀ d : Nat, p2 - (k2' : Int) = p1 - k1' + d → (d = 0 → m1 * 2 ^ k1' ≤ m2 * 2 ^ k2') → addT n (lN (m2 * 2 ^ k2')) (lN (m1 * 2 ^ k1')) (iZ (p2 - k2')) (iZ (p1 - k1')) (nI s2) (nI s1) sgl = some (lN (sumR f te w lp s1 m1 p1 s2 m2 p2)) := by
        intro d hd ho
        rw [add_core hM hn v2 u2 (by omega) u1 hd (by omega) (by omega) ho hs2 hs1, sumR_comm]
        congr 2
        refine sumR_core f te w lp hd ?_
        rcases Nat.eq_zero_or_pos d with z | z
        · have := ho z
          rw [z, Nat.pow_zero, Nat.mul_one]
          exact this
        · have h3 : m2 * 2 ^ k2' * 2 ^ 1 ≤ m2 * 2 ^ k2' * 2 ^ d := Nat.mul_le_mul_left _ (p2_le z)
          omega
      by_cases q : p1 - (k1' : Int) < p2 - k2'
      · have kq : (iZ (p1 - k1') < iZ (p2 - k2')) = True := eq_true (cq.mpr q)
        simp only [kq, if_true]
        exact second (p2 - k2' - (p1 - k1')).toNat (by omega) (fun z => by omega)
      · have kq : (iZ (p1 - k1') < iZ (p2 - k2')) = False := eq_false (fun z => q (cq.mp z))
        by_cases q2 : p1 - (k1' : Int) = p2 - k2'
        · have ke : (iZ (p1 - k1') = iZ (p2 - k2')) = True := eq_true (ce.mpr q2)
          by_cases q3 : m2 * 2 ^ k2' ≤ m1 * 2 ^ k1'
          · have ka : (lN (m2 * 2 ^ k2') ≤ lN (m1 * 2 ^ k1')) = True := eq_true (ca.mpr q3)
            simp only [kq, ke, ka, not_true_eq_false, if_true, if_false]
            exact first 0 (by omega) (fun _ => q3)
          · have ka : (lN (m2 * 2 ^ k2') ≤ lN (m1 * 2 ^ k1')) = False := eq_false (fun z => q3 (ca.mp z))
            simp only [kq, ke, ka, not_true_eq_false, if_false]
            exact second 0 (by omega) (fun _ => by omega)
        · have ke : (iZ (p1 - k1') = iZ (p2 - k2')) = False := eq_false (fun z => q2 (ce.mp z))
          simp only [kq, ke, not_false_eq_true, if_true, if_false]
          exact first (p1 - k1' - (p2 - k2')).toNat (by omega) (fun z => by omega)
