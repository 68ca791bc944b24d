/-! What is read as a number (reference). -/
theorem pf_shr' {a d : Nat} {D : Int64} (hD : (D.toBitVec.smod 64).toNat = d) (h : a < 2 ^ 63) : lN a >>> D = lN (a / 2 ^ d) := by
  have hd : a / 2 ^ d ≤ a := Nat.div_le_self _ _
  apply Int64.toInt_inj.mp
  have e : (lN a >>> D).toInt = (lN a).toInt >>> d := by
    rw [← hD]
    exact BitVec.toInt_sshiftRight ..
  rw [e, Int.shiftRight_eq_div_pow, pf_lI (by omega), pf_lI (by omega)]
  rfl
section RD
variable {sgl : Int32} {f te w : Nat} {lp : Int}
theorem dE_fin {x : Nat} (hf : fmt f te w lp) (hx : x < te * 2 ^ f) : dG w x = x ∧ dE f w x = x / 2 ^ f ∧ x / 2 ^ f < te ∧ x < 2 ^ 63 := by
  have hi := fmt_inf hf
  have hb := fmt_b hf
  have h1 : x < 2 ^ w := by have := p2_pos f; omega
  have h2 : x % 2 ^ w = x := Nat.mod_eq_of_lt h1
  refine ⟨h2, ?_, ?_, Nat.lt_of_lt_of_le h1 (p2_le (by omega))⟩
  · unfold dE; rw [h2]
  · exact Nat.div_lt_of_lt_mul (by rw [Nat.mul_comm]; exact hx)
theorem v_rmant (hS : mSg sgl f te w lp) {x : Nat} (hx : x < te * 2 ^ f) : F_Rs_mantissa (lN x) sgl = lN (dM f w x) := by
  have hfm := mSg_fmt hS
  have hb := fmt_b hfm
  obtain ⟨h1, h2, h3, h4⟩ := dE_fin hfm hx
  have hF := dF_lt f x
  have ef : (if sgl = 0 then (52 : Int32) else (23 : Int32)) = nI f := by
    rcases hS with ⟨rfl, rfl, -⟩ | ⟨rfl, rfl, -⟩ <;> decide
  have e1 : lN x >>> ((nI f).toInt64 &&& 63) = lN (x / 2 ^ f) := pf_shr' ((by decide +kernel : ∀ k : Nat, k < 64 → (((nI k).toInt64 &&& 63).toBitVec.smod 64).toNat = k) f (by omega)) h4
  have e2 : lN x &&& (((1 : Int64) <<< ((nI f).toInt64 &&& 63)) - (1 : Int64)) = lN (dF f x) := by
    rw [lN_msk (by omega)]
    exact wb_mask (by omega) (by omega)
  unfold F_Rs_mantissa dM
  simp only [lt_]
  rw [ef, e1, e2, h2, lN_shl1 (by omega), lN_add]
  have hz : lN (x / 2 ^ f) = 0 ↔ x / 2 ^ f = 0 := lN_z (by have := Nat.div_le_self x (2 ^ f); omega)
  by_cases z : x / 2 ^ f = 0
  · rw [if_neg (fun q => q (hz.mpr z)), if_pos z]
  · rw [if_pos (fun q => z (hz.mp q)), if_neg z]
theorem v_rexp (hS : mSg sgl f te w lp) {x : Nat} (hx : x < te * 2 ^ f) : F_Rs_exponent (lN x) sgl = iZ (dP f w lp x) := by
  have hfm := mSg_fmt hS
  have hb := fmt_b hfm
  obtain ⟨h1, h2, h3, h4⟩ := dE_fin hfm hx
  have ef : (if sgl = 0 then (52 : Int32) else (23 : Int32)) = nI f := by
    rcases hS with ⟨rfl, rfl, -⟩ | ⟨rfl, rfl, -⟩ <;> decide
  have eg : (if sgl = 0 then (1075 : Int32) else (150 : Int32)) = iZ (1 - lp) := by
    rcases hS with ⟨rfl, rfl, rfl, rfl, rfl⟩ | ⟨rfl, rfl, rfl, rfl, rfl⟩ <;> decide
  have e1 : lN x >>> ((nI f).toInt64 &&& 63) = lN (x / 2 ^ f) := pf_shr' ((by decide +kernel : ∀ k : Nat, k < 64 → (((nI k).toInt64 &&& 63).toBitVec.smod 64).toNat = k) f (by omega)) h4
  unfold F_Rs_exponent dP
  simp only [lt_]
  rw [ef, eg, e1, h2, lN_i]
  have hz : nI (x / 2 ^ f) = 0 ↔ x / 2 ^ f = 0 := nI_z (by omega)
  by_cases z : x / 2 ^ f = 0
  · rw [if_neg (fun q => q (hz.mpr z)), z, show (1 : Int32) = iZ 1 from rfl, iZ_sub]
    congr 1
    omega
  · rw [if_pos (fun q => z (hz.mp q)), ← iZ_nI, iZ_sub]
    congr 1
    omega
/-- halfway to the next number above x -/
noncomputable def hw (f w : Nat) (lp : Int) (x : Nat) : Nat := tM (2 * dM f w x + 1) (dP f w lp x - 1)
theorem dP_b2 (hf : fmt f te w lp) {x : Nat} (hx : x < te * 2 ^ f) : -1074 ≤ dP f w lp x ∧ dP f w lp x ≤ 1000 := by
  have hb := fmt_b hf
  obtain ⟨h1, h2, h3, h4⟩ := dE_fin hf hx
  unfold dP
  rw [h2]
  rcases hf with ⟨rfl, rfl, rfl, rfl⟩ | ⟨rfl, rfl, rfl, rfl⟩ <;> omega
theorem dM_b (hf : fmt f te w lp) (x : Nat) : dM f w x < 2 ^ 53 := by
  have hb := fmt_b hf
  exact Nat.lt_of_lt_of_le (dM_lt f w x) (p2_le (by omega))
theorem v_above {n : Nat} {bN fN twos : Int32} {ra rb rfive : Nat → Int32} {am d x : Nat} {k : Int} (hS : mSg sgl f te w lp) (hx : x < te * 2 ^ f) (lN_ rN : Int32) (rl rr : Nat → Int32) (hs : sc bN fN twos rb rfive k) (hk1 : -400 < k) (hk2 : k < 400) (ha : rH ra am (d * 5 ^ k.toNat)) (hd : d < 2 ^ 62) (hn : 2000 < n) :
    ∃ (c l r : Int32) (g h : Nat → Int32), F_Rs_above n (nI am) bN lN_ rN twos ra rb rl rr (lN x) sgl = some (c, l, r, g, h) ∧ (c < 0 ↔ tD d k < hw f w lp x) ∧ (0 < c ↔ hw f w lp x < tD d k) := by
  have hb := dP_b2 (mSg_fmt hS) hx
  have hM := dM_b (mSg_fmt hS) x
  obtain ⟨c, l, r, g, h, c1, c2, c3⟩ := v_cmp (m := 2 * dM f w x + 1) (q := dP f w lp x - 1) lN_ rN rl rr hs hk1 hk2 (by omega) (by omega) ha hd (by omega) hn
  refine ⟨c, l, r, g, h, ?_, c2, c3⟩
  unfold F_Rs_above
  rw [v_rmant hS hx, v_rexp hS hx, show (2 : Int64) = lN 2 from rfl, lN_mul, lN_1, show (1 : Int32) = iZ 1 from rfl, iZ_sub, c1]
  rfl
/-- d * 10^k is read as x -/
abbrev isR (f w : Nat) (lp : Int) (x d : Nat) (k : Int) : Prop := (hw f w lp (x - 1) < tD d k ∨ (hw f w lp (x - 1) = tD d k ∧ x % 2 = 0)) ∧ (tD d k < hw f w lp x ∨ (tD d k = hw f w lp x ∧ x % 2 = 0))
theorem i3 (c : Int32) : ((0 < c) = True ∧ (c < 0) = False ∧ (c = 0) = False) ∨ ((0 < c) = False ∧ (c < 0) = True ∧ (c = 0) = False) ∨ ((0 < c) = False ∧ (c < 0) = False ∧ (c = 0) = True) := by
  have h0 : (0 : Int32).toInt = 0 := by decide
  simp only [eq_iff_iff, iff_true, iff_false]
  rw [Int32.lt_iff_toInt_lt, Int32.lt_iff_toInt_lt, ← Int32.toInt_inj, h0]
  omega
theorem v_isRead {n : Nat} {bN fN twos : Int32} {rb rfive : Nat → Int32} {d x : Nat} {k : Int} (hS : mSg sgl f te w lp) (hx : x < te * 2 ^ f) (hx0 : 0 < x) (aN lN_ rN : Int32) (ra rl rr : Nat → Int32) (hs : sc bN fN twos rb rfive k) (hk1 : -400 < k) (hk2 : k < 400) (hd : d < 2 ^ 62) (hn : 2000 < n) :
    ∃ (a l r : Int32) (g h i : Nat → Int32), F_Rs_isRead n aN bN fN lN_ rN twos ra rb rfive rl rr (lN d) (lN x) sgl = some (if isR f w lp x d k then 1 else 0, a, l, r, g, h, i) := by
  obtain ⟨am, ra', a1, a2⟩ := v_row ra hs hk1 hk2 hd hn
  obtain ⟨c, l, r, g, h, c1, c2, c3⟩ := v_above hS (show x - 1 < te * 2 ^ f by omega) lN_ rN rl rr hs hk1 hk2 a2 hd hn
  obtain ⟨c', l', r', g', h', e1, e2, e3⟩ := v_above hS hx l r g h hs hk1 hk2 a2 hd hn
  have h63 := (dE_fin (mSg_fmt hS) hx).2.2.2
  refine ⟨nI am, l', r', ra', g', h', ?_⟩
  unfold F_Rs_isRead
  rw [a1, show (1 : Int64) = lN 1 from rfl, lN_sub (by omega)]
  show (F_Rs_above n (nI am) bN lN_ rN twos ra' rb rl rr (lN (x - 1)) sgl).bind _ = _
  rw [c1]
  show (F_Rs_above n (nI am) bN l r twos ra' rb g h (lN x) sgl).bind _ = _
  rw [e1, show lN x &&& lN 1 = lN (x % 2) from wb_a1 (by omega)]
  simp only [lt_, Option.bind_some]
  refine congrArg (fun v => some (v, nI am, l', r', ra', g', h')) ?_
  have hz : lN (x % 2) = 0 ↔ x % 2 = 0 := lN_z (by omega)
  have l1 : ¬ (1 : Int32) = 0 := by decide
  by_cases hr : isR f w lp x d k
  · rw [if_pos hr]
    unfold isR at hr
    generalize hw f w lp (x - 1) = P at *
    generalize hw f w lp x = P' at *
    generalize tD d k = D at *
    rcases i3 c with ⟨p1, p2, p3⟩ | ⟨p1, p2, p3⟩ | ⟨p1, p2, p3⟩ <;> rcases i3 c' with ⟨q1, q2, q3⟩ | ⟨q1, q2, q3⟩ | ⟨q1, q2, q3⟩ <;> by_cases ez : lN (x % 2) = 0 <;>
      simp only [p1, p2, p3, q1, q2, q3, if_true, if_false, not_true, not_false_iff, ez, l1, eq_self] <;>
      (exfalso; rw [hz] at ez; simp only [p1, p2, q1, q2, true_iff, false_iff] at c2 c3 e2 e3; omega)
  · rw [if_neg hr]
    unfold isR at hr
    generalize hw f w lp (x - 1) = P at *
    generalize hw f w lp x = P' at *
    generalize tD d k = D at *
    rcases i3 c with ⟨p1, p2, p3⟩ | ⟨p1, p2, p3⟩ | ⟨p1, p2, p3⟩ <;> rcases i3 c' with ⟨q1, q2, q3⟩ | ⟨q1, q2, q3⟩ | ⟨q1, q2, q3⟩ <;> by_cases ez : lN (x % 2) = 0 <;>
      simp only [p1, p2, p3, q1, q2, q3, if_true, if_false, not_true, not_false_iff, ez, l1, eq_self] <;>
      (exfalso; rw [hz] at ez; simp only [p1, p2, q1, q2, true_iff, false_iff] at c2 c3 e2 e3; omega)
end RD
