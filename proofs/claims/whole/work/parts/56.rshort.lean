/-! The shortest decimal (reference). -/
section SH
variable {sgl : Int32} {f te w : Nat} {lp : Int}
/-- the lower of two neighbours is nearer, or as near and even -/
abbrev tie (m : Nat) (q : Int) (d : Nat) (k : Int) : Prop := tM m (q + 1) < tD (2 * d + 1) k ∨ (tM m (q + 1) = tD (2 * d + 1) k ∧ d % 2 = 0)
/-- from n digits on, at most t tries: the first number of digits that is read as x -/
noncomputable def spK (f w : Nat) (lp : Int) (x : Nat) (p : Int) : Nat → Nat → Option (Nat × Int)
  | 0, _ => none
  | t + 1, n => lt_ (p - n + 1) fun k => lt_ (tM (dM f w x) (dP f w lp x) / tD 1 k) fun d =>
    if isR f w lp x d k then (if isR f w lp x (d + 1) k then some (if tie (dM f w x) (dP f w lp x) d k then d else d + 1, k) else some (d, k)) else (if isR f w lp x (d + 1) k then some (d + 1, k) else spK f w lp x p t (n + 1))
theorem fl_D {v : Nat} {k : Int} : tD (v / tD 1 k) k ≤ v ∧ v < tD (v / tD 1 k + 1) k := by
  have h := tD_pos k
  have h1 := Nat.div_add_mod v (tD 1 k)
  have h2 := Nat.mod_lt v h
  rw [tD_mul (v / tD 1 k), tD_mul (v / tD 1 k + 1), Nat.add_mul, Nat.one_mul, Nat.mul_comm (v / tD 1 k)]
  omega
theorem p10 : ∀ n : Nat, n ≤ 18 → 10 ^ n < 2 ^ 60 := by decide
theorem short_L (hS : mSg sgl f te w lp) {x : Nat} (hx : x < te * 2 ^ f) (hx0 : 0 < x) {p : Int} (hp1 : tD 1 p ≤ tM (dM f w x) (dP f w lp x)) (hp2 : tM (dM f w x) (dP f w lp x) < tD 1 (p + 1)) (hp3 : -331 < p) (hp4 : p < 311) (N : Nat) (hN : 5000 < N) {D : Nat} {K : Int} (j190) :
    ∀ (t nn n : Nat) (aN bN fN l r tw rp : Int32) (ra rb rf rl rr : Nat → Int32), 2 ≤ nn → nn + t ≤ 18 → t + 6000 < n → spK f w lp x p t nn = some (D, K) →
    ∃ (aN' bN' fN' l' r' tw' : Int32) (ra' rb' rf' rl' rr' : Nat → Int32), F_Rs_shortest_L32 (lN x) sgl (lN (dM f w x)) (iZ (dP f w lp x)) j190 (fun (y16 : Int64) (y17 : Int32) (aN_18 : Int32) (bN_19 : Int32) (fN_20 : Int32) (lN__21 : Int32) (rN_22 : Int32) (twos_23 : Int32) (rpow_24 : Int32) (ra_25 : (Nat → Int32)) (rb_26 : (Nat → Int32)) (rfive_27 : (Nat → Int32)) (rleft_28 : (Nat → Int32)) (rright_29 : (Nat → Int32)) => lt_ (if y17 = 0 then y16 + (1 : Int64) else y16) fun x30 => some (x30, aN_18, bN_19, fN_20, lN__21, rN_22, twos_23, rpow_24, ra_25, rb_26, rfive_27, rleft_28, rright_29))
      (fun (y31 : Int64) (aN_32 : Int32) (bN_33 : Int32) (fN_34 : Int32) (lN__35 : Int32) (rN_36 : Int32) (twos_37 : Int32) (rpow_38 : Int32) (ra_39 : (Nat → Int32)) (rb_40 : (Nat → Int32)) (rfive_41 : (Nat → Int32)) (rleft_42 : (Nat → Int32)) (rright_43 : (Nat → Int32)) => (F_Rs_compareDigits N aN_32 bN_33 fN_34 lN__35 rN_36 twos_37 ra_39 rb_40 rfive_41 rleft_42 rright_43 (((2 : Int64) * y31) + (1 : Int64)) (lN (dM f w x)) (iZ (dP f w lp x) + (1 : Int32))).bind fun x44 => lt_ (if 0 < x44.1 then y31 else if ¬ x44.1 = 0 then y31 + (1 : Int64) else if ¬ (y31 &&& (1 : Int64)) = (0 : Int64) then y31 + (1 : Int64) else y31) fun x45 => some (x45, x44.2.1, bN_33, fN_34, x44.2.2.1, x44.2.2.2.1, twos_37, rpow_38, x44.2.2.2.2.1, rb_40, rfive_41, x44.2.2.2.2.2.1, x44.2.2.2.2.2.2))
      n (lN (10 ^ (nn - 1))) (iZ p) (nI nn) aN bN fN l r tw rp ra rb rf rl rr = some (lN D, aN', bN', fN', l', r', tw', iZ K, ra', rb', rf', rl', rr') := by
  intro t
  induction t with
  | zero => intro nn n aN bN fN l r tw rp ra rb rf rl rr _ _ _ h; exact absurd h (by intro z; cases z)
  | succ t ih =>
    intro nn n aN bN fN l r tw rp ra rb rf rl rr h2 h18 hn h
    obtain ⟨n, rfl⟩ : ∃ k, n = k + 1 := ⟨n - 1, by omega⟩
    have hb := dP_b2 (mSg_fmt hS) hx
    have hM := dM_b (mSg_fmt hS) x
    have e10 : lN (10 ^ (nn - 1)) * (10 : Int64) = lN (10 ^ nn) := by
      rw [show (10 : Int64) = lN 10 from rfl, lN_mul, ← Nat.pow_succ, show (nn - 1).succ = nn by omega]
    have ek : iZ p - nI nn + (1 : Int32) = iZ (p - nn + 1) := by
      rw [← iZ_nI, iZ_sub, show (1 : Int32) = iZ 1 from rfl, iZ_add]
    have hfl := fl_D (v := tM (dM f w x) (dP f w lp x)) (k := p - nn + 1)
    have hdlt : tM (dM f w x) (dP f w lp x) / tD 1 (p - nn + 1) < 10 ^ nn := by
      refine Nat.div_lt_of_lt_mul ?_
      have e1 := tD_ten (k := p - nn + 1) (j := nn) (by omega)
      rw [show p - nn + 1 + (nn : Int) = p + 1 by omega, Nat.mul_comm] at e1
      rw [← e1]
      exact hp2
    simp only [spK, lt_] at h
    have hp10 := p10 nn (by omega)
    have hk1 : -400 < p - nn + 1 := by omega
    have hk2 : p - nn + 1 < 400 := by omega
    generalize p - nn + 1 = k at *
    generalize tM (dM f w x) (dP f w lp x) / tD 1 k = d at *
    obtain ⟨bN', fN', rb', rf', s1, s2⟩ := v_scale (n := n) bN fN tw rb rf hk1 hk2 (by omega)
    obtain ⟨a1, l1, r1, ra1, rl1, rr1, m1⟩ := v_most (n := n) (m := dM f w x) (q := dP f w lp x) (d := d) (e := 10 ^ nn) aN l r ra rl rr (by omega) (by omega) (by omega) s2 hk1 hk2 hfl.1 hfl.2 (by omega) (by omega) (by omega)
    obtain ⟨a2, l2, r2, ra2, rl2, rr2, m2⟩ := v_isRead (n := n) (d := d) hS hx hx0 a1 l1 r1 ra1 rl1 rr1 s2 hk1 hk2 (by omega) (by omega)
    obtain ⟨a3, l3, r3, ra3, rl3, rr3, m3⟩ := v_isRead (n := n) (d := d + 1) hS hx hx0 a2 l2 r2 ra2 rl2 rr2 s2 hk1 hk2 (by omega) (by omega)
    rw [show lN (d + 1) = lN d + 1 from (lN_1 d).symm] at m3
    generalize hb2 : (if isR f w lp x d k then (1 : Int32) else 0) = b2 at m2
    generalize hb3 : (if isR f w lp x (d + 1) k then (1 : Int32) else 0) = b3 at m3
    unfold F_Rs_shortest_L32
    rw [if_neg (show ¬ (20 : Int32) ≤ nI nn from nI_ge (b := 20) (by omega) (by decide))]
    simp only [lt_]
    rw [e10, ek, s1]
    simp only [Option.bind_some]
    rw [m1]
    simp only [Option.bind_some]
    rw [m2]
    simp only [Option.bind_some]
    rw [m3]
    simp only [Option.bind_some]
    have z1 : ¬ (1 : Int32) = 0 := by decide
    by_cases r1' : isR f w lp x d k
    · by_cases r2' : isR f w lp x (d + 1) k
      · rw [if_pos r1'] at hb2
        rw [if_pos r2'] at hb3
        subst hb2 hb3
        simp only [if_neg z1]
        simp only [if_pos r1', if_pos r2'] at h
        obtain ⟨c, ca, cl, cr, cf, cg, ch, c1, c2, c3⟩ := v_cd (n := N) (d := 2 * d + 1) (m := dM f w x) (q := dP f w lp x + 1) a3 l3 r3 ra3 rl3 rr3 s2 hk1 hk2 (by omega) (by omega) (by omega) (by omega) (by omega)
        rw [show (2 : Int64) * lN d + 1 = lN (2 * d + 1) by rw [show (2 : Int64) = lN 2 from rfl, lN_mul, lN_1 (2 * d)], show iZ (dP f w lp x) + 1 = iZ (dP f w lp x + 1) from iZ_add _ 1, c1]
        simp only [Option.bind_some]
        injection h with h
        injection h with hD hK
        subst hK
        refine ⟨ca, bN', fN', cl, cr, iZ k, cf, rb', rf', cg, ch, ?_⟩
        refine congrArg (fun v => some (v, ca, bN', fN', cl, cr, iZ k, iZ k, cf, rb', rf', cg, ch)) ?_
        rw [← hD, show lN d &&& 1 = lN (d % 2) from wb_a1 (by omega)]
        have hz : lN (d % 2) = 0 ↔ d % 2 = 0 := lN_z (by omega)
        by_cases ht : tie (dM f w x) (dP f w lp x) d k
        · rw [if_pos ht]
          unfold tie at ht
          rcases i3 c with ⟨p1, p2, p3⟩ | ⟨p1, p2, p3⟩ | ⟨p1, p2, p3⟩
          · simp only [p1, if_true]
          · simp only [p2, true_iff] at c2; omega
          · simp only [p1, p2, p3, if_true, if_false, not_true]
            simp only [p1, p2, false_iff] at c2 c3
            rw [if_neg (fun q => q (hz.mpr (by omega)))]
        · rw [if_neg ht]
          unfold tie at ht
          rcases i3 c with ⟨p1, p2, p3⟩ | ⟨p1, p2, p3⟩ | ⟨p1, p2, p3⟩
          · simp only [p1, true_iff] at c3; omega
          · simp only [p1, p2, p3, if_true, if_false, not_false_iff]
            exact lN_1 d
          · simp only [p1, p2, p3, if_true, if_false, not_true]
            simp only [p1, p2, false_iff] at c2 c3
            rw [if_pos (fun q => ht (by have := hz.mp q; omega))]
            exact lN_1 d
      · rw [if_pos r1'] at hb2
        rw [if_neg r2'] at hb3
        subst hb2 hb3
        simp only [if_neg z1, if_true, not_false_iff, z1]
        simp only [if_pos r1', if_neg r2'] at h
        injection h with h
        injection h with hD hK
        subst hK
        subst hD
        exact ⟨_, _, _, _, _, _, _, _, _, _, _, rfl⟩
    · by_cases r2' : isR f w lp x (d + 1) k
      · rw [if_neg r1'] at hb2
        rw [if_pos r2'] at hb3
        subst hb2 hb3
        simp only [if_neg z1, if_true, not_true, if_false]
        simp only [if_neg r1', if_pos r2'] at h
        injection h with h
        injection h with hD hK
        subst hK
        subst hD
        rw [lN_1 d]
        exact ⟨_, _, _, _, _, _, _, _, _, _, _, rfl⟩
      · rw [if_neg r1'] at hb2
        rw [if_neg r2'] at hb3
        subst hb2 hb3
        simp only [if_true, not_true, if_false]
        simp only [if_neg r1', if_neg r2'] at h
        have := ih (nn + 1) n a3 bN' fN' l3 r3 (iZ k) (iZ k) ra3 rb' rf' rl3 rr3 (by omega) (by omega) (by omega) h
        rw [Nat.add_sub_cancel] at this
        rw [show nI nn + Int32.ofInt 1 = nI (nn + 1) from nI_1 nn]
        exact this
theorem v_short (hS : mSg sgl f te w lp) {x n : Nat} (hx : x < te * 2 ^ f) (hx0 : 0 < x) {p : Int} (aN bN fN l r tw rp : Int32) (ra rb rf rl rr : Nat → Int32) (hp1 : tD 1 p ≤ tM (dM f w x) (dP f w lp x)) (hp2 : tM (dM f w x) (dP f w lp x) < tD 1 (p + 1)) (hp3 : -331 < p) (hp4 : p < 311) (hn : 7000 < n) {D : Nat} {K : Int} (h : spK f w lp x p 16 2 = some (D, K)) :
    ∃ (aN' bN' fN' l' r' tw' : Int32) (ra' rb' rf' rl' rr' : Nat → Int32), F_Rs_shortest n aN bN fN l r tw rp ra rb rf rl rr (lN x) sgl = some (lN D, aN', bN', fN', l', r', tw', iZ K, ra', rb', rf', rl', rr') := by
  have hb := dP_b2 (mSg_fmt hS) hx
  have hM := dM_b (mSg_fmt hS) x
  obtain ⟨a1, b1, f1, l1, r1, t1, ra1, rb1, rf1, rl1, rr1, h1⟩ := v_tens (n := n) aN bN fN l r tw ra rb rf rl rr (show dM f w x < 2 ^ 62 by omega) (by omega) (by omega) hp1 hp2 hp3 hp4 (by omega)
  obtain ⟨a2, b2, f2, l2, r2, t2, ra2, rb2, rf2, rl2, rr2, h2⟩ := short_L hS hx hx0 hp1 hp2 hp3 hp4 n (by omega) (fun (aN_4 : Int32) (bN_5 : Int32) (fN_6 : Int32) (lN__7 : Int32) (rN_8 : Int32) (twos_9 : Int32) (rpow_10 : Int32) (ra_11 : (Nat → Int32)) (rb_12 : (Nat → Int32)) (rfive_13 : (Nat → Int32)) (rleft_14 : (Nat → Int32)) (rright_15 : (Nat → Int32)) => some ((0 : Int64), aN_4, bN_5, fN_6, lN__7, rN_8, twos_9, rpow_10, ra_11, rb_12, rfive_13, rleft_14, rright_15)) 16 2 n a1 b1 f1 l1 r1 t1 rp ra1 rb1 rf1 rl1 rr1 (by omega) (by omega) (by omega) h
  refine ⟨a2, b2, f2, l2, r2, t2, ra2, rb2, rf2, rl2, rr2, Eq.trans ?_ h2⟩
  unfold F_Rs_shortest
  rw [v_rmant hS hx, v_rexp hS hx]
  simp only [lt_]
  rw [h1]
  rfl
end SH
