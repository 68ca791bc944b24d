/-! A decimal's letters (reference). -/
section RL
variable (A1 A2 A3 A4 A5 A6 A7 : Int32) (B1 B2 B3 B4 B5 : Nat → Int32)
theorem rd_L14 (j) (rl : Int32) (w : Nat → Int32) : ∀ (t n D : Nat) (K : Int), 0 < D → D < 10 ^ t → D < 2 ^ 63 → t < n → ∃ D0 z : Nat, D = D0 * 10 ^ z ∧ D0 % 10 ≠ 0 ∧ F_Rs_layDecimal_L14 j n (lN D) (iZ K) rl A1 A2 A3 A4 A5 A6 A7 w B1 B2 B3 B4 B5 = j (lN D0) (iZ (K + z)) rl A1 A2 A3 A4 A5 A6 A7 w B1 B2 B3 B4 B5 := by
  intro t
  induction t with
  | zero => intro n D K h1 h2; rw [Nat.pow_zero] at h2; omega
  | succ t ih =>
    intro n D K h1 h2 h3 hn
    obtain ⟨n, rfl⟩ : ∃ k, n = k + 1 := ⟨n - 1, by omega⟩
    have stp : ∀ n, F_Rs_layDecimal_L14 j (n + 1) (lN D) (iZ K) rl A1 A2 A3 A4 A5 A6 A7 w B1 B2 B3 B4 B5 = (if ¬ (lN D - lN D / lN 10 * lN 10) = (0 : Int64) then (j (lN D) (iZ K) rl A1 A2 A3 A4 A5 A6 A7 w B1 B2 B3 B4 B5) else F_Rs_layDecimal_L14 j n (lN D / lN 10) (iZ K + iZ 1) rl A1 A2 A3 A4 A5 A6 A7 w B1 B2 B3 B4 B5) := fun _ => rfl
    rw [stp, pk_lRem h3 (by decide) (by decide), pk_lDiv h3 (by decide) (by decide), iZ_add]
    have hz : lN (D % 10) = 0 ↔ D % 10 = 0 := lN_z (by omega)
    by_cases h : D % 10 = 0
    · rw [if_neg (fun z => z (hz.mpr h))]
      obtain ⟨D0, z, e1, e2, e3⟩ := ih n (D / 10) (K + 1) (by omega) (by rw [Nat.pow_succ] at h2; omega) (by omega) (by omega)
      refine ⟨D0, z + 1, ?_, e2, ?_⟩
      · rw [Nat.pow_succ, ← Nat.mul_assoc, ← e1]
        omega
      · rw [e3, show K + 1 + (z : Int) = K + ((z + 1 : Nat) : Int) by omega]
    · rw [if_pos (fun z => h (hz.mp z))]
      exact ⟨D, 0, by rw [Nat.pow_zero, Nat.mul_one], h, by rw [show K + ((0 : Nat) : Int) = K by omega]⟩
theorem rd_L46 (y2 : Int64) (y3 : Int32) (j) (rl : Int32) (w : Nat → Int32) : ∀ (t n c v : Nat), v < 10 ^ t → v < 2 ^ 63 → t < n → F_Rs_layDecimal_L46 y2 y3 j n (nI c) (lN v) rl A1 A2 A3 A4 A5 A6 A7 w B1 B2 B3 B4 B5 = j (nI (c + ndg v - 1)) rl A1 A2 A3 A4 A5 A6 A7 w B1 B2 B3 B4 B5 := by
  intro t
  induction t with
  | zero =>
    intro n c v h1 h2 hn
    rw [Nat.pow_zero] at h1
    obtain rfl : v = 0 := by omega
    obtain ⟨n, rfl⟩ : ∃ k, n = k + 1 := ⟨n - 1, by omega⟩
    have : ndg 0 = 1 := by unfold ndg; rfl
    rw [this, Nat.add_sub_cancel]
    exact if_pos (by decide)
  | succ t ih =>
    intro n c v h1 h2 hn
    obtain ⟨n, rfl⟩ : ∃ k, n = k + 1 := ⟨n - 1, by omega⟩
    have stp : ∀ n, F_Rs_layDecimal_L46 y2 y3 j (n + 1) (nI c) (lN v) rl A1 A2 A3 A4 A5 A6 A7 w B1 B2 B3 B4 B5 = (if lN v ≤ lN 9 then (j (nI c) rl A1 A2 A3 A4 A5 A6 A7 w B1 B2 B3 B4 B5) else F_Rs_layDecimal_L46 y2 y3 j n (nI c + 1) (lN v / lN 10) rl A1 A2 A3 A4 A5 A6 A7 w B1 B2 B3 B4 B5) := fun _ => rfl
    rw [stp, pk_lDiv h2 (by decide) (by decide), nI_1]
    have hz : lN v ≤ lN 9 ↔ v ≤ 9 := pk_lLE h2 (by decide)
    by_cases h : v ≤ 9
    · rw [if_pos (hz.mpr h)]
      have : ndg v = 1 := by unfold ndg; rw [dif_pos (by omega)]
      rw [this, Nat.add_sub_cancel]
    · rw [if_neg (fun z => h (hz.mp z)), ih n (c + 1) (v / 10) (by rw [Nat.pow_succ] at h1; omega) (by omega) (by omega)]
      have : ndg v = ndg (v / 10) + 1 := by conv => lhs; unfold ndg
                                            rw [dif_neg (by omega)]
      rw [this, show c + 1 + ndg (v / 10) - 1 = c + (ndg (v / 10) + 1) - 1 by omega]
theorem rd_L168 (y2 : Int64) (y18 : Int32) (j) : ∀ (t n : Nat) (L : List Nat) (rl : Int32) (w : Nat → Int32), t ≤ 10 → t < n → tx rl w L → L.length + t ≤ 40 → ∃ (rl' : Int32) (w' : Nat → Int32), F_Rs_layDecimal_L168 y2 y18 j n (iZ (-1 - (t : Int))) rl A1 A2 A3 A4 A5 A6 A7 w B1 B2 B3 B4 B5 = j rl' A1 A2 A3 A4 A5 A6 A7 w' B1 B2 B3 B4 B5 ∧ tx rl' w' (L ++ List.replicate t 48) := by
  intro t
  induction t with
  | zero =>
    intro n L rl w _ hn h _
    obtain ⟨n, rfl⟩ : ∃ k, n = k + 1 := ⟨n - 1, by omega⟩
    refine ⟨rl, w, if_pos (by decide), ?_⟩
    show tx rl w (L ++ [])
    rw [List.append_nil]
    exact h
  | succ t ih =>
    intro n L rl w ht hn h hL
    obtain ⟨n, rfl⟩ : ∃ k, n = k + 1 := ⟨n - 1, by omega⟩
    obtain ⟨l1, r1, e1, t1⟩ := v_lay (n := n) (c := 48) h (by omega)
    obtain ⟨l2, r2, e2, t2⟩ := ih n (L ++ [48]) l1 r1 (by omega) (by omega) t1 (by rw [List.length_append]; show _ + 1 + t ≤ 40; omega)
    refine ⟨l2, r2, ?_, ?_⟩
    · have stp : ∀ n x, F_Rs_layDecimal_L168 y2 y18 j (n + 1) (iZ x) rl A1 A2 A3 A4 A5 A6 A7 w B1 B2 B3 B4 B5 = (if (-1 : Int32) ≤ iZ x then (j rl A1 A2 A3 A4 A5 A6 A7 w B1 B2 B3 B4 B5) else (F_Rs_lay n rl w (nI 48)).bind fun x102 => F_Rs_layDecimal_L168 y2 y18 j n (iZ x + iZ 1) x102.1 A1 A2 A3 A4 A5 A6 A7 x102.2 B1 B2 B3 B4 B5) := fun _ _ => rfl
      have hz : (-1 : Int32) ≤ iZ (-1 - ((t + 1 : Nat) : Int)) ↔ -1 ≤ -1 - ((t + 1 : Nat) : Int) := by
        rw [show (-1 : Int32) = iZ (-1) by decide]
        exact iZ_le (by omega) (by omega) (by omega) (by omega)
      rw [stp, if_neg (fun z => by have := hz.mp z; omega), e1]
      simp only [Option.bind_some]
      rw [iZ_add, show -1 - ((t + 1 : Nat) : Int) + 1 = -1 - (t : Int) by omega]
      exact e2
    · rw [List.replicate_succ]
      rw [List.append_assoc] at t2
      exact t2
end RL
theorem in_v {X a b : Int} (h1 : -5000 < X) (h2 : X < 5000) (ha : -100 < a) (ha2 : a < 100) (hb : -100 < b) (hb2 : b < 100) : F_Rs_in (iZ X) (iZ a) (iZ b) = if a ≤ X ∧ X ≤ b then 1 else 0 := by
  have c1 : iZ X < iZ a ↔ X < a := iZ_lt (by omega) (by omega) (by omega) (by omega)
  have c2 : iZ b < iZ X ↔ b < X := iZ_lt (by omega) (by omega) (by omega) (by omega)
  unfold F_Rs_in
  simp only [lt_]
  by_cases q1 : X < a
  · rw [if_pos (c1.mpr q1), if_neg (by omega)]
  · rw [if_neg (fun z => q1 (c1.mp z))]
    by_cases q2 : b < X
    · rw [if_pos (c2.mpr q2), if_neg (by omega)]
    · rw [if_neg (fun z => q2 (c2.mp z)), if_pos (by omega)]
theorem v_layDecimal {sgl : Int32} {f te w : Nat} {lp : Int} (hS : mSg sgl f te w lp) {x n : Nat} (hx : x < te * 2 ^ f) (hx0 : 0 < x) {p : Int} (rl aN bN fN l r tw rp : Int32) (wri ra rb rf rle rri : Nat → Int32) (hp1 : tD 1 p ≤ tM (dM f w x) (dP f w lp x)) (hp2 : tM (dM f w x) (dP f w lp x) < tD 1 (p + 1)) (hp3 : -331 < p) (hp4 : p < 311) (hn : 7000 < n) {D : Nat} {K : Int} (h : spK f w lp x p 16 2 = some (D, K)) {D0 z : Nat} (hD : D = D0 * 10 ^ z) (hD0 : D0 % 10 ≠ 0) (hD17 : D ≤ 10 ^ 17) {L : List Nat} (ht : tx rl wri L) (hL : L.length ≤ 1) :
    ∃ (rl' aN' bN' fN' l' r' tw' rp' : Int32) (wri' ra' rb' rf' rle' rri' : Nat → Int32), F_Rs_layDecimal n rl aN bN fN l r tw rp wri ra rb rf rle rri (lN x) sgl = some (rl', aN', bN', fN', l', r', tw', rp', wri', ra', rb', rf', rle', rri') ∧ tx rl' wri' (L ++ dl D0 (K + z)) := by
  obtain ⟨hR, m, hm1, hm2, hK, hDle⟩ := sp_in _ 16 2 D K h
  have hDp := isR_pos hR
  obtain ⟨a1, a2, a3, a4, a5, a6, b1, b2, b3, b4, b5, e0⟩ := v_short hS hx hx0 aN bN fN l r tw rp ra rb rf rle rri hp1 hp2 hp3 hp4 hn h
  have h17 : (10 : Nat) ^ 17 = 100000000000000000 := rfl
  have hDz : z ≤ 17 := by
    by_cases q : z ≤ 17
    · exact q
    · exfalso
      have h1 : 10 ^ 18 ≤ 10 ^ z := Nat.pow_le_pow_right (by decide) (by omega)
      have h2 := Nat.mul_le_mul (show 1 ≤ D0 by omega) h1
      omega
  have hD0p : 0 < D0 := by omega
  have hD0lt : D0 < 10 ^ 17 := by
    have := Nat.le_mul_of_pos_right D0 (show 0 < 10 ^ z from Nat.pow_pos (by decide))
    omega
  have h19 : D0 < 10 ^ 19 := Nat.lt_of_lt_of_le hD0lt (by decide)
  have nlt := ndg_lt 19 D0 h19
  have nge := ndg_ge 19 D0 h19 hD0p
  have npos := ndg_pos D0
  have hnd : ndg D0 ≤ 17 := by
    have := (Nat.pow_lt_pow_iff_right (show 1 < 10 by decide)).mp (Nat.lt_of_le_of_lt nge hD0lt)
    omega
  -- the body behind the digits' count
  have body : ∀ X : Int, X = K + z + ndg D0 - 1 → ∃ (rl' aN' bN' fN' l' r' tw' rp' : Int32) (wri' ra' rb' rf' rle' rri' : Nat → Int32),
      (if (F_Rs_in (iZ X) (0 : Int32) (6 : Int32)) = 0 then (if (F_Rs_in (iZ X) (-3 : Int32) (-1 : Int32)) = 0 then ((F_Rs_layDigits n rl wri (lN D0) (0 : Int32) (1 : Int32) (nI (ndg D0))).bind fun x48 => (F_Rs_lay n x48.1 x48.2 (46 : Int32)).bind fun x49 => lt_ (if nI (ndg D0) ≤ (1 : Int32) then (2 : Int32) else nI (ndg D0)) fun x50 => (F_Rs_layDigits n x49.1 x49.2 (lN D0) (1 : Int32) x50 (nI (ndg D0))).bind fun x51 => (F_Rs_lay n x51.1 x51.2 (69 : Int32)).bind fun x52 => lt_ (fun (rlaid_53 : Int32) (aN_54 : Int32) (bN_55 : Int32) (fN_56 : Int32) (lN__57 : Int32) (rN_58 : Int32) (twos_59 : Int32) (rpow_60 : Int32) (wri_61 : (Nat → Int32)) (ra_62 : (Nat → Int32)) (rb_63 : (Nat → Int32)) (rfive_64 : (Nat → Int32)) (rleft_65 : (Nat → Int32)) (rright_66 : (Nat → Int32)) => lt_ (if 0 ≤ iZ X then iZ X else -(iZ X)) fun x67 => (F_Rs_layNumber n rlaid_53 wri_61 x67).bind fun x68 => some (x68.1, aN_54, bN_55, fN_56, lN__57, rN_58, twos_59, rpow_60, x68.2, ra_62, rb_63, rfive_64, rleft_65, rright_66)) fun j254 => if 0 ≤ iZ X then (j254 x52.1 a1 a2 a3 a4 a5 a6 (iZ K) x52.2 b1 b2 b3 b4 b5) else ((F_Rs_lay n x52.1 x52.2 (45 : Int32)).bind fun x69 => j254 x69.1 a1 a2 a3 a4 a5 a6 (iZ K) x69.2 b1 b2 b3 b4 b5)) else ((F_Rs_lay n rl wri (48 : Int32)).bind fun x70 => (F_Rs_lay n x70.1 x70.2 (46 : Int32)).bind fun x71 => F_Rs_layDecimal_L168 (lN D0) (nI (ndg D0)) (fun (rlaid_72 : Int32) (aN_73 : Int32) (bN_74 : Int32) (fN_75 : Int32) (lN__76 : Int32) (rN_77 : Int32) (twos_78 : Int32) (rpow_79 : Int32) (wri_80 : (Nat → Int32)) (ra_81 : (Nat → Int32)) (rb_82 : (Nat → Int32)) (rfive_83 : (Nat → Int32)) (rleft_84 : (Nat → Int32)) (rright_85 : (Nat → Int32)) => (F_Rs_layDigits n rlaid_72 wri_80 (lN D0) (0 : Int32) (nI (ndg D0)) (nI (ndg D0))).bind fun x86 => some (x86.1, aN_73, bN_74, fN_75, lN__76, rN_77, twos_78, rpow_79, x86.2, ra_81, rb_82, rfive_83, rleft_84, rright_85)) n (iZ X) x71.1 a1 a2 a3 a4 a5 a6 (iZ K) x71.2 b1 b2 b3 b4 b5)) else ((F_Rs_layDigits n rl wri (lN D0) (0 : Int32) (iZ X + (1 : Int32)) (nI (ndg D0))).bind fun x104 => (F_Rs_lay n x104.1 x104.2 (46 : Int32)).bind fun x105 => lt_ (if nI (ndg D0) ≤ (iZ X + (1 : Int32)) then iZ X + (2 : Int32) else nI (ndg D0)) fun x106 => (F_Rs_layDigits n x105.1 x105.2 (lN D0) (iZ X + (1 : Int32)) x106 (nI (ndg D0))).bind fun x107 => some (x107.1, a1, a2, a3, a4, a5, a6, iZ K, x107.2, b1, b2, b3, b4, b5))) = some (rl', aN', bN', fN', l', r', tw', rp', wri', ra', rb', rf', rle', rri') ∧ tx rl' wri' (L ++ dl D0 (K + z)) := by
    intro X hX
    have hX1 : -400 < X := by omega
    have hX2 : X < 400 := by omega
    have i1 := in_v (X := X) (a := 0) (b := 6) (by omega) (by omega) (by omega) (by omega) (by omega) (by omega)
    have i2 := in_v (X := X) (a := -3) (b := -1) (by omega) (by omega) (by omega) (by omega) (by omega) (by omega)
    rw [show iZ 0 = (0 : Int32) from rfl, show iZ 6 = (6 : Int32) from rfl] at i1
    rw [show iZ (-3) = (-3 : Int32) by decide, show iZ (-1) = (-1 : Int32) by decide] at i2
    rw [i1, i2]
    have d62 : D0 < 2 ^ 62 := by omega
    unfold dl
    rw [← hX]
    by_cases q1 : 0 ≤ X ∧ X ≤ 6
    · -- the point among or behind the digits
      rw [if_pos q1, if_neg (by decide), if_pos (show -3 ≤ X ∧ X < 7 by omega)]
      have ex1 : iZ X + (1 : Int32) = nI (X.toNat + 1) := by rw [iZ_pos q1.1, nI_1]
      have ex2 : iZ X + (2 : Int32) = nI (X.toNat + 2) := by rw [iZ_pos q1.1]; exact nI_add _ 2
      rw [ex1, ex2]
      obtain ⟨l1, r1, e1, t1⟩ := v_layDigits (n := n) (v := D0) (fr := 0) (to := X.toNat + 1) (many := ndg D0) ht d62 (by omega) npos (by omega) (by omega) (by omega) (by omega)
      rw [show (0 : Int32) = nI 0 from rfl, e1]
      simp only [Option.bind_some, lt_]
      obtain ⟨l2, r2, e2, t2⟩ := v_lay (n := n) (c := 46) t1 (by rw [List.length_append, dgs_len]; omega)
      rw [show (46 : Int32) = nI 46 from rfl, e2]
      simp only [Option.bind_some]
      have eto : (if nI (ndg D0) ≤ nI (X.toNat + 1) then nI (X.toNat + 2) else nI (ndg D0)) = nI (if ndg D0 ≤ X.toNat + 1 then X.toNat + 2 else ndg D0) := by
        by_cases y : ndg D0 ≤ X.toNat + 1
        · rw [if_pos (nI_le y (by omega)), if_pos y]
        · rw [if_neg (nI_ge (by omega) (by omega)), if_neg y]
      rw [eto]
      obtain ⟨l3, r3, e3, t3⟩ := v_layDigits (n := n) (v := D0) (fr := X.toNat + 1) (to := if ndg D0 ≤ X.toNat + 1 then X.toNat + 2 else ndg D0) (many := ndg D0) t2 d62 (by omega) npos (by split <;> omega) (by split <;> omega) (by rw [List.length_append, List.length_append, dgs_len]; show _ + _ + 1 + _ ≤ 40; split <;> omega) (by omega)
      rw [e3]
      refine ⟨_, _, _, _, _, _, _, _, _, _, _, _, _, _, rfl, ?_⟩
      unfold pp
      rw [Nat.sub_zero] at t3
      by_cases y : ndg D0 ≤ X.toNat + 1
      · -- whole
        rw [if_pos y] at t3
        rw [if_neg (show ¬ 0 < -(K + z) by omega)]
        have e4 : D0 * 10 ^ (X.toNat + 1) / 10 ^ ndg D0 = D0 * 10 ^ (- -(K + (z : Int))).toNat := by
          rw [show X.toNat + 1 = (- -(K + (z : Int))).toNat + ndg D0 by omega, Nat.pow_add, ← Nat.mul_assoc, Nat.mul_div_cancel _ (Nat.pow_pos (by decide))]
        have e5 : dgs (X.toNat + 2 - (X.toNat + 1)) (D0 * 10 ^ (X.toNat + 2) / 10 ^ ndg D0) = [48] := by
          rw [show X.toNat + 2 - (X.toNat + 1) = 1 by omega, show X.toNat + 2 = (X.toNat + 1 - ndg D0) + 1 + ndg D0 by omega, Nat.pow_add, ← Nat.mul_assoc, Nat.mul_div_cancel _ (Nat.pow_pos (by decide)), Nat.pow_succ, ← Nat.mul_assoc]
          show [] ++ [48 + _ * 10 % 10] = [48]
          rw [Nat.mul_mod_left]
          rfl
        rw [e4, e5] at t3
        rw [show ndg D0 + (- -(K + (z : Int))).toNat = X.toNat + 1 by omega]
        simp only [List.append_assoc] at t3 ⊢
        exact t3
      · rw [if_neg y] at t3
        rw [if_pos (show 0 < -(K + z) by omega), if_pos (show -(K + (z : Int)) < ndg D0 by omega)]
        have e4 : D0 * 10 ^ (X.toNat + 1) / 10 ^ ndg D0 = D0 / 10 ^ (-(K + (z : Int))).toNat := by
          rw [show 10 ^ ndg D0 = 10 ^ (-(K + (z : Int))).toNat * 10 ^ (X.toNat + 1) by rw [← Nat.pow_add]; congr 1; omega, Nat.mul_div_mul_right _ _ (Nat.pow_pos (by decide))]
        rw [e4, Nat.mul_div_cancel _ (Nat.pow_pos (by decide))] at t3
        rw [show ndg D0 - (-(K + (z : Int))).toNat = X.toNat + 1 by omega, show (-(K + (z : Int))).toNat = ndg D0 - (X.toNat + 1) by omega]
        rw [show (-(K + (z : Int))).toNat = ndg D0 - (X.toNat + 1) by omega] at t3
        simp only [List.append_assoc] at t3 ⊢
        exact t3
    · rw [if_neg q1, if_pos rfl]
      by_cases q2 : -3 ≤ X ∧ X ≤ -1
      · rw [if_pos q2, if_neg (by decide), if_pos (show -3 ≤ X ∧ X < 7 by omega)]
        obtain ⟨l1, r1, e1, t1⟩ := v_lay (n := n) (c := 48) ht (by omega)
        rw [show (48 : Int32) = nI 48 from rfl, e1]
        simp only [Option.bind_some]
        obtain ⟨l2, r2, e2, t2⟩ := v_lay (n := n) (c := 46) t1 (by rw [List.length_append]; show _ + 1 < 40; omega)
        rw [show (46 : Int32) = nI 46 from rfl, e2]
        simp only [Option.bind_some]
        have eX : X = -1 - (((-1 - X).toNat : Nat) : Int) := by omega
        obtain ⟨l3, r3, e3, t3⟩ := rd_L168 a1 a2 a3 a4 a5 a6 (iZ K) b1 b2 b3 b4 b5 (lN D0) (nI (ndg D0)) (fun (rlaid_72 : Int32) (aN_73 : Int32) (bN_74 : Int32) (fN_75 : Int32) (lN__76 : Int32) (rN_77 : Int32) (twos_78 : Int32) (rpow_79 : Int32) (wri_80 : (Nat → Int32)) (ra_81 : (Nat → Int32)) (rb_82 : (Nat → Int32)) (rfive_83 : (Nat → Int32)) (rleft_84 : (Nat → Int32)) (rright_85 : (Nat → Int32)) => (F_Rs_layDigits n rlaid_72 wri_80 (lN D0) (0 : Int32) (nI (ndg D0)) (nI (ndg D0))).bind fun x86 => some (x86.1, aN_73, bN_74, fN_75, lN__76, rN_77, twos_78, rpow_79, x86.2, ra_81, rb_82, rfive_83, rleft_84, rright_85)) (-1 - X).toNat n _ l2 r2 (by omega) (by omega) t2 (by rw [List.length_append, List.length_append]; show _ + 1 + 1 + _ ≤ 40; omega)
        rw [← eX] at e3
        rw [e3]
        obtain ⟨l4, r4, e4, t4⟩ := v_layDigits (n := n) (v := D0) (fr := 0) (to := ndg D0) (many := ndg D0) t3 d62 (by omega) npos (by omega) (by omega) (by rw [List.length_append, List.length_append, List.length_append, List.length_replicate]; show _ + 1 + 1 + _ + _ ≤ 40; omega) (by omega)
        rw [show (0 : Int32) = nI 0 from rfl, e4]
        refine ⟨_, _, _, _, _, _, _, _, _, _, _, _, _, _, rfl, ?_⟩
        unfold pp
        rw [if_pos (show 0 < -(K + (z : Int)) by omega), if_neg (show ¬ -(K + (z : Int)) < ndg D0 by omega)]
        rw [show (-(K + (z : Int))).toNat = (-1 - X).toNat + ndg D0 by omega, dgs_pad _ _ nlt]
        rw [Nat.mul_div_cancel _ (Nat.pow_pos (by decide)), Nat.sub_zero] at t4
        simp only [List.append_assoc] at t4 ⊢
        exact t4
      · rw [if_neg q2, if_pos rfl, if_neg (show ¬ (-3 ≤ X ∧ X < 7) by omega)]
        obtain ⟨l1, r1, e1, t1⟩ := v_layDigits (n := n) (v := D0) (fr := 0) (to := 1) (many := ndg D0) ht d62 (by omega) npos (by omega) (by omega) (by omega) (by omega)
        have e1 : F_Rs_layDigits n rl wri (lN D0) (0 : Int32) (1 : Int32) (nI (ndg D0)) = some (l1, r1) := e1
        rw [e1]
        simp only [Option.bind_some, lt_]
        obtain ⟨l2, r2, e2, t2⟩ := v_lay (n := n) (c := 46) t1 (by rw [List.length_append, dgs_len]; omega)
        rw [show (46 : Int32) = nI 46 from rfl, e2]
        simp only [Option.bind_some]
        have eto : (if nI (ndg D0) ≤ (1 : Int32) then (2 : Int32) else nI (ndg D0)) = nI (if ndg D0 ≤ 1 then 2 else ndg D0) := by
          by_cases y : ndg D0 ≤ 1
          · rw [if_pos (show nI (ndg D0) ≤ (1 : Int32) from nI_le (b := 1) y (by decide)), if_pos y]; rfl
          · rw [if_neg (show ¬ nI (ndg D0) ≤ (1 : Int32) from nI_ge (a := 1) (by omega) (by omega)), if_neg y]
        rw [eto]
        obtain ⟨l3, r3, e3, t3⟩ := v_layDigits (n := n) (v := D0) (fr := 1) (to := if ndg D0 ≤ 1 then 2 else ndg D0) (many := ndg D0) t2 d62 (by omega) npos (by split <;> omega) (by split <;> omega) (by rw [List.length_append, List.length_append, dgs_len]; show _ + _ + 1 + _ ≤ 40; split <;> omega) (by omega)
        have e3 : F_Rs_layDigits n l2 r2 (lN D0) (1 : Int32) (nI (if ndg D0 ≤ 1 then 2 else ndg D0)) (nI (ndg D0)) = some (l3, r3) := e3
        rw [e3]
        simp only [Option.bind_some]
        -- the digits are those of pp
        have epp : dgs (1 - 0) (D0 * 10 ^ 1 / 10 ^ ndg D0) ++ [46] ++ dgs ((if ndg D0 ≤ 1 then 2 else ndg D0) - 1) (D0 * 10 ^ (if ndg D0 ≤ 1 then 2 else ndg D0) / 10 ^ ndg D0) = pp D0 (ndg D0 - 1) := by
          unfold pp
          by_cases y : ndg D0 ≤ 1
          · have y1 : ndg D0 = 1 := by omega
            rw [if_pos y, if_neg (show ¬ 0 < (ndg D0 : Int) - 1 by omega), y1]
            rw [show (-(((1 : Nat) : Int) - 1)).toNat = 0 from rfl, Nat.pow_zero, Nat.mul_one, Nat.mul_div_cancel _ (by decide), show 10 ^ 2 = 10 * 10 ^ 1 from rfl, ← Nat.mul_assoc, Nat.mul_div_cancel _ (by decide)]
            show dgs 1 D0 ++ [46] ++ ([] ++ [48 + D0 * 10 % 10]) = dgs 1 D0 ++ [46, 48]
            rw [Nat.mul_mod_left]
            simp only [List.append_assoc]
            rfl
          · rw [if_neg y, if_pos (show 0 < (ndg D0 : Int) - 1 by omega), if_pos (show (ndg D0 : Int) - 1 < ndg D0 by omega)]
            rw [show ((ndg D0 : Int) - 1).toNat = ndg D0 - 1 by omega, show ndg D0 - (ndg D0 - 1) = 1 by omega, Nat.mul_div_cancel _ (Nat.pow_pos (by decide))]
            rw [show 10 ^ ndg D0 = 10 ^ (ndg D0 - 1) * 10 ^ 1 by rw [← Nat.pow_add]; congr 1; omega, Nat.mul_div_mul_right _ _ (Nat.pow_pos (by decide))]
        have t3' : tx l3 r3 (L ++ pp D0 (ndg D0 - 1)) := by
          rw [← epp]
          simp only [List.append_assoc] at t3 ⊢
          exact t3
        have hpl : (pp D0 ((ndg D0 : Int) - 1)).length ≤ 22 := pp_len (by omega) (by omega) (by omega)
        obtain ⟨l4, r4, e4, t4⟩ := v_lay (n := n) (c := 69) t3' (by rw [List.length_append]; omega)
        rw [show (69 : Int32) = nI 69 from rfl, e4]
        simp only [Option.bind_some]
        have c0 : (0 : Int32) ≤ iZ X ↔ 0 ≤ X := iZ_le (a := 0) (by omega) (by omega) (by omega) (by omega)
        have eAbs : (if (0 : Int32) ≤ iZ X then iZ X else -(iZ X)) = nI X.natAbs := by
          by_cases y : 0 ≤ X
          · rw [if_pos (c0.mpr y), iZ_pos y]; congr 1; omega
          · rw [if_neg (fun q => y (c0.mp q)), iZ_neg, iZ_pos (by omega)]; congr 1; omega
        rw [eAbs]
        unfold wl
        by_cases y : 0 ≤ X
        · rw [if_pos (c0.mpr y), if_neg (show ¬ X < 0 by omega)]
          obtain ⟨l5, r5, e5, t5⟩ := v_layNumber (n := n) (V := X.natAbs) t4 (by omega) (by rw [List.length_append, List.length_append]; show _ + _ + 1 ≤ 30; omega) (by omega)
          rw [e5]
          refine ⟨_, _, _, _, _, _, _, _, _, _, _, _, _, _, rfl, ?_⟩
          simp only [List.append_assoc, List.nil_append] at t5 ⊢
          exact t5
        · rw [if_neg (fun q => y (c0.mp q)), if_pos (show X < 0 by omega)]
          obtain ⟨l6, r6, e6, t6⟩ := v_lay (n := n) (c := 45) t4 (by rw [List.length_append, List.length_append]; show _ + _ + 1 < 40; omega)
          rw [show (45 : Int32) = nI 45 from rfl, e6]
          simp only [Option.bind_some]
          obtain ⟨l5, r5, e5, t5⟩ := v_layNumber (n := n) (V := X.natAbs) t6 (by omega) (by rw [List.length_append, List.length_append, List.length_append]; show _ + _ + 1 + 1 ≤ 30; omega) (by omega)
          rw [e5]
          refine ⟨_, _, _, _, _, _, _, _, _, _, _, _, _, _, rfl, ?_⟩
          simp only [List.append_assoc] at t5 ⊢
          exact t5
  -- the way there
  unfold F_Rs_layDecimal
  rw [e0]
  simp only [Option.bind_some, lt_]
  obtain ⟨D1, z1, g1, g2, g3⟩ := rd_L14 a1 a2 a3 a4 a5 a6 (iZ K) b1 b2 b3 b4 b5 _ rl wri 18 n D K hDp (by omega) (by omega) (by omega)
  obtain ⟨rfl, rfl⟩ := strip_un z1 z D1 D0 (by rw [← g1, hD]) g2 hD0
  rw [g3]
  have h46 := rd_L46 a1 a2 a3 a4 a5 a6 (iZ K) b1 b2 b3 b4 b5 (lN D1) (iZ (K + z1))
  rw [show (1 : Int32) = nI 1 from rfl, h46 _ rl wri 19 n 1 D1 h19 (by omega) (by omega), show 1 + ndg D1 - 1 = ndg D1 by omega]
  rw [show iZ (K + z1) + nI (ndg D1) - nI 1 = iZ (K + z1 + ndg D1 - 1) by rw [← iZ_nI, ← iZ_nI, iZ_add, iZ_sub]; rfl]
  have := body _ rfl
  simp only [lt_] at this
  exact this
