/-! The shortest decimal (class). -/
theorem z1_iff {a b : Nat} (hb : 0 < b) : (a * b ≠ 0 ↔ a ≠ 0) := by
  constructor
  · intro h z; exact h (by rw [z, Nat.zero_mul])
  · intro h z
    rcases Nat.mul_eq_zero.mp z with y | y
    · exact h y
    · omega
theorem mx0 {z : Int} (h1 : -5000 < z) (h2 : z < 5000) : (if iZ z < (0 : Int32) then (0 : Int32) else iZ z) = nI z.toNat := by
  have h : iZ z < (0 : Int32) ↔ z < 0 := iZ_lt (b := 0) (by omega) (by omega) (by omega) (by omega)
  by_cases q : z < 0
  · rw [if_pos (h.mpr q), show z.toNat = 0 by omega]; rfl
  · rw [if_neg (fun y => q (h.mp y)), iZ_pos (by omega)]
theorem v_floor {n m : Nat} {twos tens : Int} (used lost : Int32) (lim : Nat → Int64) (hm : m < 2 ^ 62) (h1 : -1080 ≤ twos + tens) (h2 : twos + tens ≤ 1000) (h3 : -390 < tens) (h4 : tens < 390) (h5 : -1300 < twos) (h6 : twos < 1300) (hr : tM m twos / tD 1 (-tens) < 2 ^ 63) (hn : 1000 < n) :
    ∃ (u : Int32) (lim' : Nat → Int64), F_BW_floor n used lost lim (lN m) (iZ twos) (iZ tens) = some (lN (tM m twos / tD 1 (-tens)), u, (if tM m twos % tD 1 (-tens) ≠ 0 then 1 else 0), lim') := by
  have eM := tM_C m (k := -tens) (q := twos) (by omega) (by omega)
  have eD := tD_C 1 (k := -tens) (q := twos) (by omega) (by omega)
  have hC := tC_pos (-tens) twos
  rw [show (- -tens) = tens by omega, show twos - -tens = twos + tens by omega, Nat.mul_right_comm (5 ^ tens.toNat) m] at eM
  rw [Nat.one_mul, show -tens - twos = -(twos + tens) by omega] at eD
  have p5 : 0 < 5 ^ (-tens).toNat := Nat.pow_pos (by decide)
  have p2 : 0 < 2 ^ (-(twos + tens)).toNat := p2_pos _
  have eY : 5 ^ tens.toNat * 2 ^ (twos + tens).toNat * m = m * 2 ^ (twos + tens).toNat * 5 ^ tens.toNat := by
    rw [Nat.mul_comm, Nat.mul_comm (5 ^ tens.toNat), Nat.mul_assoc]
  rw [eY] at eM
  have ed : tM m twos / tD 1 (-tens) = m * 2 ^ (twos + tens).toNat * 5 ^ tens.toNat / 5 ^ (-tens).toNat / 2 ^ (-(twos + tens)).toNat := by
    rw [eM, eD, Nat.mul_div_mul_right _ _ hC, Nat.div_div_eq_div_mul]
  have em : (tM m twos % tD 1 (-tens) ≠ 0) ↔ ((False ∨ m * 2 ^ (twos + tens).toNat * 5 ^ tens.toNat % 5 ^ (-tens).toNat ≠ 0) ∨ m * 2 ^ (twos + tens).toNat * 5 ^ tens.toNat / 5 ^ (-tens).toNat % 2 ^ (-(twos + tens)).toNat ≠ 0) := by
    rw [eM, eD, Nat.mul_mod_mul_right, z1_iff hC, Nat.mod_mul]
    generalize m * 2 ^ (twos + tens).toNat * 5 ^ tens.toNat % 5 ^ (-tens).toNat = A
    generalize m * 2 ^ (twos + tens).toNat * 5 ^ tens.toNat / 5 ^ (-tens).toNat % 2 ^ (-(twos + tens)).toNat = B
    constructor
    · intro h
      by_cases z : A = 0
      · right
        intro y
        rw [z, y] at h
        exact h rfl
      · exact Or.inl (Or.inr z)
    · rintro ((a | a) | a)
      · exact a.elim
      · omega
      · have := Nat.mul_le_mul p5 (show 1 ≤ B by omega)
        omega
  have hX : m * 2 ^ (twos + tens).toNat < 4294967296 ^ 36 := by
    have a : m * 2 ^ (twos + tens).toNat < 2 ^ 62 * 2 ^ (twos + tens).toNat := Nat.mul_lt_mul_of_pos_right hm (p2_pos _)
    rw [← Nat.pow_add] at a
    rw [p32_2]
    exact Nat.lt_of_lt_of_le a (p2_le (by omega))
  have hY : m * 2 ^ (twos + tens).toNat * 5 ^ tens.toNat < 4294967296 ^ 36 := by
    by_cases z : tens ≤ 0
    · rw [show tens.toNat = 0 by omega, Nat.pow_zero, Nat.mul_one]
      exact hX
    · rw [ed, show (-tens).toNat = 0 by omega, Nat.pow_zero, Nat.div_one] at hr
      have a := (Nat.div_lt_iff_lt_mul p2).mp hr
      rw [← Nat.pow_add] at a
      rw [p32_2]
      exact Nat.lt_of_lt_of_le a (p2_le (by omega))
  obtain ⟨u1, f1, a1, a2⟩ := v_place (n := n) (v := m) (s := (twos + tens).toNat) used lim (by omega) (by omega) (by omega)
  obtain ⟨u2, f2, b1, b2⟩ := fl_L26 (iZ tens) (iZ (twos + tens)) (fun (used_3 : Int32) (lost_4 : Int32) (lim_5 : (Nat → Int64)) => lt_ (-(iZ tens)) fun x6 => lt_ (fun (used_7 : Int32) (lost_8 : Int32) (lim_9 : (Nat → Int64)) => (F_BW_bitsFrom n used_7 lost_8 lim_9 (if (-(iZ (twos + tens))) < (0 : Int32) then (0 : Int32) else -(iZ (twos + tens)))).bind fun x10 => some (x10.1, used_7, x10.2, lim_9)) fun j81 => F_BW_floor_L56 (iZ (twos + tens)) j81 n x6 used_3 lost_4 lim_5) (0 : Int32) 30 n u1 _ tens f1 (by omega) (by omega) (by omega) (by omega) a2 hY
  obtain ⟨u3, f3, lo, c1, c2, c3⟩ := fl_L56 (iZ (twos + tens)) (fun (used_7 : Int32) (lost_8 : Int32) (lim_9 : (Nat → Int64)) => (F_BW_bitsFrom n used_7 lost_8 lim_9 (if (-(iZ (twos + tens))) < (0 : Int32) then (0 : Int32) else -(iZ (twos + tens)))).bind fun x10 => some (x10.1, used_7, x10.2, lim_9)) 30 n u2 _ (-tens) f2 False (by omega) (by omega) (by omega) (by omega) b2
  have d1 := v_bitsFrom (n := n) (L := False ∨ m * 2 ^ (twos + tens).toNat * 5 ^ tens.toNat % 5 ^ (-tens).toNat ≠ 0) c3 (s := (-(twos + tens)).toNat) (by omega) (by rw [← ed]; exact hr) (by omega)
  refine ⟨nI u3, f3, ?_⟩
  have emx : (if tM m twos % tD 1 (-tens) ≠ 0 then (1 : Int32) else 0) = (if (False ∨ m * 2 ^ (twos + tens).toNat * 5 ^ tens.toNat % 5 ^ (-tens).toNat ≠ 0) ∨ m * 2 ^ (twos + tens).toNat * 5 ^ tens.toNat / 5 ^ (-tens).toNat % 2 ^ (-(twos + tens)).toNat ≠ 0 then 1 else 0) := by
    by_cases z : tM m twos % tD 1 (-tens) ≠ 0
    · rw [if_pos z, if_pos (em.mp z)]
    · rw [if_neg z, if_neg (fun q => z (em.mpr q))]
  rw [emx, ed]
  have es := mx0 (z := twos + tens) (by omega) (by omega)
  have es2 : (if -(iZ (twos + tens)) < (0 : Int32) then (0 : Int32) else -(iZ (twos + tens))) = nI (-(twos + tens)).toNat := by
    rw [iZ_neg]
    exact mx0 (by omega) (by omega)
  unfold F_BW_floor
  simp only [lt_]
  rw [iZ_add, es, a1]
  simp only [Option.bind_some]
  refine Eq.trans b1 ?_
  simp only [lt_]
  rw [show -(iZ tens) = iZ (-tens) from iZ_neg tens]
  refine Eq.trans c1 ?_
  rw [c2, es2, d1]
  rfl
