/-! The text of a whole number; text and take of both sides. -/
section WT
variable (G1 G2 : Int32) (R1 R2 R3 A1 A2 A3 A4 A5 A6 A7 : Int32) (w B1 B2 B3 B4 B5 : Nat → Int32)
theorem lZ_dv {z : Int} {e : Nat} (h1 : -9223372036854775808 ≤ z) (h2 : z ≤ 9223372036854775807) (he : e ≤ 18) : lZ z / lN (10 ^ e) = lZ (z.tdiv ((10 ^ e : Nat) : Int)) ∧ (z.tdiv ((10 ^ e : Nat) : Int)).natAbs = z.natAbs / 10 ^ e ∧ ((0 ≤ z ∧ z.tdiv ((10 ^ e : Nat) : Int) = ((z.natAbs / 10 ^ e : Nat) : Int)) ∨ (z < 0 ∧ z.tdiv ((10 ^ e : Nat) : Int) = -((z.natAbs / 10 ^ e : Nat) : Int))) := by
  have hp := p10 e he
  have h10 : 0 < 10 ^ e := Nat.pow_pos (by decide)
  have hd : ((0 ≤ z ∧ z.tdiv ((10 ^ e : Nat) : Int) = ((z.natAbs / 10 ^ e : Nat) : Int)) ∨ (z < 0 ∧ z.tdiv ((10 ^ e : Nat) : Int) = -((z.natAbs / 10 ^ e : Nat) : Int))) := by
    by_cases h : 0 ≤ z
    · refine Or.inl ⟨h, ?_⟩
      obtain ⟨m, rfl⟩ : ∃ m : Nat, z = m := ⟨z.toNat, by omega⟩
      rw [Int.natAbs_natCast]
      rfl
    · refine Or.inr ⟨by omega, ?_⟩
      obtain ⟨m, rfl⟩ : ∃ m : Nat, z = -(m : Int) := ⟨(-z).toNat, by omega⟩
      rw [Int.neg_tdiv, Int.natAbs_neg, Int.natAbs_natCast]
      rfl
  have hle := Nat.div_le_self z.natAbs (10 ^ e)
  have hb : -9223372036854775808 ≤ z.tdiv ((10 ^ e : Nat) : Int) ∧ z.tdiv ((10 ^ e : Nat) : Int) ≤ 9223372036854775807 := by
    generalize z.natAbs / 10 ^ e = q at *
    omega
  refine ⟨?_, ?_, hd⟩
  · apply Int64.toInt_inj.mp
    have ne : (lN (10 ^ e)).toInt ≠ -1 := by rw [pf_lI (by omega)]; omega
    rw [lZ_t hb.1 hb.2, Int64.toInt_div_of_ne_right _ _ (fun z0 => ne (by rw [z0]; decide)), lZ_t h1 h2, pf_lI (by omega)]
  · generalize z.natAbs / 10 ^ e = q at *
    omega
theorem wt_L115 (z : Int) (h1 : -9223372036854775808 ≤ z) (h2 : z ≤ 9223372036854775807) (j) (ld : Int32) (le : Nat → Int32) : ∀ (t e n : Nat), e + t = ndg z.natAbs - 1 → t < n → F_Md_text_L115 (lZ z) j n (lN (10 ^ e)) ld G1 G2 le R1 R2 R3 A1 A2 A3 A4 A5 A6 A7 w B1 B2 B3 B4 B5 = j (lN (10 ^ (ndg z.natAbs - 1))) ld G1 G2 le R1 R2 R3 A1 A2 A3 A4 A5 A6 A7 w B1 B2 B3 B4 B5 := by
  have h19 : z.natAbs < 10 ^ 19 := by have : (10 : Nat) ^ 19 = 10000000000000000000 := rfl; omega
  have nlt := ndg_lt 19 _ h19
  have nge := ndg_ge 19 _ h19
  have npos := ndg_pos z.natAbs
  have nle : ndg z.natAbs ≤ 19 := by
    by_cases q : 0 < z.natAbs
    · have := (Nat.pow_lt_pow_iff_right (show 1 < 10 by decide)).mp (Nat.lt_of_le_of_lt (nge q) h19)
      omega
    · have : ndg 0 = 1 := by unfold ndg; rfl
      rw [show z.natAbs = 0 by omega]
      omega
  intro t
  induction t with
  | zero =>
    intro e n he hn
    obtain ⟨n, rfl⟩ : ∃ k, n = k + 1 := ⟨n - 1, by omega⟩
    obtain ⟨d1, d2, d3⟩ := lZ_dv h1 h2 (show e ≤ 18 by omega)
    have hp := p10 e (by omega)
    have h10 : 0 < 10 ^ e := Nat.pow_pos (by decide)
    have nz : ¬ lN (10 ^ e) = 0 := fun y => by have := (lN_z (by omega)).mp y; omega
    have hq : z.natAbs / 10 ^ e ≤ 9 := by
      have : z.natAbs < 10 ^ e * 10 := by rw [← Nat.pow_succ, show e.succ = ndg z.natAbs by omega]; exact nlt
      exact Nat.lt_succ_iff.mp (Nat.div_lt_of_lt_mul this)
    have c1 : (9 : Int64) < lZ (z.tdiv ((10 ^ e : Nat) : Int)) ↔ 9 < z.tdiv ((10 ^ e : Nat) : Int) := lZ_lt (a := 9) (by omega) (by omega) (by omega) (by omega)
    have c2 : (-9 : Int64) ≤ lZ (z.tdiv ((10 ^ e : Nat) : Int)) ↔ -9 ≤ z.tdiv ((10 ^ e : Nat) : Int) := by rw [show (-9 : Int64) = lZ (-9) by decide]; exact lZ_le (by omega) (by omega) (by omega) (by omega)
    have stp : ∀ n, F_Md_text_L115 (lZ z) j (n + 1) (lN (10 ^ e)) ld G1 G2 le R1 R2 R3 A1 A2 A3 A4 A5 A6 A7 w B1 B2 B3 B4 B5 = gz_ (lN (10 ^ e) = 0) (if (9 : Int64) < (lZ z / lN (10 ^ e)) then F_Md_text_L115 (lZ z) j n (lN (10 ^ e) * lN 10) ld G1 G2 le R1 R2 R3 A1 A2 A3 A4 A5 A6 A7 w B1 B2 B3 B4 B5 else gz_ (lN (10 ^ e) = 0) (if (-9 : Int64) ≤ (lZ z / lN (10 ^ e)) then j (lN (10 ^ e)) ld G1 G2 le R1 R2 R3 A1 A2 A3 A4 A5 A6 A7 w B1 B2 B3 B4 B5 else F_Md_text_L115 (lZ z) j n (lN (10 ^ e) * lN 10) ld G1 G2 le R1 R2 R3 A1 A2 A3 A4 A5 A6 A7 w B1 B2 B3 B4 B5)) := fun _ => rfl
    rw [stp, gzf nz, d1, if_neg (fun y => by have := c1.mp y; omega), gzf nz, if_pos (c2.mpr (by omega)), show e = ndg z.natAbs - 1 by omega]
  | succ t ih =>
    intro e n he hn
    obtain ⟨n, rfl⟩ : ∃ k, n = k + 1 := ⟨n - 1, by omega⟩
    obtain ⟨d1, d2, d3⟩ := lZ_dv h1 h2 (show e ≤ 18 by omega)
    have hp := p10 e (by omega)
    have h10 : 0 < 10 ^ e := Nat.pow_pos (by decide)
    have nz : ¬ lN (10 ^ e) = 0 := fun y => by have := (lN_z (by omega)).mp y; omega
    have hpos : 0 < z.natAbs := by
      by_cases q : 0 < z.natAbs
      · exact q
      · have : ndg 0 = 1 := by unfold ndg; rfl
        rw [show z.natAbs = 0 by omega] at he
        omega
    have hq : 10 ≤ z.natAbs / 10 ^ e := by
      refine (Nat.le_div_iff_mul_le h10).mpr ?_
      rw [Nat.mul_comm, ← Nat.pow_succ]
      exact Nat.le_trans (Nat.pow_le_pow_right (by decide) (by omega)) (nge hpos)
    have hle := Nat.div_le_self z.natAbs (10 ^ e)
    have c1 : (9 : Int64) < lZ (z.tdiv ((10 ^ e : Nat) : Int)) ↔ 9 < z.tdiv ((10 ^ e : Nat) : Int) := lZ_lt (a := 9) (by omega) (by omega) (by omega) (by omega)
    have c2 : (-9 : Int64) ≤ lZ (z.tdiv ((10 ^ e : Nat) : Int)) ↔ -9 ≤ z.tdiv ((10 ^ e : Nat) : Int) := by rw [show (-9 : Int64) = lZ (-9) by decide]; exact lZ_le (by omega) (by omega) (by omega) (by omega)
    have stp : ∀ n, F_Md_text_L115 (lZ z) j (n + 1) (lN (10 ^ e)) ld G1 G2 le R1 R2 R3 A1 A2 A3 A4 A5 A6 A7 w B1 B2 B3 B4 B5 = gz_ (lN (10 ^ e) = 0) (if (9 : Int64) < (lZ z / lN (10 ^ e)) then F_Md_text_L115 (lZ z) j n (lN (10 ^ e) * lN 10) ld G1 G2 le R1 R2 R3 A1 A2 A3 A4 A5 A6 A7 w B1 B2 B3 B4 B5 else gz_ (lN (10 ^ e) = 0) (if (-9 : Int64) ≤ (lZ z / lN (10 ^ e)) then j (lN (10 ^ e)) ld G1 G2 le R1 R2 R3 A1 A2 A3 A4 A5 A6 A7 w B1 B2 B3 B4 B5 else F_Md_text_L115 (lZ z) j n (lN (10 ^ e) * lN 10) ld G1 G2 le R1 R2 R3 A1 A2 A3 A4 A5 A6 A7 w B1 B2 B3 B4 B5)) := fun _ => rfl
    rw [stp, gzf nz, d1, lN_mul, ← Nat.pow_succ]
    by_cases y : 9 < z.tdiv ((10 ^ e : Nat) : Int)
    · rw [if_pos (c1.mpr y)]
      exact ih (e + 1) n (by omega) (by omega)
    · rw [if_neg (fun q => y (c1.mp q)), gzf nz, if_neg (fun q => by have := c2.mp q; omega)]
      exact ih (e + 1) n (by omega) (by omega)
theorem wt_L150 (z : Int) (h1 : -9223372036854775808 ≤ z) (h2 : z ≤ 9223372036854775807) (j) : ∀ (e n : Nat) (L : List Nat) (ld : Int32) (le : Nat → Int32), e ≤ 18 → e + 1 < n → tx ld le L → L.length + e + 1 ≤ 40 → ∃ (ld' : Int32) (le' : Nat → Int32), F_Md_text_L150 (lZ z) j n (lN (10 ^ e)) ld G1 G2 le R1 R2 R3 A1 A2 A3 A4 A5 A6 A7 w B1 B2 B3 B4 B5 = j ld' G1 G2 le' R1 R2 R3 A1 A2 A3 A4 A5 A6 A7 w B1 B2 B3 B4 B5 ∧ tx ld' le' (L ++ dgs (e + 1) z.natAbs) := by
  have dig : ∀ e : Nat, e ≤ 18 → ((48 : Int64) + (if (0 : Int64) ≤ lZ z / lN (10 ^ e) - lZ z / lN (10 ^ e) / 10 * 10 then lZ z / lN (10 ^ e) - lZ z / lN (10 ^ e) / 10 * 10 else -(lZ z / lN (10 ^ e) - lZ z / lN (10 ^ e) / 10 * 10))).toInt32 = nI (48 + z.natAbs / 10 ^ e % 10) := by
    intro e he
    obtain ⟨d1, d2, d3⟩ := lZ_dv h1 h2 he
    have hle := Nat.div_le_self z.natAbs (10 ^ e)
    rw [d1]
    generalize z.tdiv ((10 ^ e : Nat) : Int) = q at *
    generalize z.natAbs / 10 ^ e = a at *
    rw [lZ_d10 (by omega) (by omega), show (10 : Int64) = lZ 10 from rfl, lZ_mul, lZ_sub]
    have htd := td_f q
    have hc : (0 : Int64) ≤ lZ (q - q.tdiv 10 * 10) ↔ 0 ≤ q - q.tdiv 10 * 10 := lZ_le (a := 0) (by omega) (by omega) (by omega) (by omega)
    have : (if (0 : Int64) ≤ lZ (q - q.tdiv 10 * 10) then lZ (q - q.tdiv 10 * 10) else -(lZ (q - q.tdiv 10 * 10))) = lZ ((a % 10 : Nat) : Int) := by
      by_cases y : 0 ≤ q - q.tdiv 10 * 10
      · rw [if_pos (hc.mpr y)]
        congr 1
        omega
      · rw [if_neg (fun x => y (hc.mp x)), lZ_neg]
        congr 1
        omega
    rw [this, show (48 : Int64) = lZ 48 from rfl, lZ_add, lZ_i, show (48 : Int) + ((a % 10 : Nat) : Int) = ((48 + a % 10 : Nat) : Int) by omega, iZ_nI]
  intro e
  induction e with
  | zero =>
    intro n L ld le he hn h hL
    obtain ⟨n, rfl⟩ : ∃ k, n = k + 1 := ⟨n - 1, by omega⟩
    obtain ⟨n, rfl⟩ : ∃ k, n = k + 1 := ⟨n - 1, by omega⟩
    obtain ⟨l1, r1, e1, t1⟩ := v_mlay (n := n + 1) (c := 48 + z.natAbs / 10 ^ 0 % 10) h (by omega)
    have d0 := dig 0 (by decide)
    refine ⟨l1, r1, ?_, ?_⟩
    · have stp : ∀ n, F_Md_text_L150 (lZ z) j (n + 1) (lN (10 ^ 0)) ld G1 G2 le R1 R2 R3 A1 A2 A3 A4 A5 A6 A7 w B1 B2 B3 B4 B5 = (if lN (10 ^ 0) ≤ (0 : Int64) then j ld G1 G2 le R1 R2 R3 A1 A2 A3 A4 A5 A6 A7 w B1 B2 B3 B4 B5 else gz_ (lN (10 ^ 0) = 0) ((F_Md_lay n ld le (((48 : Int64) + (if (0 : Int64) ≤ lZ z / lN (10 ^ 0) - lZ z / lN (10 ^ 0) / 10 * 10 then lZ z / lN (10 ^ 0) - lZ z / lN (10 ^ 0) / 10 * 10 else -(lZ z / lN (10 ^ 0) - lZ z / lN (10 ^ 0) / 10 * 10))).toInt32)).bind fun x107 => F_Md_text_L150 (lZ z) j n (lN (10 ^ 0) / lN 10) x107.1 G1 G2 x107.2 R1 R2 R3 A1 A2 A3 A4 A5 A6 A7 w B1 B2 B3 B4 B5)) := fun _ => rfl
      have z0 : ∀ (n : Nat) (a : Int32) (b : Nat → Int32), F_Md_text_L150 (lZ z) j (n + 1) (lN 0) a G1 G2 b R1 R2 R3 A1 A2 A3 A4 A5 A6 A7 w B1 B2 B3 B4 B5 = j a G1 G2 b R1 R2 R3 A1 A2 A3 A4 A5 A6 A7 w B1 B2 B3 B4 B5 := fun _ _ _ => if_pos (by decide)
      rw [stp, if_neg (by decide), gzf (by decide), d0, e1]
      simp only [Option.bind_some]
      rw [show lN (10 ^ 0) / lN 10 = lN 0 by decide]
      exact z0 n l1 r1
    · show tx l1 r1 (L ++ ([] ++ [48 + z.natAbs % 10]))
      rw [Nat.pow_zero, Nat.div_one] at t1
      exact t1
  | succ e ih =>
    intro n L ld le he hn h hL
    obtain ⟨n, rfl⟩ : ∃ k, n = k + 1 := ⟨n - 1, by omega⟩
    have h10 : 0 < 10 ^ (e + 1) := Nat.pow_pos (by decide)
    have hp := p10 (e + 1) he
    have nz : ¬ lN (10 ^ (e + 1)) = 0 := fun y => by have := (lN_z (by omega)).mp y; omega
    obtain ⟨l1, r1, e1, t1⟩ := v_mlay (n := n) (c := 48 + z.natAbs / 10 ^ (e + 1) % 10) h (by omega)
    obtain ⟨l2, r2, e2, t2⟩ := ih n (L ++ [48 + z.natAbs / 10 ^ (e + 1) % 10]) l1 r1 (by omega) (by omega) t1 (by rw [List.length_append]; show _ + 1 + e + 1 ≤ 40; omega)
    refine ⟨l2, r2, ?_, ?_⟩
    · have stp : ∀ n x, F_Md_text_L150 (lZ z) j (n + 1) (lN x) ld G1 G2 le R1 R2 R3 A1 A2 A3 A4 A5 A6 A7 w B1 B2 B3 B4 B5 = (if lN x ≤ (0 : Int64) then j ld G1 G2 le R1 R2 R3 A1 A2 A3 A4 A5 A6 A7 w B1 B2 B3 B4 B5 else gz_ (lN x = 0) ((F_Md_lay n ld le (((48 : Int64) + (if (0 : Int64) ≤ lZ z / lN x - lZ z / lN x / 10 * 10 then lZ z / lN x - lZ z / lN x / 10 * 10 else -(lZ z / lN x - lZ z / lN x / 10 * 10))).toInt32)).bind fun x107 => F_Md_text_L150 (lZ z) j n (lN x / lN 10) x107.1 G1 G2 x107.2 R1 R2 R3 A1 A2 A3 A4 A5 A6 A7 w B1 B2 B3 B4 B5)) := fun _ _ => rfl
      have hc : lN (10 ^ (e + 1)) ≤ (0 : Int64) ↔ 10 ^ (e + 1) ≤ 0 := pk_lLE (b := 0) (by omega) (by decide)
      rw [stp, if_neg (fun y => by have := hc.mp y; omega), gzf nz, dig (e + 1) he, e1]
      simp only [Option.bind_some]
      rw [pk_lDiv (by omega) (by decide) (by decide), Nat.pow_succ, Nat.mul_div_cancel _ (by decide)]
      exact e2
    · rw [dgs_front]
      rw [List.append_assoc] at t2
      exact t2
theorem ct_L61 (j) (C : List Nat) (hw : tx R1 w C) (hC : C.length ≤ 40) : ∀ (t k n : Nat) (ld : Int32) (le : Nat → Int32), k + t = C.length → t < n → tx ld le (C.take k) → ∃ (ld' : Int32) (le' : Nat → Int32), F_Md_text_L61 j n R1 (nI k) ld G1 G2 le R1 R2 R3 A1 A2 A3 A4 A5 A6 A7 w B1 B2 B3 B4 B5 = j ld' G1 G2 le' R1 R2 R3 A1 A2 A3 A4 A5 A6 A7 w B1 B2 B3 B4 B5 ∧ tx ld' le' C := by
  obtain ⟨rfl, hr⟩ := hw
  intro t
  induction t with
  | zero =>
    intro k n ld le hk hn h
    obtain ⟨n, rfl⟩ : ∃ k, n = k + 1 := ⟨n - 1, by omega⟩
    obtain rfl : k = C.length := by omega
    rw [List.take_length] at h
    exact ⟨ld, le, if_pos (Int32.le_refl _), h⟩
  | succ t ih =>
    intro k n ld le hk hn h
    obtain ⟨n, rfl⟩ : ∃ k, n = k + 1 := ⟨n - 1, by omega⟩
    have hkl : (C.take k).length = k := by rw [List.length_take]; omega
    obtain ⟨l1, r1, e1, t1⟩ := v_mlay (n := n) (c := C.getD k 0) h (by omega)
    have hs : C.take k ++ [C.getD k 0] = C.take (k + 1) := by
      rw [List.take_succ_eq_append_getElem (show k < C.length by omega), gD_e (show k < C.length by omega)]
    rw [hs] at t1
    obtain ⟨l2, r2, e2, t2⟩ := ih (k + 1) n l1 r1 (by omega) (by omega) t1
    refine ⟨l2, r2, ?_, t2⟩
    have hlet : F_Rs_letter n w (nI k) = some (nI (C.getD k 0)) := by
      unfold F_Rs_letter
      rw [gzf (nI_in (by omega) (by decide)), nI_clamp (by omega), hr k (by omega)]
    have stp : ∀ n, F_Md_text_L61 j (n + 1) (nI C.length) (nI k) ld G1 G2 le (nI C.length) R2 R3 A1 A2 A3 A4 A5 A6 A7 w B1 B2 B3 B4 B5 = (if nI C.length ≤ nI k then j ld G1 G2 le (nI C.length) R2 R3 A1 A2 A3 A4 A5 A6 A7 w B1 B2 B3 B4 B5 else (F_Rs_letter n w (nI k)).bind fun x196 => (F_Md_lay n ld le x196).bind fun x197 => F_Md_text_L61 j n (nI C.length) (nI k + 1) x197.1 G1 G2 x197.2 (nI C.length) R2 R3 A1 A2 A3 A4 A5 A6 A7 w B1 B2 B3 B4 B5) := fun _ => rfl
    rw [stp, if_neg (nI_ge (by omega) (by omega)), hlet]
    simp only [Option.bind_some]
    rw [e1]
    simp only [Option.bind_some]
    rw [nI_1]
    exact e2
end WT
