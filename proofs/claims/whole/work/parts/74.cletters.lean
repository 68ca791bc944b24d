/-! Whole numbers and decimals as letters (class). -/
theorem td_f (z : Int) : (0 ≤ z ∧ z.tdiv 10 = z / 10) ∨ (z < 0 ∧ z.tdiv 10 = -((-z) / 10)) := by
  by_cases h : 0 ≤ z
  · exact Or.inl ⟨h, Int.tdiv_eq_ediv_of_nonneg h⟩
  · refine Or.inr ⟨by omega, ?_⟩
    have : z.tdiv 10 = -((-z).tdiv 10) := by rw [Int.neg_tdiv, Int.neg_neg]
    rw [this, Int.tdiv_eq_ediv_of_nonneg (by omega)]
theorem lZ_d10 {z : Int} (h1 : -9223372036854775808 ≤ z) (h2 : z ≤ 9223372036854775807) : lZ z / 10 = lZ (z.tdiv 10) := by
  apply Int64.toInt_inj.mp
  have hb : -9223372036854775808 ≤ z.tdiv 10 ∧ z.tdiv 10 ≤ 9223372036854775807 := by have := td_f z; omega
  rw [lZ_t hb.1 hb.2, Int64.toInt_div_of_ne_right _ _ (by decide), lZ_t h1 h2]
  rfl
theorem td_abs (z : Int) : (z.tdiv 10).natAbs = z.natAbs / 10 := by have := td_f z; omega
theorem dc_L (j) : ∀ (t c n : Nat) (z : Int), -9223372036854775808 ≤ z → z ≤ 9223372036854775807 → z.natAbs < 10 ^ t → c + t ≤ 19 → t < n → F_Lt_digitCount_L8 j n (nI c) (lZ z) = j (nI (c + (if z = 0 then 0 else ndg z.natAbs))) := by
  intro t
  induction t with
  | zero =>
    intro c n z h1 h2 h3 h4 hn
    obtain ⟨n, rfl⟩ : ∃ k, n = k + 1 := ⟨n - 1, by omega⟩
    rw [Nat.pow_zero] at h3
    obtain rfl : z = 0 := by omega
    exact if_pos rfl
  | succ t ih =>
    intro c n z h1 h2 h3 h4 hn
    obtain ⟨n, rfl⟩ : ∃ k, n = k + 1 := ⟨n - 1, by omega⟩
    have stp : ∀ n, F_Lt_digitCount_L8 j (n + 1) (nI c) (lZ z) = (if lZ z = 0 then j (nI c) else if (19 : Int32) ≤ nI c then j (nI c) else F_Lt_digitCount_L8 j n (nI c + 1) (lZ z / 10)) := fun _ => rfl
    rw [stp]
    have hz : lZ z = 0 ↔ z = 0 := lZ_eq (b := 0) h1 h2 (by omega) (by omega)
    by_cases q : z = 0
    · rw [if_pos (hz.mpr q), if_pos q]; rfl
    · rw [if_neg (fun y => q (hz.mp y)), if_neg q, if_neg (show ¬ (19 : Int32) ≤ nI c from nI_ge (b := 19) (by omega) (by decide)), lZ_d10 h1 h2, nI_1, ih (c + 1) n (z.tdiv 10) (by have := td_f z; omega) (by have := td_f z; omega) (by rw [td_abs]; rw [Nat.pow_succ] at h3; omega) (by omega) (by omega)]
      congr 2
      rw [td_abs]
      by_cases y : z.natAbs < 10
      · rw [if_pos (by have := td_f z; omega)]
        unfold ndg
        rw [dif_pos y]
      · rw [if_neg (by have := td_f z; omega)]
        conv => rhs; unfold ndg
        rw [dif_neg y]
        omega
theorem v_digitCount {n : Nat} {z : Int} (h1 : -9223372036854775808 ≤ z) (h2 : z ≤ 9223372036854775807) (hn : 40 < n) : F_Lt_digitCount n (lZ z) = some (nI (ndg z.natAbs)) := by
  have h := dc_L (fun y => some y) 18 1 n (z.tdiv 10) (by have := td_f z; omega) (by have := td_f z; omega) (by rw [td_abs]; have : (10 : Nat) ^ 18 = 1000000000000000000 := rfl; omega) (by omega) (by omega)
  unfold F_Lt_digitCount
  simp only [lt_]
  rw [lZ_d10 h1 h2]
  refine Eq.trans h ?_
  congr 2
  rw [td_abs]
  by_cases y : z.natAbs < 10
  · rw [if_pos (by have := td_f z; omega)]
    unfold ndg
    rw [dif_pos y]
  · rw [if_neg (by have := td_f z; omega)]
    conv => rhs; unfold ndg
    rw [dif_neg y]
    omega
/-- a whole number's letters -/
def wl (z : Int) : List Nat := (if z < 0 then [45] else []) ++ dgs (ndg z.natAbs) z.natAbs
theorem v_putWhole {n : Nat} {z : Int} {len : Int32} {row : Nat → Int32} {L : List Nat} (h : tx len row L) (h1 : -9223372036854775808 ≤ z) (h2 : z ≤ 9223372036854775807) (hL : L.length + 1 + ndg z.natAbs ≤ 32) (hn : 40 < n) : ∃ (len' : Int32) (row' : Nat → Int32), F_Lt_putWhole n len row (lZ z) = some (len', row') ∧ tx len' row' (L ++ wl z) := by
  have hdc := v_digitCount h1 h2 hn
  have hc : (0 : Int64) ≤ lZ z ↔ 0 ≤ z := lZ_le (a := 0) (by omega) (by omega) h1 h2
  have hm : lZ (-(z.natAbs : Int)) = if (0 : Int64) ≤ lZ z then -(lZ z) else lZ z := by
    by_cases q : 0 ≤ z
    · rw [if_pos (hc.mpr q), lZ_neg]
      congr 1
      omega
    · rw [if_neg (fun y => q (hc.mp y))]
      congr 1
      omega
  unfold F_Lt_putWhole wl
  simp only [lt_]
  rw [← hm, hdc]
  simp only [Option.bind_some]
  by_cases q : 0 ≤ z
  · rw [if_pos (hc.mpr q), if_neg (by omega), List.nil_append]
    obtain ⟨l1, r1, e1, t1⟩ := v_putDigits (n := n) (c := ndg z.natAbs) (v := z.natAbs) h (by omega) (by omega) hn
    rw [e1]
    exact ⟨l1, r1, rfl, t1⟩
  · rw [if_neg (fun y => q (hc.mp y)), if_pos (by omega)]
    obtain ⟨l0, r0, e0, t0⟩ := v_put (n := n) (c := 45) h (by omega) (by decide)
    rw [show (45 : Int32) = nI 45 from rfl, e0]
    simp only [Option.bind_some]
    obtain ⟨l1, r1, e1, t1⟩ := v_putDigits (n := n) (c := ndg z.natAbs) (v := z.natAbs) t0 (by rw [List.length_append]; show _ + 1 + _ ≤ 32; omega) (by omega) hn
    rw [e1]
    exact ⟨l1, r1, rfl, by rw [← List.append_assoc]; exact t1⟩
theorem pt_L (j) (e : Nat) (he : e ≤ 18) : ∀ (t k n : Nat), k + t = e → t < n → F_Lt_powerOfTen_L4 (nI e) j n (lN (10 ^ k)) (nI k) = j (lN (10 ^ e)) := by
  intro t
  induction t with
  | zero =>
    intro k n hk hn
    obtain rfl : k = e := by omega
    obtain ⟨n, rfl⟩ : ∃ k, n = k + 1 := ⟨n - 1, by omega⟩
    exact if_pos (Int32.le_refl _)
  | succ t ih =>
    intro k n hk hn
    obtain ⟨n, rfl⟩ : ∃ k, n = k + 1 := ⟨n - 1, by omega⟩
    rw [← ih (k + 1) n (by omega) (by omega)]
    have stp : ∀ n, F_Lt_powerOfTen_L4 (nI e) j (n + 1) (lN (10 ^ k)) (nI k) = (if nI e ≤ nI k then j (lN (10 ^ k)) else if (18 : Int32) ≤ nI k then j (lN (10 ^ k)) else F_Lt_powerOfTen_L4 (nI e) j n (lN (10 ^ k) * lN 10) (nI k + 1)) := fun _ => rfl
    rw [stp, if_neg (nI_ge (by omega) (by omega)), if_neg (show ¬ (18 : Int32) ≤ nI k from nI_ge (b := 18) (by omega) (by decide)), lN_mul, nI_1, Nat.pow_succ]
theorem v_powerOfTen {e n : Nat} (he : e ≤ 18) (hn : 20 < n) : F_Lt_powerOfTen n (nI e) = some (lN (10 ^ e)) := pt_L (fun y => some y) e he e 0 n (by omega) (by omega)
theorem ndg_mul {d e : Nat} (h0 : 0 < d) (hd : d < 10 ^ 19) : ndg (d * 10 ^ e) = ndg d + e := by
  have a := ndg_lt 19 d hd
  have b := ndg_ge 19 d hd h0
  have p := ndg_pos d
  refine ndg_uniq (by omega) (Or.inr ?_) ?_
  · rw [show ndg d + e - 1 = (ndg d - 1) + e by omega, Nat.pow_add]
    exact Nat.mul_le_mul_right _ b
  · rw [Nat.pow_add]
    exact Nat.mul_lt_mul_of_pos_right a (Nat.pow_pos (by decide))
theorem ndg_div {d b : Nat} (h0 : 0 < d) (hd : d < 10 ^ 19) (hb : b < ndg d) : ndg (d / 10 ^ b) = ndg d - b := by
  have a := ndg_lt 19 d hd
  have g := ndg_ge 19 d hd h0
  refine ndg_uniq (by omega) (Or.inr ?_) ?_
  · refine (Nat.le_div_iff_mul_le (Nat.pow_pos (by decide))).mpr ?_
    rw [← Nat.pow_add, show ndg d - b - 1 + b = ndg d - 1 by omega]
    exact g
  · refine (Nat.div_lt_iff_lt_mul (Nat.pow_pos (by decide))).mpr ?_
    rw [← Nat.pow_add, show ndg d - b + b = ndg d by omega]
    exact a
/-- digits with a point, b of them behind it -/
def pp (d : Nat) (b : Int) : List Nat := if 0 < b then (if b < ndg d then dgs (ndg d - b.toNat) (d / 10 ^ b.toNat) ++ [46] ++ dgs b.toNat d else [48, 46] ++ dgs b.toNat d) else dgs (ndg d + (-b).toNat) (d * 10 ^ (-b).toNat) ++ [46, 48]
theorem wl_n (v : Nat) : wl (v : Int) = dgs (ndg v) v := by
  unfold wl
  rw [if_neg (by omega), Int.natAbs_natCast, List.nil_append]
theorem c46 : ∀ k, k < [46, 48].length → [(46 : Int32), 48].getD k 0 = nI ([46, 48].getD k 0) ∧ [46, 48].getD k 0 < 256 := by decide
theorem c48 : ∀ k, k < [48, 46].length → [(48 : Int32), 46].getD k 0 = nI ([48, 46].getD k 0) ∧ [48, 46].getD k 0 < 256 := by decide
theorem v_putPointed {n d : Nat} {b : Int} {len : Int32} {row : Nat → Int32} {L : List Nat} (h : tx len row L) (hL : L.length ≤ 1) (h0 : 0 < d) (hd : d < 10 ^ 17) (hb1 : -7 < b) (hb2 : b < 21) (hs : ndg d + (-b).toNat ≤ 18) (hn : 40 < n) : ∃ (len' : Int32) (row' : Nat → Int32), F_Lt_putPointed n len row (lN d) (nI (ndg d)) (iZ b) = some (len', row') ∧ tx len' row' (L ++ pp d b) := by
  have h17 : (10 : Nat) ^ 17 = 100000000000000000 := rfl
  have h19 : d < 10 ^ 19 := Nat.lt_of_lt_of_le hd (by decide)
  have a := ndg_lt 19 d h19
  have g := ndg_ge 19 d h19 h0
  have p := ndg_pos d
  have hnd : ndg d ≤ 17 := by
    have : 10 ^ (ndg d - 1) < 10 ^ 17 := Nat.lt_of_le_of_lt g hd
    have := (Nat.pow_lt_pow_iff_right (show 1 < 10 by decide)).mp this
    omega
  unfold F_Lt_putPointed pp
  simp only [lt_]
  have hc : (0 : Int32) < iZ b ↔ 0 < b := iZ_lt (a := 0) (by omega) (by omega) (by omega) (by omega)
  by_cases q : 0 < b
  · rw [if_pos (hc.mpr q), if_pos q]
    have hc2 : iZ b < nI (ndg d) ↔ b < ndg d := by rw [← iZ_nI]; exact iZ_lt (by omega) (by omega) (by omega) (by omega)
    have eb : iZ b = nI b.toNat := iZ_pos (by omega)
    by_cases q2 : b < ndg d
    · rw [if_pos (hc2.mpr q2), if_pos q2, eb, v_powerOfTen (by omega) (by omega)]
      simp only [Option.bind_some]
      have h10 : 0 < 10 ^ b.toNat := Nat.pow_pos (by decide)
      have hp10 := p10 b.toNat (by omega)
      have nz : ¬ lN (10 ^ b.toNat) = 0 := fun z => by have := (lN_z (by omega)).mp z; omega
      rw [gzf nz, pk_lRem (by omega) h10 (by omega), pk_lDiv (by omega) h10 (by omega)]
      have nd := ndg_div (b := b.toNat) h0 h19 (by omega)
      obtain ⟨l1, r1, e1, t1⟩ := v_putWhole (n := n) (z := ((d / 10 ^ b.toNat : Nat) : Int)) h (Int.le_trans (by decide) (Int.natCast_nonneg _)) (Int.le_trans (Int.ofNat_le.mpr (Nat.div_le_self d (10 ^ b.toNat))) (by omega)) (by rw [Int.natAbs_natCast, nd]; omega) hn
      rw [← lZ_lN, e1]
      simp only [Option.bind_some]
      rw [wl_n, nd] at t1
      obtain ⟨l2, r2, e2, t2⟩ := v_put (n := n) (c := 46) t1 (by rw [List.length_append, dgs_len]; omega) (by decide)
      rw [show (46 : Int32) = nI 46 from rfl, e2]
      simp only [Option.bind_some]
      rw [gzf nz]
      have hm := Nat.mod_lt d h10
      obtain ⟨l3, r3, e3, t3⟩ := v_putDigits (n := n) (c := b.toNat) (v := d % 10 ^ b.toNat) t2 (by rw [List.length_append, List.length_append, dgs_len]; show _ + 1 + _ ≤ 32; omega) (by omega) hn
      rw [← lZ_lN, lZ_neg, e3]
      refine ⟨l3, r3, rfl, ?_⟩
      rw [dgs_mod] at t3
      rw [List.append_assoc, List.append_assoc] at t3
      rw [List.append_assoc]
      exact t3
    · rw [if_neg (fun y => q2 (hc2.mp y)), if_neg q2]
      obtain ⟨l1, r1, e1, t1⟩ := v_puts (n := n) (bs := [48, 46]) (C := [48, 46]) c48 rfl h (by show _ + 2 ≤ 32; omega)
      have e1 : F_Lt_puts n [48, 46] 2 0 len row = some (l1, r1) := e1
      rw [e1]
      simp only [Option.bind_some]
      obtain ⟨l3, r3, e3, t3⟩ := v_putDigits (n := n) (c := b.toNat) (v := d) t1 (by rw [List.length_append]; show _ + 2 + _ ≤ 32; omega) (by omega) hn
      rw [← lZ_lN, lZ_neg, eb, e3]
      exact ⟨l3, r3, rfl, by rw [List.append_assoc] at t3; exact t3⟩
  · rw [if_neg (fun y => q (hc.mp y)), if_neg q, iZ_neg, iZ_pos (by omega), v_powerOfTen (by omega) (by omega)]
    simp only [Option.bind_some]
    have nd := ndg_mul (e := (-b).toNat) h0 h19
    have hle : d * 10 ^ (-b).toNat < 10 ^ 18 := by
      have h5 := ndg_lt 19 d h19
      have h6 : d * 10 ^ (-b).toNat < 10 ^ ndg d * 10 ^ (-b).toNat := Nat.mul_lt_mul_of_pos_right h5 (Nat.pow_pos (by decide))
      rw [← Nat.pow_add] at h6
      exact Nat.lt_of_lt_of_le h6 (Nat.pow_le_pow_right (by decide) hs)
    have h18 : (10 : Nat) ^ 18 = 1000000000000000000 := rfl
    obtain ⟨l1, r1, e1, t1⟩ := v_putWhole (n := n) (z := ((d * 10 ^ (-b).toNat : Nat) : Int)) h (by omega) (by omega) (by rw [Int.natAbs_natCast, nd]; omega) hn
    rw [lN_mul, ← lZ_lN, e1]
    simp only [Option.bind_some]
    rw [wl_n, nd] at t1
    obtain ⟨l3, r3, e3, t3⟩ := v_puts (n := n) (bs := [46, 48]) (C := [46, 48]) c46 rfl t1 (by rw [List.length_append, dgs_len]; show _ + 2 ≤ 32; omega)
    have e3 : F_Lt_puts n [46, 48] 2 0 l1 r1 = some (l3, r3) := e3
    rw [e3]
    exact ⟨l3, r3, rfl, by rw [List.append_assoc] at t3; exact t3⟩
/-- a decimal's letters -/
def dl (d : Nat) (K : Int) : List Nat := if -3 ≤ K + ndg d - 1 ∧ K + ndg d - 1 < 7 then pp d (-K) else pp d (ndg d - 1) ++ [69] ++ wl (K + ndg d - 1)
theorem ndg_3 {v : Nat} (h : v < 1000) : ndg v ≤ 3 := by
  have a := ndg_ge 3 v h
  by_cases z : 0 < v
  · have := (Nat.pow_lt_pow_iff_right (show 1 < 10 by decide)).mp (Nat.lt_of_le_of_lt (a z) (show v < 10 ^ 3 from h))
    omega
  · obtain rfl : v = 0 := by omega
    have : ndg 0 = 1 := by unfold ndg; rfl
    omega
theorem pp_len {d : Nat} {b : Int} (hb : -7 < b) (hb2 : b < 21) (hs : ndg d + (-b).toNat ≤ 18) : (pp d b).length ≤ 22 := by
  have p := ndg_pos d
  unfold pp
  split
  · split
    · rw [List.length_append, List.length_append, dgs_len, dgs_len]
      show _ + 1 + _ ≤ 22
      omega
    · rw [List.length_append, dgs_len]
      show 2 + _ ≤ 22
      omega
  · rw [List.length_append, dgs_len]
    show _ + 2 ≤ 22
    omega
theorem v_putDecimal {n d : Nat} {K : Int} {len : Int32} {row : Nat → Int32} {L : List Nat} (h : tx len row L) (hL : L.length ≤ 1) (h0 : 0 < d) (hd : d < 10 ^ 17) (hK1 : -400 < K) (hK2 : K < 400) (hn : 40 < n) : ∃ (len' : Int32) (row' : Nat → Int32), F_Lt_putDecimal n len row (lN d) (iZ K) = some (len', row') ∧ tx len' row' (L ++ dl d K) := by
  have h19 : d < 10 ^ 19 := Nat.lt_of_lt_of_le hd (by decide)
  have h17 : (10 : Nat) ^ 17 = 100000000000000000 := rfl
  have g := ndg_ge 19 d h19 h0
  have p := ndg_pos d
  have hnd : ndg d ≤ 17 := by
    have : 10 ^ (ndg d - 1) < 10 ^ 17 := Nat.lt_of_le_of_lt g hd
    have := (Nat.pow_lt_pow_iff_right (show 1 < 10 by decide)).mp this
    omega
  have hdc := v_digitCount (n := n) (z := (d : Int)) (by omega) (by omega) hn
  rw [lZ_lN, Int.natAbs_natCast] at hdc
  unfold F_Lt_putDecimal dl
  rw [hdc]
  simp only [Option.bind_some, lt_]
  have eX : iZ K + nI (ndg d) - 1 = iZ (K + ndg d - 1) := by rw [← iZ_nI, iZ_add, show (1 : Int32) = iZ 1 from rfl, iZ_sub]
  have eB : nI (ndg d) - (1 : Int32) = iZ ((ndg d : Int) - 1) := by rw [← iZ_nI, show (1 : Int32) = iZ 1 from rfl, iZ_sub]
  rw [eX, eB, iZ_l (by omega) (by omega), iZ_neg]
  have c1 : iZ (K + ndg d - 1) < (-3 : Int32) ↔ K + ndg d - 1 < -3 := by
    rw [show (-3 : Int32) = iZ (-3) by decide]; exact iZ_lt (by omega) (by omega) (by omega) (by omega)
  have c2 : (7 : Int32) ≤ iZ (K + ndg d - 1) ↔ 7 ≤ K + ndg d - 1 := iZ_le (a := 7) (by omega) (by omega) (by omega) (by omega)
  have far : ∃ (len' : Int32) (row' : Nat → Int32), ((F_Lt_putPointed n len row (lN d) (nI (ndg d)) (iZ ((ndg d : Int) - 1))).bind fun x7 => (F_Lt_put_i n x7.1 x7.2 (69 : Int32)).bind fun x8 => (F_Lt_putWhole n x8.1 x8.2 (lZ (K + ndg d - 1))).bind fun x9 => some (x9.1, x9.2)) = some (len', row') ∧ tx len' row' (L ++ (pp d (ndg d - 1) ++ [69] ++ wl (K + ndg d - 1))) := by
    obtain ⟨l1, r1, e1, t1⟩ := v_putPointed (n := n) (b := (ndg d : Int) - 1) h hL h0 hd (by omega) (by omega) (by omega) hn
    rw [e1]
    simp only [Option.bind_some]
    have hlen := pp_len (d := d) (b := (ndg d : Int) - 1) (by omega) (by omega) (by omega)
    have hlen2 : (pp d ((ndg d : Int) - 1)).length ≤ 19 := by
      unfold pp
      split
      · split
        · rw [List.length_append, List.length_append, dgs_len, dgs_len]
          show _ + 1 + _ ≤ 19
          omega
        · omega
      · rw [List.length_append, dgs_len]
        show _ + 2 ≤ 19
        omega
    obtain ⟨l2, r2, e2, t2⟩ := v_put (n := n) (c := 69) t1 (by rw [List.length_append]; omega) (by decide)
    rw [show (69 : Int32) = nI 69 from rfl, e2]
    simp only [Option.bind_some]
    have n3 := ndg_3 (v := (K + ndg d - 1).natAbs) (by omega)
    obtain ⟨l3, r3, e3, t3⟩ := v_putWhole (n := n) (z := K + ndg d - 1) t2 (by omega) (by omega) (by rw [List.length_append, List.length_append]; show _ + _ + 1 + 1 + _ ≤ 32; omega) hn
    rw [e3]
    refine ⟨l3, r3, rfl, ?_⟩
    simp only [List.append_assoc] at t3 ⊢
    exact t3
  by_cases q1 : K + ndg d - 1 < -3
  · rw [if_pos (c1.mpr q1), if_neg (fun y => by omega)]
    exact far
  · rw [if_neg (fun y => q1 (c1.mp y))]
    by_cases q2 : 7 ≤ K + ndg d - 1
    · rw [if_pos (c2.mpr q2), if_neg (fun y => by omega)]
      exact far
    · rw [if_neg (fun y => q2 (c2.mp y)), if_pos (by omega)]
      obtain ⟨l1, r1, e1, t1⟩ := v_putPointed (n := n) (b := -K) h hL h0 hd (by omega) (by omega) (by omega) hn
      rw [e1]
      exact ⟨l1, r1, rfl, t1⟩
