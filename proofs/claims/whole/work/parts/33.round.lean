/-! The class's rounding is mg. -/
def kS (K : rK) (f te w : Nat) (lp : Int) : Prop := K = (nI f, nI te, iZ lp, lN (2 ^ w), lN (te * 2 ^ f)) ∧ ((f = 23 ∧ te = 255 ∧ w = 31 ∧ lp = -149) ∨ (f = 52 ∧ te = 2047 ∧ w = 63 ∧ lp = -1074))
def KF : rK := (23, 255, -149, 2147483648, 2139095040)
def KD : rK := (52, 2047, -1074, -9223372036854775808, 9218868437227405312)
theorem kS_F : kS KF 23 255 31 (-149) := ⟨by decide, Or.inl ⟨rfl, rfl, rfl, rfl⟩⟩
theorem kS_D : kS KD 52 2047 63 (-1074) := ⟨by decide, Or.inr ⟨rfl, rfl, rfl, rfl⟩⟩
theorem lN_shl1 {d : Nat} (h : d < 64) : (1 : Int64) <<< ((nI d).toInt64 &&& 63) = lN (2 ^ d) := by
  have := wb_shl 1 (k := d) h
  rw [Nat.one_mul] at this
  exact this
theorem lN_msk {d : Nat} (h : d < 64) : ((1 : Int64) <<< ((nI d).toInt64 &&& 63)) - (1 : Int64) = lN (2 ^ d - 1) := by
  rw [lN_shl1 h]
  exact lN_sub (a := 2 ^ d) (b := 1) (p2_pos d)
theorem v_nearest {v d : Nat} (hv : v < 2 ^ 63) (h1 : 1 ≤ d) (h2 : d ≤ 63) : F_Real_nearest (lN v) (nI d) = lN (rne v d) := by
  have hp := p2_pos d
  have hd1 : 2 ^ (d - 1) ≤ 2 ^ 62 := p2_le (by omega)
  have hm := Nat.mod_le v (2 ^ d)
  have hq := Nat.div_le_self v (2 ^ d)
  have q1 : ((lN v).toUInt64 >>> ((nI d).toInt64.toUInt64 &&& Int64.toUInt64 63)).toInt64 = lN (v / 2 ^ d) := wb_shr (by omega) (by omega)
  have q3 : (1 : Int64) <<< ((nI d - (1 : Int32)).toInt64 &&& 63) = lN (2 ^ (d - 1)) := by
    have e : nI d - (1 : Int32) = nI (d - 1) := pk_sub (a := d) (b := 1) h1
    rw [e]
    exact lN_shl1 (by omega)
  have q5 : lN v &&& lN (2 ^ d - 1) = lN (v % 2 ^ d) := wb_mask (by omega) (by omega)
  have q6 : lN (v / 2 ^ d) &&& (1 : Int64) = lN (v / 2 ^ d % 2) := wb_a1 (by omega)
  have c1 : lN (2 ^ (d - 1)) < lN (v % 2 ^ d) ↔ 2 ^ (d - 1) < v % 2 ^ d := pk_lLT (by omega) (by omega)
  have c2 : lN (v % 2 ^ d) = lN (2 ^ (d - 1)) ↔ v % 2 ^ d = 2 ^ (d - 1) := pk_lEQ (by omega) (by omega)
  have c3 : lN (v / 2 ^ d % 2) = (1 : Int64) ↔ v / 2 ^ d % 2 = 1 := pk_lEQ (b := 1) (by omega) (by omega)
  unfold F_Real_nearest
  simp only [lt_]
  rw [q1, lN_msk (by omega), q3, q5, q6]
  simp only [c1, c2, c3]
  unfold rne
  by_cases a : 2 ^ (d - 1) < v % 2 ^ d
  · rw [if_pos a, if_neg (by decide), if_pos (Or.inl a)]
    exact lN_1 _
  · rw [if_neg a]
    by_cases b : v % 2 ^ d = 2 ^ (d - 1)
    · rw [if_neg (not_not_intro b)]
      by_cases c : v / 2 ^ d % 2 = 1
      · rw [if_neg (not_not_intro c), if_neg (by decide), if_pos (Or.inr ⟨b, c⟩)]
        exact lN_1 _
      · rw [if_pos c, if_pos rfl, if_neg]
        rintro (h | h)
        · exact a h
        · exact c h.2
    · rw [if_pos b, if_pos rfl, if_neg]
      rintro (h | h)
      · exact a h
      · exact b h.1
theorem rne_le {N s B : Nat} (h : N < B * 2 ^ s) : rne N s ≤ B := by
  have h1 : N / 2 ^ s < B := Nat.div_lt_of_lt_mul (by rw [Nat.mul_comm]; exact h)
  unfold rne
  split <;> omega
theorem rne_ge {N s B : Nat} (h : B * 2 ^ s ≤ N) : B ≤ rne N s := by
  have h1 : B ≤ N / 2 ^ s := (Nat.le_div_iff_mul_le (p2_pos s)).mpr h
  unfold rne
  split <;> omega
theorem rne_0 {N s : Nat} (hs : 0 < s) (h : N < 2 ^ (s - 1)) : rne N s = 0 := by
  have e := p2_p hs
  have h1 : N / 2 ^ s = 0 := Nat.div_eq_of_lt (by omega)
  have h2 : N % 2 ^ s = N := Nat.mod_eq_of_lt (by omega)
  unfold rne
  rw [h1, h2, if_neg]
  omega
theorem v_rounded {K : rK} {f te w : Nat} {lp : Int} (hK : kS K f te w lp) {n : Nat} (hn : 6 < n) (sg : Int32) {pw : Int} (p1 : -100000 ≤ pw) (p2 : pw ≤ 100000) {sig : Nat} (hs : sig < 2 ^ 63) :
    F_Real_rounded n K sg (iZ pw) (lN sig) = some (F_Real_signed K sg (lN (mg f (te * 2 ^ f) lp sig pw))) := by
  obtain ⟨rfl, hc⟩ := hK
  have hf : 23 ≤ f ∧ f ≤ 52 ∧ 255 ≤ te ∧ te ≤ 2047 ∧ -1074 ≤ lp ∧ lp ≤ -149 := by omega
  obtain ⟨f1, f2, t1, t2, l1, l2⟩ := hf
  unfold F_Real_rounded
  by_cases h0 : sig = 0
  · subst h0
    rw [if_neg (by decide)]
    rfl
  have hz : ¬ lN sig = 0 := fun z => h0 ((lN_z (by omega)).mp z)
  rw [if_pos hz, v_leadingZeros h0 (by omega) hn]
  have hb1 := bl_pos h0
  have hb2 := bl_le hs
  have hblt := bl_lt sig
  generalize hb : bl sig = b at *
  simp only [Option.bind_some, lt_]
  have q2 : nI (64 - b) - (1 : Int32) = nI (63 - b) := by
    have := pk_sub (a := 64 - b) (b := 1) (by omega)
    rw [show 64 - b - 1 = 63 - b by omega] at this
    exact this
  have q4 : (62 : Int32) - nI f = nI (62 - f) := pk_sub (a := 62) (b := f) (by omega)
  rw [q2, q4, wb_shl sig (by omega)]
  have hN : bl (sig * 2 ^ (63 - b)) = 63 := by rw [bl_mul h0, hb]; omega
  have hN0 : sig * 2 ^ (63 - b) ≠ 0 := by
    intro z
    rw [z, bl_0] at hN
    omega
  have hN1 := bl_lt (sig * 2 ^ (63 - b))
  have hN2 := bl_ge hN0
  rw [hN] at hN1 hN2
  have hm := mg_scale f (te * 2 ^ f) lp sig (63 - b) pw
  rw [← hm]
  generalize hNN : sig * 2 ^ (63 - b) = N at *
  unfold mg
  rw [if_neg hN0]
  have hS : mgS f lp N (pw - ((63 - b : Nat) : Int)) = max (62 - (f : Int)) (lp - pw + (63 - b : Nat)) := by
    unfold mgS
    rw [hN]
    omega
  rw [hS]
  generalize hup : 63 - b = up at *
  have hupl : up ≤ 62 := by omega
  have e5 : iZ pw - nI up + nI (62 - f) - iZ lp + (1 : Int32) = iZ (pw - up + (62 - f) - lp + 1) := by
    rw [← iZ_nI, ← iZ_nI, show (1 : Int32) = iZ 1 from rfl, iZ_sub, iZ_add, iZ_sub, iZ_add]
    congr 1
    omega
  rw [e5]
  have c5 : iZ (pw - up + (62 - f) - lp + 1) < nI te ↔ pw - up + (62 - f) - lp + 1 < te := by
    rw [← iZ_nI]
    exact iZ_lt (by omega) (by omega) (by omega) (by omega)
  have hpf := p2_pos f
  by_cases hE : pw - up + (62 - f) - lp + 1 < te
  · rw [if_pos (c5.mpr hE)]
    generalize hSS : max (62 - (f : Int)) (lp - pw + up) = S at *
    have e6 : (if (1 : Int32) ≤ iZ (pw - up + (62 - f) - lp + 1) then nI (62 - f) else nI (62 - f) + (1 : Int32) - iZ (pw - up + (62 - f) - lp + 1)) = iZ S := by
      have c6 : (1 : Int32) ≤ iZ (pw - up + (62 - f) - lp + 1) ↔ 1 ≤ pw - up + (62 - f) - lp + 1 := iZ_le (a := 1) (by omega) (by omega) (by omega) (by omega)
      by_cases h : 1 ≤ pw - up + (62 - f) - lp + 1
      · rw [if_pos (c6.mpr h), ← iZ_nI]
        congr 1
        omega
      · rw [if_neg (fun z => h (c6.mp z)), ← iZ_nI, show (1 : Int32) = iZ 1 from rfl, iZ_add, iZ_sub]
        congr 1
        omega
    rw [e6]
    have c7 : iZ S ≤ (63 : Int32) ↔ S ≤ 63 := iZ_le (b := 63) (by omega) (by omega) (by omega) (by omega)
    by_cases hS63 : S ≤ 63
    · rw [if_pos (c7.mpr hS63)]
      have e8 : (if iZ (pw - up + (62 - f) - lp + 1) < (1 : Int32) then (1 : Int32) else iZ (pw - up + (62 - f) - lp + 1)) - (1 : Int32) = nI (pw - up + S - lp).toNat := by
        have c8 : iZ (pw - up + (62 - f) - lp + 1) < (1 : Int32) ↔ pw - up + (62 - f) - lp + 1 < 1 := iZ_lt (b := 1) (by omega) (by omega) (by omega) (by omega)
        by_cases h : pw - up + (62 - f) - lp + 1 < 1
        · rw [if_pos (c8.mpr h), show (pw - up + S - lp).toNat = 0 by omega]
          rfl
        · rw [if_neg (fun z => h (c8.mp z)), show (1 : Int32) = iZ 1 from rfl, iZ_sub, ← iZ_nI]
          congr 1
          omega
      rw [e8, nI_l (by omega), wb_shl _ (by omega)]
      have e9 : iZ S = nI S.toNat := by
        rw [← iZ_nI]
        congr 1
        omega
      have hr1 : rne N S.toNat ≤ 2 ^ (f + 1) := by
        apply rne_le
        have : 2 ^ 63 ≤ 2 ^ (f + 1 + S.toNat) := p2_le (by omega)
        rw [Nat.pow_add] at this
        omega
      rw [e9, v_nearest hN1 (by omega) (by omega), lN_add]
      have hQ : mgQ N S = rne N S.toNat := by
        unfold mgQ
        rw [if_neg (by omega)]
      rw [hQ]
      have hle : (pw - up + S - lp).toNat * 2 ^ f ≤ (te - 2) * 2 ^ f := Nat.mul_le_mul_right _ (by omega)
      have hte : te * 2 ^ f = (te - 2) * 2 ^ f + 2 * 2 ^ f := by rw [← Nat.add_mul]; congr 1; omega
      rw [p2_s] at hr1
      have hmin : min (te * 2 ^ f) (rne N S.toNat + (pw - up + S - lp).toNat * 2 ^ f) = (pw - up + S - lp).toNat * 2 ^ f + rne N S.toNat := by
        rw [Nat.min_eq_right (by omega)]
        omega
      rw [hmin]
    · rw [if_neg (fun z => hS63 (c7.mp z))]
      have hQ : mgQ N S = 0 := by
        unfold mgQ
        rw [if_neg (by omega)]
        apply rne_0 (by omega)
        have : 2 ^ 63 ≤ 2 ^ (S.toNat - 1) := p2_le (by omega)
        omega
      have h2 : (pw - up + S - lp).toNat = 0 := by omega
      rw [hQ, h2]
      simp
      rfl
  · rw [if_neg (fun z => hE (c5.mp z))]
    generalize hSS : max (62 - (f : Int)) (lp - pw + up) = S at *
    have hS2 : S = 62 - f := by omega
    have hQ : mgQ N S = rne N S.toNat := by
      unfold mgQ
      rw [if_neg (by omega)]
    have hr1 : 2 ^ f ≤ rne N S.toNat := by
      apply rne_ge
      rw [← Nat.pow_add, show f + S.toNat = 62 by omega]
      exact hN2
    have hle : (te - 1) * 2 ^ f ≤ (pw - up + S - lp).toNat * 2 ^ f := Nat.mul_le_mul_right _ (by omega)
    have hte : te * 2 ^ f = (te - 1) * 2 ^ f + 2 ^ f := by
      have : te = te - 1 + 1 := by omega
      rw [this, Nat.add_mul, Nat.one_mul]
      rfl
    rw [hQ, Nat.min_eq_left (by omega)]
