/-! The reference's product. -/
theorem shr27 {x : Nat} (h : x < 2 ^ 62) : lN x >>> (((27 : Int32)).toInt64 &&& 63) = lN (x / 2 ^ 27) := pf_shr (by decide) h
theorem partsB {B m P Q R H : Nat} (hm : m = H * (B * B) + (P + Q) * B + R) : m = (H + (Q + P + R / B) / B) * (B * B) + ((Q + P + R / B) % B * B + R % B) := by
  have h1 := Nat.div_add_mod R B
  generalize R / B = a at *
  generalize R % B = b at *
  have h2 := Nat.div_add_mod (Q + P + a) B
  generalize (Q + P + a) / B = c at *
  generalize (Q + P + a) % B = d at *
  have h3 : (H + c) * (B * B) = H * (B * B) + B * (B * c) := by
    rw [Nat.add_mul, Nat.mul_comm c, Nat.mul_assoc B]
  have h4 : (P + Q) * B + B * a = B * (Q + P + a) := by
    rw [Nat.mul_comm, ← Nat.mul_add]
    congr 1
    omega
  have h5 : B * (Q + P + a) = B * (B * c) + d * B := by
    rw [← h2, Nat.mul_add, Nat.mul_comm d]
  rw [h3, hm, ← h1]
  omega
theorem parts27 {m P Q R H : Nat} (hm : m = H * (2 ^ 27 * 2 ^ 27) + (P + Q) * 2 ^ 27 + R) : m = (H + (Q + P + R / 2 ^ 27) / 2 ^ 27) * 2 ^ 54 + ((Q + P + R / 2 ^ 27) % 2 ^ 27 * 2 ^ 27 + R % 2 ^ 27) := by
  have h := partsB hm
  rw [show 2 ^ 54 = 2 ^ 27 * 2 ^ 27 from rfl]
  exact h
set_option maxHeartbeats 4000000 in
theorem v_times_fin {sgl : Int32} {f te w : Nat} {lp : Int} (hM : mSg sgl f te w lp) {n : Nat} (hn : 64 < n) {m1 m2 s1 s2 : Nat} {p1 p2 : Int} (h1 : m1 < 2 ^ (f + 1)) (h2 : m2 < 2 ^ (f + 1)) (r1 : -3000 ≤ p1) (r2 : p1 ≤ 3000) (r3 : -3000 ≤ p2) (r4 : p2 ≤ 3000) (hs1 : s1 ≤ 1) (hs2 : s2 ≤ 1) :
    F_Md_times n (lN m1) (lN m2) (iZ p1) (iZ p2) (nI s1) (nI s2) 0 0 0 0 sgl = some (lN (prodR f te w lp s1 m1 p1 s2 m2 p2)) := by
  have hF := mSg_fmt hM
  have hb := fmt_b hF
  have hinf := fmt_inf hF
  have hpf := p2_pos f
  have hp53 : 2 ^ (f + 1) ≤ 2 ^ 53 := p2_le (by omega)
  have c1 : lN m1 = (0 : Int64) ↔ m1 = 0 := lN_z (by omega)
  have c2 : lN m2 = (0 : Int64) ↔ m2 = 0 := lN_z (by omega)
  have z0 : ((0 : Int32) = 0) = True := by decide
  have cS : nI s1 = nI s2 ↔ s1 = s2 := nI_eq (by omega) (by omega)
  have eS : (if nI s1 = nI s2 then (0 : Int32) else (1 : Int32)) = nI ((s1 + s2) % 2) := by
    by_cases h : s1 = s2
    · rw [if_pos (cS.mpr h), show (s1 + s2) % 2 = 0 by omega]; rfl
    · rw [if_neg (fun z => h (cS.mp z)), show (s1 + s2) % 2 = 1 by omega]; rfl
  unfold F_Md_times
  simp only [lt_, z0, not_true_eq_false, if_true, if_false]
  rw [eS]
  have hsx : (s1 + s2) % 2 ≤ 1 := by omega
  unfold prodR
  generalize (s1 + s2) % 2 = sx at *
  by_cases hm1 : m1 = 0
  · have k1 : (lN m1 = (0 : Int64)) = True := eq_true (c1.mpr hm1)
    simp only [k1, if_true]
    rw [hm1, Nat.zero_mul, mg_0, Nat.zero_add, v_sign0 hM hsx]
  · have k1 : (lN m1 = (0 : Int64)) = False := eq_false (fun z => hm1 (c1.mp z))
    by_cases hm2 : m2 = 0
    · have k2 : (lN m2 = (0 : Int64)) = True := eq_true (c2.mpr hm2)
      simp only [k1, k2, not_true_eq_false, if_true, if_false]
      rw [hm2, Nat.mul_zero, mg_0, Nat.zero_add, v_sign0 hM hsx]
    · have k2 : (lN m2 = (0 : Int64)) = False := eq_false (fun z => hm2 (c2.mp z))
      simp only [k1, k2, not_false_eq_true, if_true, if_false]
      have hmul := mul_parts (2 ^ 27) m1 m2
      have a1 : m1 / 2 ^ 27 < 2 ^ 26 := by omega
      have a2 : m1 % 2 ^ 27 < 2 ^ 27 := by omega
      have b1 : m2 / 2 ^ 27 < 2 ^ 26 := by omega
      have b2 : m2 % 2 ^ 27 < 2 ^ 27 := by omega
      have m27 : ∀ x : Nat, x < 2 ^ 64 → lN x &&& (134217727 : Int64) = lN (x % 2 ^ 27) := fun x hx => wb_mask (k := 27) hx (by decide)
      have l27 : ∀ x : Nat, lN x <<< (((27 : Int32)).toInt64 &&& 63) = lN (x * 2 ^ 27) := fun x => wb_shl x (k := 27) (by decide)
      rw [m27 m1 (by omega), m27 m2 (by omega), shr27 (by omega), shr27 (by omega)]
      generalize m1 / 2 ^ 27 = ah at *
      generalize m1 % 2 ^ 27 = al at *
      generalize m2 / 2 ^ 27 = bh at *
      generalize m2 % 2 ^ 27 = bl' at *
      have q1 : al * bl' ≤ (2 ^ 27 - 1) * (2 ^ 27 - 1) := Nat.mul_le_mul (by omega) (by omega)
      have q2 : al * bh ≤ (2 ^ 27 - 1) * (2 ^ 26 - 1) := Nat.mul_le_mul (by omega) (by omega)
      have q3 : ah * bl' ≤ (2 ^ 26 - 1) * (2 ^ 27 - 1) := Nat.mul_le_mul (by omega) (by omega)
      have q4 : ah * bh ≤ (2 ^ 26 - 1) * (2 ^ 26 - 1) := Nat.mul_le_mul (by omega) (by omega)
      rw [lN_mul, lN_mul, lN_mul, lN_mul]
      generalize al * bl' = R at *
      generalize ah * bl' = P at *
      generalize al * bh = Q at *
      generalize ah * bh = H at *
      rw [shr27 (by omega : R < 2 ^ 62), lN_add, lN_add, shr27 (by omega), lN_add, m27 _ (by omega), m27 _ (by omega), l27]
      have hor := g_or (k := 27) (p := 2 ^ 27) (a := R % 2 ^ 27) (b := (Q + P + R / 2 ^ 27) % 2 ^ 27) rfl (by omega) (by omega)
      rw [hor]
      have hN : m1 * m2 = (H + (Q + P + R / 2 ^ 27) / 2 ^ 27) * 2 ^ 54 + ((Q + P + R / 2 ^ 27) % 2 ^ 27 * 2 ^ 27 + R % 2 ^ 27) := parts27 hmul
      have hhi : H + (Q + P + R / 2 ^ 27) / 2 ^ 27 < 2 ^ 52 := by
        have : m1 * m2 ≤ (2 ^ 53 - 1) * (2 ^ 53 - 1) := Nat.mul_le_mul (by omega) (by omega)
        omega
      have htl : (Q + P + R / 2 ^ 27) % 2 ^ 27 * 2 ^ 27 + R % 2 ^ 27 < 2 ^ 54 := by omega
      obtain ⟨hi, dhi⟩ : ∃ x, H + (Q + P + R / 2 ^ 27) / 2 ^ 27 = x := ⟨_, rfl⟩
      obtain ⟨tl, dtl⟩ : ∃ x, (Q + P + R / 2 ^ 27) % 2 ^ 27 * 2 ^ 27 + R % 2 ^ 27 = x := ⟨_, rfl⟩
      rw [dhi, dtl] at hN
      rw [dhi] at hhi
      rw [dtl] at htl
      rw [dhi, dtl]
      clear dhi dtl hor hmul
      rw [iZ_add, hN]
      have hround : ∀ (m l : Nat) (p : Int), m < 2 ^ 63 → l ≤ 1 → (l = 1 → f + 2 ≤ bl m) → -10000 ≤ p → p ≤ 10000 → (F_Md_round n (nI sx) (lN m) (iZ p) (nI l) sgl).bind (fun x => some x) = some (lN (mg f (te * 2 ^ f) lp (2 * m + l) (p - 1) + sx * 2 ^ w)) := by
        intro m l p hm hl hlb t1 t2
        rw [v_round hM hn (nI sx) (by omega) (by omega) hm hl hlb]
        simp only [Option.bind_some]
        have hle := mg_le f (te * 2 ^ f) lp (2 * m + l) (p - 1)
        rw [v_sgnM hM (by omega) hsx]
      have hlb := bl_le hhi
      rw [v_length (by omega) hn]
      simp only [Option.bind_some]
      have c10 : nI (bl hi) = 0 ↔ bl hi = 0 := nI_z (by omega)
      by_cases h0 : hi = 0
      · have hb0 : bl hi = 0 := by rw [h0]; rfl
        rw [if_neg (not_not_intro (c10.mpr hb0)), show (0 : Int32) = nI 0 from rfl, hround tl 0 (p1 + p2) (by omega) (by omega) (fun z => by omega) (by omega) (by omega), h0, Nat.zero_mul, Nat.zero_add, Nat.add_zero, mg_two]
      · have hb0 := bl_pos h0
        rw [if_pos (show ¬ nI (bl hi) = 0 from fun z => by have := c10.mp z; omega)]
        have e11 : (62 : Int32) - nI (bl hi) = nI (62 - bl hi) := pk_sub (a := 62) (b := bl hi) (by omega)
        rw [e11]
        have c54 : nI (62 - bl hi) < (54 : Int32) ↔ 62 - bl hi < 54 := nI_ltI (b := 54) (by omega) (by decide)
        have hlt := bl_lt hi
        by_cases hup : 62 - bl hi < 54
        · rw [if_pos (c54.mpr hup)]
          have e12 : (54 : Int32) - nI (62 - bl hi) = nI (54 - (62 - bl hi)) := pk_sub (a := 54) (b := 62 - bl hi) (by omega)
          rw [e12, lN_msk (by omega), wb_mask (by omega) (by omega), wb_shl hi (by omega), wb_c (54 - (62 - bl hi)) (by omega)]
          have eshr : lN tl >>> lN (54 - (62 - bl hi)) = lN (tl / 2 ^ (54 - (62 - bl hi))) := pf_shr (by rw [lN_bv, wb_sm _ (by omega), BitVec.toNat_ofNat]; omega) (by omega)
          rw [eshr]
          generalize hu : 62 - bl hi = up at *
          generalize hdn : 54 - up = dn at *
          have e54 : 2 ^ 54 = 2 ^ up * 2 ^ dn := by rw [← Nat.pow_add]; congr 1; omega
          have hq : tl / 2 ^ dn < 2 ^ up := Nat.div_lt_of_lt_mul (by rw [Nat.mul_comm, ← e54]; exact htl)
          have hhu : hi * 2 ^ up < 2 ^ 62 := by
            have h3 : hi * 2 ^ up < 2 ^ bl hi * 2 ^ up := Nat.mul_lt_mul_of_pos_right hlt (p2_pos up)
            rw [← Nat.pow_add, show bl hi + up = 62 by omega] at h3
            exact h3
          have hge : 2 ^ 61 ≤ hi * 2 ^ up := by
            have h3 : 2 ^ (bl hi - 1) * 2 ^ up ≤ hi * 2 ^ up := Nat.mul_le_mul_right _ (bl_ge h0)
            rw [← Nat.pow_add, show bl hi - 1 + up = 61 by omega] at h3
            exact h3
          have hup62 : 2 ^ up ≤ 2 ^ 53 := p2_le (by omega)
          have hdm := Nat.div_add_mod tl (2 ^ dn)
          have hrl := Nat.mod_lt tl (p2_pos dn)
          have hm := Nat.mod_le tl (2 ^ dn)
          generalize tl / 2 ^ dn = qq at *
          generalize tl % 2 ^ dn = rr at *
          have hor2 := g_or (k := up) (p := 2 ^ up) (a := qq) (b := hi) rfl hq (by omega)
          rw [hor2]
          have c13 : lN (rr) = (0 : Int64) ↔ rr = 0 := lN_z (by omega)
          have e13 : (if lN (rr) = (0 : Int64) then (0 : Int32) else (1 : Int32)) = nI (if rr = 0 then 0 else 1) := by
            by_cases z : rr = 0
            · rw [if_pos (c13.mpr z), if_pos z]; rfl
            · rw [if_neg (fun q => z (c13.mp q)), if_neg z]; rfl
          have ep : iZ (p1 + p2) + nI dn = iZ (p1 + p2 + dn) := by rw [← iZ_nI, iZ_add]
          have hbig := bl_gt (n := hi * 2 ^ up + qq) (b := 61) (by omega)
          rw [e13, ep, hround _ _ _ (by omega) (by split <;> omega) (fun _ => by omega) (by omega) (by omega)]
          have h55 : 2 ^ (f + 2) ≤ 2 ^ 54 := p2_le (by omega)
          have hml := mg_lost (f := f) (inf := te * 2 ^ f) (lp := lp) (H := hi * 2 ^ up + qq) (k := dn) (r := rr) hrl (fun _ => by omega) (p1 + p2)
          have eN : (hi * 2 ^ up + qq) * 2 ^ dn + rr = hi * 2 ^ 54 + tl := by
            rw [Nat.add_mul, Nat.mul_assoc, ← e54, Nat.mul_comm qq]
            omega
          rw [eN] at hml
          rw [hml]
        · rw [if_neg (fun z => hup (c54.mp z))]
          have l54 : lN hi <<< (((54 : Int32)).toInt64 &&& 63) = lN (hi * 2 ^ 54) := wb_shl hi (k := 54) (by decide)
          have h8 : hi < 2 ^ 8 := Nat.lt_of_lt_of_le hlt (p2_le (by omega))
          have hor2 := g_or (k := 54) (p := 2 ^ 54) (a := tl) (b := hi) rfl htl (by omega)
          rw [l54, hor2, show (0 : Int32) = nI 0 from rfl, hround _ 0 (p1 + p2) (by omega) (by omega) (fun z => by omega) (by omega) (by omega), Nat.add_zero, mg_two]
