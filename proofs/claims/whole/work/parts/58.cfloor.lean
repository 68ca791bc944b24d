/-! Floors (class). -/
theorem if01 (P : Prop) [Decidable P] : (if P then (1 : Int32) else 0) = 0 ↔ ¬ P := by
  by_cases h : P
  · rw [if_pos h]; exact iff_of_false (by decide) (fun z => z h)
  · rw [if_neg h]; exact iff_of_true rfl h
theorem or_0 (x : Int64) : (0 : Int64) ||| x = x := by simp
theorem bits_L (j) (f : Nat → Int64) (u s : Nat) (hu : u ≤ 36) (hs : s < 2000) (hf : cok f u) (hV : cV f u / 2 ^ s < 2 ^ 63) (L : Prop) [Decidable L] : ∀ (t k n : Nat), k + t = u → t < n →
    F_BW_bitsFrom_L5 (nI u) f (nI s) j n (lN (cV f k / 2 ^ s)) (nI k) (if L ∨ cV f k % 2 ^ s ≠ 0 then 1 else 0) = j (lN (cV f u / 2 ^ s)) (if L ∨ cV f u % 2 ^ s ≠ 0 then 1 else 0) := by
  intro t
  induction t with
  | zero =>
    intro k n hk hn
    obtain rfl : k = u := by omega
    obtain ⟨n, rfl⟩ : ∃ k, n = k + 1 := ⟨n - 1, by omega⟩
    exact if_pos (Int32.le_refl _)
  | succ t ih =>
    intro k n hk hn
    obtain ⟨n, rfl⟩ : ∃ k, n = k + 1 := ⟨n - 1, by omega⟩
    obtain ⟨d, hd, ed⟩ := hf k (by omega)
    have hVk := cV_lt (cok_le hf (show k ≤ u by omega))
    have hs1 : cV f (k + 1) = cV f k + d * 2 ^ (32 * k) := by rw [cV_s, ed, lN_cl hd, p32_2]
    rw [p32_2] at hVk
    have hmono : ∀ a b, a ≤ b → cV f a ≤ cV f b := by
      intro a b hab
      induction b with
      | zero => obtain rfl : a = 0 := by omega
                exact Nat.le_refl _
      | succ b ihb =>
        by_cases z : a = b + 1
        · subst z; exact Nat.le_refl _
        · have := ihb (by omega)
          rw [cV_s]
          omega
    have hVs : cV f (k + 1) / 2 ^ s < 2 ^ 63 := Nat.lt_of_le_of_lt (Nat.div_le_div_right (hmono (k + 1) u (by omega))) hV
    have e0 : nI k * (32 : Int32) - nI s = iZ ((32 * k : Nat) - (s : Int)) := by
      rw [show (32 : Int32) = nI 32 from rfl, pk_mul, ← iZ_nI, ← iZ_nI, iZ_sub]
      congr 1
      omega
    rw [← ih (k + 1) n (by omega) (by omega)]
    have stp : ∀ (n : Nat) (y3 : Int64) (lost_5 : Int32), F_BW_bitsFrom_L5 (nI u) f (nI s) j (n + 1) y3 (nI k) lost_5 = (if (nI u) ≤ (nI k) then (j y3 lost_5) else (lt_ (((nI k) * (32 : Int32)) - (nI s)) fun x6 => lt_ (fun (y7 : Int64) (lost_8 : Int32) => lt_ ((nI k) + Int32.ofInt 1) fun x9 => F_BW_bitsFrom_L5 (nI u) f (nI s) j n y7 x9 lost_8) fun j132 => if x6 < 0 then (if x6 ≤ (-32 : Int32) then (lt_ (fun (y10 : Int32) (lost_11 : Int32) => gz_ (¬ (y10 = 0 ∨ y10 = 1)) <| j132 y3 y10) fun j129 => lt_ (fun (lost_12 : Int32) => j129 (1 : Int32) lost_12) fun j124 => if ¬ lost_5 = 0 then (j124 lost_5) else (gz_ ((nI k) < 0 ∨ 36 ≤ ((nI k)).toNatClampNeg) <| if (f ((nI k)).toNatClampNeg) = (0 : Int64) then (j129 (0 : Int32) lost_5) else (j124 lost_5))) else (gz_ ((nI k) < 0 ∨ 36 ≤ ((nI k)).toNatClampNeg) <| lt_ (y3 ||| (((f ((nI k)).toNatClampNeg).toUInt64 >>> ((-x6).toInt64.toUInt64 &&& Int64.toUInt64 63)).toInt64)) fun x13 => lt_ (fun (y14 : Int32) (lost_15 : Int32) => gz_ (¬ (y14 = 0 ∨ y14 = 1)) <| j132 x13 y14) fun j98 => lt_ (fun (lost_16 : Int32) => j98 (1 : Int32) lost_16) fun j93 => if ¬ lost_5 = 0 then (j93 lost_5) else (gz_ ((nI k) < 0 ∨ 36 ≤ ((nI k)).toNatClampNeg) <| if ((f ((nI k)).toNatClampNeg) &&& (((1 : Int64) <<< ((-x6).toInt64 &&& 63)) - (1 : Int64))) = (0 : Int64) then (j98 (0 : Int32) lost_5) else (j93 lost_5)))) else (gz_ ((nI k) < 0 ∨ 36 ≤ ((nI k)).toNatClampNeg) <| lt_ (y3 ||| ((f ((nI k)).toNatClampNeg) <<< ((x6).toInt64 &&& 63))) fun x17 => j132 x17 lost_5))) := fun _ _ _ => rfl
    rw [stp, if_neg (nI_ge (by omega) (by omega)), e0]
    simp only [lt_]
    have hin : ¬ (nI k < 0 ∨ 36 ≤ (nI k).toNatClampNeg) := nI_in (by omega) (by decide)
    have hgz : ∀ g : Option (Int64 × Int32), gz_ (nI k < 0 ∨ 36 ≤ (nI k).toNatClampNeg) g = g := fun g => gzf hin
    simp only [hgz]
    rw [nI_clamp (by omega), ed, show nI k + Int32.ofInt 1 = nI (k + 1) from nI_1 k]
    by_cases h1 : ((32 * k : Nat) : Int) - (s : Int) < 0
    · rw [if_pos (show iZ (((32 * k : Nat) : Int) - s) < 0 from (iZ_lt (b := 0) (by omega) (by omega) (by omega) (by omega)).mpr h1)]
      have hz0 : cV f k < 2 ^ s := Nat.lt_of_lt_of_le hVk (p2_le (by omega))
      have hd0 : cV f k / 2 ^ s = 0 := Nat.div_eq_of_lt hz0
      have hm0 : cV f k % 2 ^ s = cV f k := Nat.mod_eq_of_lt hz0
      rw [hd0, hm0]
      by_cases h2 : ((32 * k : Nat) : Int) - (s : Int) ≤ -32
      · rw [if_pos (show iZ (((32 * k : Nat) : Int) - s) ≤ (-32 : Int32) by rw [show (-32 : Int32) = iZ (-32) by decide]; exact (iZ_le (by omega) (by omega) (by omega) (by omega)).mpr h2)]
        have hz1 : cV f (k + 1) < 2 ^ s := by
          have := cV_lt (cok_le hf (show k + 1 ≤ u by omega))
          rw [p32_2] at this
          exact Nat.lt_of_lt_of_le this (p2_le (by omega))
        rw [Nat.div_eq_of_lt hz1, Nat.mod_eq_of_lt hz1, hs1]
        have hzd : lN d = 0 ↔ d = 0 := lN_z (by omega)
        have hor : ∀ x : Int32, (x = 0 ∨ x = 1) → ¬ ¬ (x = 0 ∨ x = 1) := fun x h z => z h
        by_cases hP : L ∨ cV f k ≠ 0
        · rw [if_pos hP, if_pos (by decide), gzf (by decide), if_pos (by rcases hP with h | h; exact Or.inl h; exact Or.inr (by omega))]
        · rw [if_neg hP, if_neg (by decide)]
          have hc0 : cV f k = 0 := by by_cases z : cV f k = 0; exact z; exact absurd (Or.inr z) hP
          have hL : ¬ L := fun z => hP (Or.inl z)
          by_cases z : d = 0
          · rw [if_pos (hzd.mpr z), gzf (by decide), if_neg]
            intro q
            rcases q with q | q
            · exact hL q
            · exact q (by rw [hc0, z, Nat.zero_mul])
          · rw [if_neg (fun q => z (hzd.mp q)), gzf (by decide), if_pos]
            right
            have := Nat.mul_le_mul (show 1 ≤ d by omega) (p2_pos (32 * k))
            omega
      · rw [if_neg (show ¬ iZ (((32 * k : Nat) : Int) - s) ≤ (-32 : Int32) by rw [show (-32 : Int32) = iZ (-32) by decide]; exact fun q => h2 ((iZ_le (by omega) (by omega) (by omega) (by omega)).mp q))]
        obtain ⟨g, hg⟩ : ∃ g : Nat, s = 32 * k + g := ⟨s - 32 * k, by omega⟩
        rw [iZ_neg, iZ_pos (by omega), show (-(((32 * k : Nat) : Int) - (s : Int))).toNat = g by omega]
        rw [wb_shr (by omega) (by omega), lN_msk (by omega), wb_mask (by omega) (by omega), show lN 0 = (0 : Int64) from rfl, or_0]
        have hdiv : cV f (k + 1) / 2 ^ s = d / 2 ^ g := by
          rw [hs1, hg, Nat.pow_add, ← Nat.div_div_eq_div_mul, Nat.add_mul_div_right _ _ (p2_pos _), Nat.div_eq_of_lt hVk, Nat.zero_add]
        have hmod : cV f (k + 1) % 2 ^ s = cV f k + d % 2 ^ g * 2 ^ (32 * k) := by
          rw [hs1, hg, Nat.pow_add, Nat.mod_mul, Nat.add_mul_mod_self_right, Nat.mod_eq_of_lt hVk, Nat.add_mul_div_right _ _ (p2_pos _), Nat.div_eq_of_lt hVk, Nat.zero_add, Nat.mul_comm (2 ^ (32 * k))]
        rw [hdiv, hmod]
        have hzd : lN (d % 2 ^ g) = 0 ↔ d % 2 ^ g = 0 := lN_z (by have := Nat.mod_le d (2 ^ g); omega)
        by_cases hP : L ∨ cV f k ≠ 0
        · rw [if_pos hP, if_pos (by decide), gzf (by decide), if_pos (by rcases hP with h | h; exact Or.inl h; exact Or.inr (by omega))]
        · rw [if_neg hP, if_neg (by decide)]
          have hc0 : cV f k = 0 := by by_cases z : cV f k = 0; exact z; exact absurd (Or.inr z) hP
          have hL : ¬ L := fun z => hP (Or.inl z)
          by_cases z : d % 2 ^ g = 0
          · rw [if_pos (hzd.mpr z), gzf (by decide), if_neg]
            intro q
            rcases q with q | q
            · exact hL q
            · exact q (by rw [hc0, z, Nat.zero_mul])
          · rw [if_neg (fun q => z (hzd.mp q)), gzf (by decide), if_pos]
            right
            have := Nat.mul_le_mul (show 1 ≤ d % 2 ^ g by omega) (p2_pos (32 * k))
            omega
    · rw [if_neg (show ¬ iZ (((32 * k : Nat) : Int) - s) < 0 from fun q => h1 ((iZ_lt (b := 0) (by omega) (by omega) (by omega) (by omega)).mp q)), iZ_pos (by omega)]
      obtain ⟨g, hg⟩ : ∃ g : Nat, 32 * k = s + g := ⟨32 * k - s, by omega⟩
      rw [show (((32 * k : Nat) : Int) - (s : Int)).toNat = g by omega]
      have hdiv : cV f (k + 1) / 2 ^ s = cV f k / 2 ^ s + d * 2 ^ g := by
        rw [hs1, hg, Nat.pow_add, Nat.mul_left_comm, Nat.add_mul_div_left _ _ (p2_pos s)]
      have hmod : cV f (k + 1) % 2 ^ s = cV f k % 2 ^ s := by
        rw [hs1, hg, Nat.pow_add, Nat.mul_left_comm, Nat.add_mul_mod_self_left]
      rw [hmod]
      have hlow : cV f k / 2 ^ s < 2 ^ g := Nat.div_lt_of_lt_mul (by rw [← Nat.pow_add, ← hg]; exact hVk)
      rw [hdiv] at hVs ⊢
      by_cases z : d = 0
      · subst z
        have : ∀ y : Int64, lN 0 <<< y = 0 := by
          intro y
          show (0 : Int64) <<< y = 0
          apply Int64.toBitVec_inj.mp
          show BitVec.shiftLeft _ _ = _
          simp
        rw [this, Nat.zero_mul, Nat.add_zero]
        congr 1
        simp
      · have hg63 : g < 63 := by
          by_cases q : g < 63
          · exact q
          · exfalso
            have h5 := Nat.mul_le_mul (show 1 ≤ d by omega) (p2_le (show 63 ≤ g by omega))
            have h6 : d * 2 ^ g < 2 ^ 63 := Nat.lt_of_le_of_lt (Nat.le_add_left _ _) hVs
            exact absurd h6 (by omega)
        rw [wb_shl d (by omega), g_or' (k := g) (p := 2 ^ g) rfl hlow (by omega)]
theorem v_bitsFrom {f : Nat → Int64} {u v s n : Nat} {L : Prop} [Decidable L] (hf : cH f u v) (hs : s < 2000) (hV : v / 2 ^ s < 2 ^ 63) (hn : 100 < n) : F_BW_bitsFrom n (nI u) (if L then 1 else 0) f (nI s) = some (lN (v / 2 ^ s), if L ∨ v % 2 ^ s ≠ 0 then 1 else 0) := by
  have hu := hf.1
  have h := bits_L (fun (y1 : Int64) (lost_2 : Int32) => some (y1, lost_2)) f u s hu hs hf.2.1 (by rw [hf.2.2]; exact hV) L u 0 n (by omega) (by omega)
  rw [hf.2.2, show cV f 0 = 0 from rfl, Nat.zero_div, Nat.zero_mod] at h
  have e : (if L ∨ (0 : Nat) ≠ 0 then (1 : Int32) else 0) = (if L then 1 else 0) := by
    by_cases hL : L
    · rw [if_pos hL, if_pos (Or.inl hL)]
    · rw [if_neg hL, if_neg (fun q => q.elim hL (fun y => y rfl))]
  rw [e] at h
  exact h
theorem five_L (j) (e : Nat) (he : e ≤ 13) : ∀ (t k n : Nat), k + t = e → t < n → F_BW_powerOfFive_L4 (nI e) j n (lN (5 ^ k)) (nI k) = j (lN (5 ^ e)) := by
  intro t
  induction t with
  | zero =>
    intro k n hk hn
    obtain rfl : k = e := by omega
    obtain ⟨n, rfl⟩ : ∃ k, n = k + 1 := ⟨n - 1, by omega⟩
    exact if_pos (Int32.le_refl _)
  | succ t ih =>
    intro k n hk hn
    obtain ⟨n, rfl⟩ : ∃ k, n = k + 1 := ⟨n - 1, by omega⟩
    rw [← ih (k + 1) n (by omega) (by omega)]
    show (if nI e ≤ nI k then j (lN (5 ^ k)) else F_BW_powerOfFive_L4 (nI e) j n (lN (5 ^ k) * lN 5) (nI k + 1)) = _
    rw [if_neg (nI_ge (by omega) (by omega)), lN_mul, nI_1, Nat.pow_succ]
theorem v_five {e n : Nat} (he : e ≤ 13) (hn : 20 < n) : F_BW_powerOfFive n (nI e) = some (lN (5 ^ e)) := five_L (fun y => some y) e he e 0 n (by omega) (by omega)
theorem five13 {e : Nat} (he : e ≤ 13) : 5 ^ e < 2 ^ 31 := Nat.lt_of_le_of_lt (Nat.pow_le_pow_right (by decide) he) (by decide)
theorem min13 (t : Nat) (ht : t < 1000) : (if (13 : Int32) < nI t then (13 : Int32) else nI t) = nI (min t 13) := by
  by_cases h : 13 < t
  · rw [if_pos (show (13 : Int32) < nI t from nI_lt (a := 13) h (by omega)), show min t 13 = 13 by omega]; rfl
  · rw [if_neg (show ¬ (13 : Int32) < nI t from nI_nlt (a := 13) (by omega) (by decide)), show min t 13 = t by omega]
theorem left13 {t : Int} (h1 : -1000 < t) (h2 : t < 1000) : iZ t + Int32.ofInt (-13) = iZ (t - 13) := iZ_add t (-13)
/-- multiplying on: t fives are left -/
theorem fl_L26 (a3 x1 : Int32) (j) (L : Int32) : ∀ (c n u v : Nat) (t : Int) (f : Nat → Int64), t ≤ 13 * c → -1000 < t → t < 1000 → c + 200 < n → cH f u v → v * 5 ^ t.toNat < 4294967296 ^ 36 → ∃ (u' : Nat) (f' : Nat → Int64), F_BW_floor_L26 a3 x1 j n (iZ t) (nI u) L f = j (nI u') L f' ∧ cH f' u' (v * 5 ^ t.toNat) := by
  intro c
  induction c with
  | zero =>
    intro n u v t f ht h1 h2 hn hf hv
    obtain ⟨n, rfl⟩ : ∃ k, n = k + 1 := ⟨n - 1, by omega⟩
    refine ⟨u, f, if_pos ((iZ_le (b := 0) (by omega) (by omega) (by omega) (by omega)).mpr (by omega)), ?_⟩
    rw [show t.toNat = 0 by omega, Nat.pow_zero, Nat.mul_one]
    exact hf
  | succ c ih =>
    intro n u v t f ht h1 h2 hn hf hv
    obtain ⟨n, rfl⟩ : ∃ k, n = k + 1 := ⟨n - 1, by omega⟩
    by_cases hz : t ≤ 0
    · refine ⟨u, f, if_pos ((iZ_le (b := 0) (by omega) (by omega) (by omega) (by omega)).mpr (by omega)), ?_⟩
      rw [show t.toNat = 0 by omega, Nat.pow_zero, Nat.mul_one]
      exact hf
    · have e5 : 5 ^ t.toNat = 5 ^ (min t.toNat 13) * 5 ^ (t - 13).toNat := by
        rw [← Nat.pow_add]
        congr 1
        omega
      have hv1 : v * 5 ^ (min t.toNat 13) * 5 ^ (t - 13).toNat < 4294967296 ^ 36 := by rw [Nat.mul_assoc, ← e5]; exact hv
      have hv2 : v * 5 ^ (min t.toNat 13) < 4294967296 ^ 36 := Nat.lt_of_le_of_lt (Nat.le_mul_of_pos_right _ (show 0 < 5 ^ (t - 13).toNat from Nat.pow_pos (by decide))) hv1
      obtain ⟨u1, f1, g1, g2⟩ := v_multiply (n := n) hf (five13 (show min t.toNat 13 ≤ 13 by omega)) hv2 (by omega)
      obtain ⟨u2, f2, k1, k2⟩ := ih n u1 _ (t - 13) f1 (by omega) (by omega) (by omega) (by omega) g2 hv1
      refine ⟨u2, f2, ?_, by rw [e5, ← Nat.mul_assoc]; exact k2⟩
      refine Eq.trans ?_ k1
      have stp : ∀ n, F_BW_floor_L26 a3 x1 j (n + 1) (iZ t) (nI u) L f = (if iZ t ≤ 0 then (j (nI u) L f) else ((F_BW_powerOfFive n (if (13 : Int32) < iZ t then (13 : Int32) else iZ t)).bind fun x22 => (F_BW_multiply n (nI u) f x22).bind fun x23 => lt_ (iZ t + Int32.ofInt (-13)) fun x24 => F_BW_floor_L26 a3 x1 j n x24 x23.1 L x23.2)) := fun _ => rfl
      rw [stp, if_neg (show ¬ iZ t ≤ 0 from fun q => hz ((iZ_le (b := 0) (by omega) (by omega) (by omega) (by omega)).mp q))]
      have e1 : (if (13 : Int32) < iZ t then (13 : Int32) else iZ t) = nI (min t.toNat 13) := by rw [iZ_pos (by omega)]; exact min13 _ (by omega)
      rw [e1, v_five (by omega) (by omega)]
      simp only [Option.bind_some, lt_]
      rw [g1]
      simp only [Option.bind_some]
      rw [left13 (by omega) (by omega)]
theorem fl_L56 (x1 : Int32) (j) : ∀ (c n u v : Nat) (t : Int) (f : Nat → Int64) (L : Prop) [Decidable L], t ≤ 13 * c → -1000 < t → t < 1000 → c + 200 < n → cH f u v → ∃ (u' : Nat) (f' : Nat → Int64) (lo : Int32), F_BW_floor_L56 x1 j n (iZ t) (nI u) (if L then 1 else 0) f = j (nI u') lo f' ∧ lo = (if L ∨ v % 5 ^ t.toNat ≠ 0 then 1 else 0) ∧ cH f' u' (v / 5 ^ t.toNat) := by
  intro c
  induction c with
  | zero =>
    intro n u v t f L iL ht h1 h2 hn hf
    obtain ⟨n, rfl⟩ : ∃ k, n = k + 1 := ⟨n - 1, by omega⟩
    refine ⟨u, f, _, if_pos ((iZ_le (b := 0) (by omega) (by omega) (by omega) (by omega)).mpr (by omega)), ?_, ?_⟩
    · rw [show t.toNat = 0 by omega, Nat.pow_zero, Nat.mod_one]
      by_cases hL : L
      · rw [if_pos hL, if_pos (Or.inl hL)]
      · rw [if_neg hL, if_neg (fun q => q.elim hL (fun y => y rfl))]
    · rw [show t.toNat = 0 by omega, Nat.pow_zero, Nat.div_one]
      exact hf
  | succ c ih =>
    intro n u v t f L iL ht h1 h2 hn hf
    obtain ⟨n, rfl⟩ : ∃ k, n = k + 1 := ⟨n - 1, by omega⟩
    by_cases hz : t ≤ 0
    · refine ⟨u, f, _, if_pos ((iZ_le (b := 0) (by omega) (by omega) (by omega) (by omega)).mpr (by omega)), ?_, ?_⟩
      · rw [show t.toNat = 0 by omega, Nat.pow_zero, Nat.mod_one]
        by_cases hL : L
        · rw [if_pos hL, if_pos (Or.inl hL)]
        · rw [if_neg hL, if_neg (fun q => q.elim hL (fun y => y rfl))]
      · rw [show t.toNat = 0 by omega, Nat.pow_zero, Nat.div_one]
        exact hf
    · have e5 : 5 ^ t.toNat = 5 ^ (min t.toNat 13) * 5 ^ (t - 13).toNat := by
        rw [← Nat.pow_add]
        congr 1
        omega
      have h5 : 0 < 5 ^ (min t.toNat 13) := Nat.pow_pos (by decide)
      obtain ⟨u1, f1, g1, g2⟩ := v_divide (n := n) (L := L) hf h5 (five13 (show min t.toNat 13 ≤ 13 by omega)) (by omega)
      obtain ⟨u2, f2, lo, k1, k2, k3⟩ := ih n u1 _ (t - 13) f1 (L ∨ v % 5 ^ (min t.toNat 13) ≠ 0) (by omega) (by omega) (by omega) (by omega) g2
      refine ⟨u2, f2, lo, ?_, ?_, ?_⟩
      · refine Eq.trans ?_ k1
        have u : ∀ n Lx, F_BW_floor_L56 x1 j (n + 1) (iZ t) (nI u) Lx f = (if iZ t ≤ 0 then (j (nI u) Lx f) else ((F_BW_powerOfFive n (if (13 : Int32) < iZ t then (13 : Int32) else iZ t)).bind fun x15 => (F_BW_divide n (nI u) Lx f x15).bind fun x16 => lt_ (iZ t + Int32.ofInt (-13)) fun x17 => F_BW_floor_L56 x1 j n x17 x16.1 x16.2.1 x16.2.2)) := fun _ _ => rfl
        rw [u, if_neg (show ¬ iZ t ≤ 0 from fun q => hz ((iZ_le (b := 0) (by omega) (by omega) (by omega) (by omega)).mp q))]
        have e1 : (if (13 : Int32) < iZ t then (13 : Int32) else iZ t) = nI (min t.toNat 13) := by rw [iZ_pos (by omega)]; exact min13 _ (by omega)
        rw [e1, v_five (by omega) (by omega)]
        simp only [Option.bind_some, lt_]
        rw [g1]
        simp only [Option.bind_some]
        rw [left13 (by omega) (by omega)]
      · rw [k2, e5]
        have hm : v % (5 ^ (min t.toNat 13) * 5 ^ (t - 13).toNat) = v % 5 ^ (min t.toNat 13) + 5 ^ (min t.toNat 13) * (v / 5 ^ (min t.toNat 13) % 5 ^ (t - 13).toNat) := Nat.mod_mul
        have hiff : ((L ∨ v % 5 ^ (min t.toNat 13) ≠ 0) ∨ v / 5 ^ (min t.toNat 13) % 5 ^ (t - 13).toNat ≠ 0) ↔ (L ∨ v % (5 ^ (min t.toNat 13) * 5 ^ (t - 13).toNat) ≠ 0) := by
          rw [hm]
          constructor
          · rintro ((a | a) | a)
            · exact Or.inl a
            · exact Or.inr (by omega)
            · right
              have := Nat.mul_le_mul h5 (show 1 ≤ v / 5 ^ (min t.toNat 13) % 5 ^ (t - 13).toNat by omega)
              omega
          · rintro (a | a)
            · exact Or.inl (Or.inl a)
            · by_cases z : v % 5 ^ (min t.toNat 13) = 0
              · right
                intro y
                rw [z, y] at a
                exact a rfl
              · exact Or.inl (Or.inr z)
        by_cases hP : (L ∨ v % 5 ^ (min t.toNat 13) ≠ 0) ∨ v / 5 ^ (min t.toNat 13) % 5 ^ (t - 13).toNat ≠ 0
        · rw [if_pos hP, if_pos (hiff.mp hP)]
        · rw [if_neg hP, if_neg (fun q => hP (hiff.mpr q))]
      · rw [e5, ← Nat.div_div_eq_div_mul]
        exact k3
