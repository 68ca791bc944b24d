/-! Powers of ten against powers of two (reference). -/
theorem tD_ex : ∃ g : Nat → Int → Nat, ∀ d k, g d k = d * (10 ^ (k + 400).toNat * 2 ^ 1400) := ⟨_, fun _ _ => rfl⟩
theorem tM_ex : ∃ g : Nat → Int → Nat, ∀ m q, g m q = m * (2 ^ (q + 1400).toNat * 10 ^ 400) := ⟨_, fun _ _ => rfl⟩
/-- d * 10^k and m * 2^q, both times 10^400 * 2^1400; behind a door, so that nothing is reckoned out -/
noncomputable def tD : Nat → Int → Nat := Classical.choose tD_ex
noncomputable def tM : Nat → Int → Nat := Classical.choose tM_ex
theorem tD_def (d : Nat) (k : Int) : tD d k = d * (10 ^ (k + 400).toNat * 2 ^ 1400) := Classical.choose_spec tD_ex d k
theorem tM_def (m : Nat) (q : Int) : tM m q = m * (2 ^ (q + 1400).toNat * 10 ^ 400) := Classical.choose_spec tM_ex m q
def tC (k q : Int) : Nat := 5 ^ (400 - (-k).toNat) * 2 ^ (min k q + 1800).toNat
theorem tC_pos (k q : Int) : 0 < tC k q := Nat.mul_pos (Nat.pow_pos (by decide)) (Nat.pow_pos (by decide))
theorem ten_p (a : Nat) : 10 ^ a = 5 ^ a * 2 ^ a := by rw [← Nat.mul_pow]
theorem tD_C (d : Nat) {k q : Int} (hk : -400 < k) (hq : -1400 < q) : tD d k = d * 5 ^ k.toNat * 2 ^ (k - q).toNat * tC k q := by
  rw [tD_def]
  unfold tC
  rw [ten_p, Nat.mul_assoc (5 ^ (k + 400).toNat), ← Nat.pow_add]
  rw [show (k + 400).toNat = k.toNat + (400 - (-k).toNat) by omega, Nat.pow_add 5 k.toNat]
  rw [show k.toNat + (400 - (-k).toNat) + 1400 = (k - q).toNat + (min k q + 1800).toNat by omega, Nat.pow_add 2 (k - q).toNat]
  generalize 5 ^ k.toNat = a
  generalize 5 ^ (400 - (-k).toNat) = b
  generalize 2 ^ (k - q).toNat = c
  generalize 2 ^ (min k q + 1800).toNat = e
  rw [Nat.mul_assoc a, Nat.mul_left_comm b c e, Nat.mul_assoc (d * a), Nat.mul_assoc d]
theorem tM_C (m : Nat) {k q : Int} (hk : -400 < k) (hq : -1400 < q) : tM m q = 5 ^ (-k).toNat * m * 2 ^ (q - k).toNat * tC k q := by
  rw [tM_def]
  unfold tC
  rw [ten_p, Nat.mul_left_comm (2 ^ (q + 1400).toNat), ← Nat.pow_add 2]
  rw [show 5 ^ 400 = 5 ^ ((-k).toNat + (400 - (-k).toNat)) by congr 1; omega, Nat.pow_add 5 (-k).toNat]
  rw [show (q + 1400).toNat + 400 = (q - k).toNat + (min k q + 1800).toNat by omega, Nat.pow_add 2 (q - k).toNat]
  generalize 5 ^ (-k).toNat = a
  generalize 5 ^ (400 - (-k).toNat) = b
  generalize 2 ^ (q - k).toNat = c
  generalize 2 ^ (min k q + 1800).toNat = e
  rw [Nat.mul_assoc a, Nat.mul_left_comm b c e, Nat.mul_assoc (a * m), Nat.mul_left_comm m a, Nat.mul_assoc a]
theorem t_lt {d m : Nat} {k q : Int} (hk : -400 < k) (hq : -1400 < q) : (d * 5 ^ k.toNat * 2 ^ (k - q).toNat < 5 ^ (-k).toNat * m * 2 ^ (q - k).toNat ↔ tD d k < tM m q) ∧ (5 ^ (-k).toNat * m * 2 ^ (q - k).toNat < d * 5 ^ k.toNat * 2 ^ (k - q).toNat ↔ tM m q < tD d k) := by
  rw [tD_C d hk hq, tM_C m hk hq]
  exact ⟨(Nat.mul_lt_mul_right (tC_pos k q)).symm, (Nat.mul_lt_mul_right (tC_pos k q)).symm⟩
theorem five_le (a : Nat) : 5 ^ a ≤ 2 ^ (3 * a) := by
  rw [Nat.pow_mul]
  exact Nat.pow_le_pow_left (by decide) a
theorem big_lt {d a b : Nat} (hd : d < 2 ^ 62) (ha : a ≤ 400) (hb : b ≤ 5000) : d * 5 ^ a * 2 ^ b < 65536 ^ 500 := by
  have h1 : d * 5 ^ a < 2 ^ 62 * 2 ^ (3 * a) := Nat.lt_of_lt_of_le (Nat.mul_lt_mul_of_pos_right hd (Nat.pow_pos (by decide))) (Nat.mul_le_mul_left _ (five_le a))
  have h2 : d * 5 ^ a * 2 ^ b < 2 ^ 62 * 2 ^ (3 * a) * 2 ^ b := Nat.mul_lt_mul_of_pos_right h1 (p2_pos b)
  rw [← Nat.pow_add, ← Nat.pow_add] at h2
  refine Nat.lt_of_lt_of_le h2 ?_
  rw [show (65536 : Nat) = 2 ^ 16 from rfl, ← Nat.pow_mul]
  exact p2_le (by omega)
theorem tD_mul (d : Nat) (k : Int) : tD d k = d * tD 1 k := by rw [tD_def, tD_def, Nat.one_mul]
theorem tD_pos (k : Int) : 0 < tD 1 k := by
  rw [tD_def]
  exact Nat.mul_pos (by decide) (Nat.mul_pos (Nat.pow_pos (by decide)) (Nat.pow_pos (by decide)))
theorem tD_ten {k : Int} {j : Nat} (hk : -400 < k) : tD 1 (k + j) = 10 ^ j * tD 1 k := by
  rw [tD_def, tD_def, show (k + j + 400).toNat = j + (k + 400).toNat by omega, Nat.pow_add, Nat.one_mul, Nat.one_mul, Nat.mul_assoc]
theorem tM_two {m : Nat} {q : Int} {j : Nat} (hq : -1400 < q) : tM m (q + j) = tM (2 ^ j * m) q := by
  rw [tM_def, tM_def, show (q + j + 1400).toNat = j + (q + 1400).toNat by omega, Nat.pow_add, Nat.mul_comm (2 ^ j) m, Nat.mul_assoc m, Nat.mul_assoc (2 ^ j)]
theorem tM_mul (m : Nat) (q : Int) : tM m q = m * tM 1 q := by rw [tM_def, tM_def, Nat.one_mul]
theorem tM_pos (q : Int) : 0 < tM 1 q := by
  rw [tM_def]
  exact Nat.mul_pos (by decide) (Nat.mul_pos (Nat.pow_pos (by decide)) (Nat.pow_pos (by decide)))
/-- what scale leaves behind -/
def sc (bN fN twos : Int32) (rb rfive : Nat → Int32) (k : Int) : Prop := ∃ bm fm : Nat, bN = nI bm ∧ fN = nI fm ∧ twos = iZ k ∧ rH rb bm (5 ^ (-k).toNat) ∧ rH rfive fm (5 ^ k.toNat)
theorem five_lt {a : Nat} (ha : a ≤ 400) : 5 ^ a < 65536 ^ 500 := by
  have := big_lt (d := 1) (a := a) (b := 0) (by decide) ha (by decide)
  rw [Nat.one_mul, Nat.pow_zero, Nat.mul_one] at this
  exact this
theorem w519 {x : Nat} (h : x < 65536 ^ 500) : x < 65536 ^ 519 := Nat.lt_of_lt_of_le h (p16_le (by decide))
theorem v_scale {n : Nat} (bN fN twos : Int32) (rb rfive : Nat → Int32) {k : Int} (h1 : -400 < k) (h2 : k < 400) (hn : 2000 < n) : ∃ (bN' fN' : Int32) (rb' rf' : Nat → Int32), F_Rs_scale n bN fN twos rb rfive (iZ k) = some (bN', fN', iZ k, rb', rf') ∧ sc bN' fN' (iZ k) rb' rf' k := by
  obtain ⟨m1, f1, a1, a2⟩ := v_set1 (n := n) rfive (by omega)
  obtain ⟨m2, f2, b1, b2⟩ := v_set1 (n := n) rb (by omega)
  have l1 := rH_le a2 (b := 1) (by decide)
  have l2 := rH_le b2 (b := 1) (by decide)
  by_cases h : k ≤ 0
  · obtain ⟨m', f', c1, c2, c3, c4, c5⟩ := v_fives (n := n) (cnt := (-k).toNat) (show m2 < 520 by omega) (by omega) (by omega) b2.1 b2.2.1 (by rw [b2.2.2, Nat.one_mul]; exact w519 (five_lt (by omega)))
    refine ⟨nI m', nI m1, f', f1, ?_, m', m1, rfl, rfl, rfl, ⟨c3, c4, by rw [c5, b2.2.2, Nat.one_mul]⟩, by rw [show k.toNat = 0 by omega, Nat.pow_zero]; exact a2⟩
    unfold F_Rs_scale
    rw [a1, b1]
    show (if iZ k ≤ 0 then _ else _) = _
    rw [if_pos (show iZ k ≤ 0 from (iZ_le (b := 0) (by omega) (by omega) (by omega) (by omega)).mpr h), iZ_neg, iZ_pos (by omega)]
    show (F_Rs_fives n f2 (nI m2) (nI (-k).toNat)).bind _ = _
    rw [c1]
    rfl
  · obtain ⟨m', f', c1, c2, c3, c4, c5⟩ := v_fives (n := n) (cnt := k.toNat) (show m1 < 520 by omega) (by omega) (by omega) a2.1 a2.2.1 (by rw [a2.2.2, Nat.one_mul]; exact w519 (five_lt (by omega)))
    refine ⟨nI m2, nI m', f2, f', ?_, m2, m', rfl, rfl, rfl, by rw [show (-k).toNat = 0 by omega, Nat.pow_zero]; exact b2, ⟨c3, c4, by rw [c5, a2.2.2, Nat.one_mul]⟩⟩
    unfold F_Rs_scale
    rw [a1, b1]
    show (if iZ k ≤ 0 then _ else _) = _
    rw [if_neg (show ¬ iZ k ≤ 0 from fun q => h ((iZ_le (b := 0) (by omega) (by omega) (by omega) (by omega)).mp q))]
    show (F_Rs_fives n f1 (nI m1) (iZ k)).bind (fun x9 => some (nI m2, x9.1, iZ k, f2, x9.2)) = _
    have e : iZ k = nI k.toNat := iZ_pos (by omega)
    rw [show F_Rs_fives n f1 (nI m1) (iZ k) = F_Rs_fives n f1 (nI m1) (nI k.toNat) by rw [e], c1]
    rfl
/-- a row d * 5^k against m * 2^q -/
theorem v_cmp {n : Nat} {bN fN twos : Int32} {ra rb rfive : Nat → Int32} {am d m : Nat} {k q : Int} (lN_ rN : Int32) (rl rr : Nat → Int32) (hs : sc bN fN twos rb rfive k) (hk1 : -400 < k) (hk2 : k < 400) (hq1 : -1300 < q) (hq2 : q < 1300) (ha : rH ra am (d * 5 ^ k.toNat)) (hd : d < 2 ^ 62) (hm : m < 2 ^ 62) (hn : 2000 < n) :
    ∃ (c l r : Int32) (f g : Nat → Int32), F_Rs_compare n (nI am) bN lN_ rN twos ra rb rl rr (lN m) (iZ q) = some (c, l, r, f, g) ∧ (c < 0 ↔ tD d k < tM m q) ∧ (0 < c ↔ tM m q < tD d k) := by
  obtain ⟨bm, fm, rfl, rfl, rfl, hb, -⟩ := hs
  have e := t_lt (d := d) (m := m) hk1 (show -1400 < q by omega)
  obtain ⟨c, l, r, f, g, c1, c2, c3⟩ := v_compare (n := n) (T := k) (Q := q) lN_ rN rl rr ha hb hm (by omega) (by omega) (by omega) (by omega) (by omega) (by omega) (big_lt hd (by omega) (by omega)) (by rw [Nat.mul_comm (5 ^ (-k).toNat)]; exact big_lt hm (by omega) (by omega)) (five_lt (by omega)) hn
  exact ⟨c, l, r, f, g, c1, by rw [c2, e.1], by rw [c3, e.2]⟩
theorem v_row {n : Nat} {bN fN twos : Int32} {rb rfive : Nat → Int32} {d : Nat} {k : Int} (ra : Nat → Int32) (hs : sc bN fN twos rb rfive k) (hk1 : -400 < k) (hk2 : k < 400) (hd : d < 2 ^ 62) (hn : 2000 < n) : ∃ (am : Nat) (ra' : Nat → Int32), F_Rs_times n rfive ra fN (lN d) = some (nI am, ra') ∧ rH ra' am (d * 5 ^ k.toNat) := by
  obtain ⟨bm, fm, rfl, rfl, rfl, -, hf⟩ := hs
  have := rH_le hf (five_lt (by omega))
  obtain ⟨m', f', h1, h2⟩ := v_times (n := n) ra hf (by omega) hd (by omega)
  exact ⟨m', f', h1, by rw [Nat.mul_comm]; exact h2⟩
theorem v_cd {n : Nat} {bN fN twos : Int32} {rb rfive : Nat → Int32} {d m : Nat} {k q : Int} (aN lN_ rN : Int32) (ra rl rr : Nat → Int32) (hs : sc bN fN twos rb rfive k) (hk1 : -400 < k) (hk2 : k < 400) (hq1 : -1300 < q) (hq2 : q < 1300) (hd : d < 2 ^ 62) (hm : m < 2 ^ 62) (hn : 2000 < n) :
    ∃ (c a l r : Int32) (f g h : Nat → Int32), F_Rs_compareDigits n aN bN fN lN_ rN twos ra rb rfive rl rr (lN d) (lN m) (iZ q) = some (c, a, l, r, f, g, h) ∧ (c < 0 ↔ tD d k < tM m q) ∧ (0 < c ↔ tM m q < tD d k) := by
  obtain ⟨am, ra', a1, a2⟩ := v_row ra hs hk1 hk2 hd hn
  obtain ⟨c, l, r, f, g, c1, c2, c3⟩ := v_cmp lN_ rN rl rr hs hk1 hk2 hq1 hq2 a2 hd hm hn
  refine ⟨c, nI am, l, r, ra', f, g, ?_, c2, c3⟩
  unfold F_Rs_compareDigits
  rw [a1]
  show (F_Rs_compare n (nI am) bN lN_ rN twos ra' rb rl rr (lN m) (iZ q)).bind _ = _
  rw [c1]
  rfl
/-! the power of ten just below -/
theorem iZ_half {a b : Int} (h1 : -1000 < a) (h2 : a < b) (h3 : b < 1000) : iZ a + ((iZ b - iZ a) + 1) / 2 = iZ (a + (b - a + 1) / 2) := by
  have e : iZ b - iZ a + 1 = nI (b - a + 1).toNat := by
    rw [iZ_sub, show (1 : Int32) = iZ 1 from rfl, iZ_add, iZ_pos (by omega)]
  have e2 : nI (b - a + 1).toNat / (2 : Int32) = nI ((b - a + 1).toNat / 2) := pk_div (d := 2) (by omega) (by decide) (by decide)
  rw [e, e2, ← iZ_nI, iZ_add]
  congr 1
  omega
theorem tens_L (m : Nat) (q : Int) (hm : m < 2 ^ 62) (hq1 : -1300 < q) (hq2 : q < 1300) (p : Int) (hp1 : tD 1 p ≤ tM m q) (hp2 : tM m q < tD 1 (p + 1)) (j) : ∀ (t n : Nat) (lo hi : Int) (aN bN fN l r tw : Int32) (ra rb rf rl rr : Nat → Int32), -331 < lo → hi < 311 → lo ≤ p → p ≤ hi → hi - lo ≤ t → t + 3000 < n →
    ∃ (aN' bN' fN' l' r' tw' : Int32) (ra' rb' rf' rl' rr' : Nat → Int32), F_Rs_tens_L10 (lN m) (iZ q) j n (iZ lo) (iZ hi) aN bN fN l r tw ra rb rf rl rr = j (iZ p) aN' bN' fN' l' r' tw' ra' rb' rf' rl' rr' := by
  intro t
  induction t with
  | zero =>
    intro n lo hi aN bN fN l r tw ra rb rf rl rr h1 h2 h3 h4 h5 hn
    obtain ⟨n, rfl⟩ : ∃ k, n = k + 1 := ⟨n - 1, by omega⟩
    obtain rfl : lo = p := by omega
    obtain rfl : hi = lo := by omega
    exact ⟨_, _, _, _, _, _, _, _, _, _, _, if_pos (Int32.le_refl _)⟩
  | succ t ih =>
    intro n lo hi aN bN fN l r tw ra rb rf rl rr h1 h2 h3 h4 h5 hn
    obtain ⟨n, rfl⟩ : ∃ k, n = k + 1 := ⟨n - 1, by omega⟩
    by_cases hz : hi ≤ lo
    · obtain rfl : lo = p := by omega
      obtain rfl : hi = lo := by omega
      exact ⟨_, _, _, _, _, _, _, _, _, _, _, if_pos (Int32.le_refl _)⟩
    · have hmid : lo < lo + (hi - lo + 1) / 2 ∧ lo + (hi - lo + 1) / 2 ≤ hi := by omega
      have ehalf := iZ_half (a := lo) (b := hi) (by omega) (by omega) (by omega)
      generalize lo + (hi - lo + 1) / 2 = mid at *
      obtain ⟨bN', fN', rb', rf', s1, s2⟩ := v_scale (n := n) bN fN tw rb rf (k := mid) (by omega) (by omega) (by omega)
      obtain ⟨c, a, l', r', f, g, h, c1, c2, c3⟩ := v_cd (n := n) (d := 1) (m := m) (q := q) aN l r ra rl rr s2 (by omega) (by omega) hq1 hq2 (by decide) hm (by omega)
      have e : F_Rs_tens_L10 (lN m) (iZ q) j (n + 1) (iZ lo) (iZ hi) aN bN fN l r tw ra rb rf rl rr = F_Rs_tens_L10 (lN m) (iZ q) j n (if 0 < c then iZ lo else iZ mid) (if 0 < c then iZ mid - 1 else iZ hi) a bN' fN' l' r' (iZ mid) f rb' rf' g h := by
        have u : ∀ n, F_Rs_tens_L10 (lN m) (iZ q) j (n + 1) (iZ lo) (iZ hi) aN bN fN l r tw ra rb rf rl rr = (if iZ hi ≤ iZ lo then (j (iZ lo) aN bN fN l r tw ra rb rf rl rr) else (lt_ (iZ lo + (((iZ hi - iZ lo) + (1 : Int32)) / (2 : Int32))) fun x26 => (F_Rs_scale n bN fN tw rb rf x26).bind fun x27 => (F_Rs_compareDigits n aN x27.1 x27.2.1 l r x27.2.2.1 ra x27.2.2.2.1 x27.2.2.2.2 rl rr (1 : Int64) (lN m) (iZ q)).bind fun x28 => lt_ (if 0 < x28.1 then iZ lo else x26) fun x29 => lt_ (if 0 < x28.1 then x26 - (1 : Int32) else iZ hi) fun x30 => F_Rs_tens_L10 (lN m) (iZ q) j n x29 x30 x28.2.1 x27.1 x27.2.1 x28.2.2.1 x28.2.2.2.1 x27.2.2.1 x28.2.2.2.2.1 x27.2.2.2.1 x27.2.2.2.2 x28.2.2.2.2.2.1 x28.2.2.2.2.2.2)) := fun _ => rfl
        rw [u, if_neg (fun z => hz ((iZ_le (by omega) (by omega) (by omega) (by omega)).mp z)), ehalf]
        simp only [lt_]
        rw [s1]
        show (F_Rs_compareDigits n aN bN' fN' l r (iZ mid) ra rb' rf' rl rr (lN 1) (lN m) (iZ q)).bind _ = _
        rw [c1]
        rfl
      rw [e]
      by_cases hc : 0 < c
      · have hv := c3.mp hc
        rw [if_pos hc, if_pos hc, show (1 : Int32) = iZ 1 from rfl, iZ_sub]
        have : p ≤ mid - 1 := by
          by_cases z : p ≤ mid - 1
          · exact z
          · exfalso
            have e1 := tD_ten (k := mid) (j := (p - mid).toNat) (by omega)
            rw [show mid + ((p - mid).toNat : Int) = p by omega] at e1
            have := Nat.le_mul_of_pos_left (tD 1 mid) (show 0 < 10 ^ (p - mid).toNat from Nat.pow_pos (by decide))
            omega
        exact ih n lo (mid - 1) a bN' fN' l' r' (iZ mid) f rb' rf' g h (by omega) (by omega) (by omega) (by omega) (by omega) (by omega)
      · have hv : tD 1 mid ≤ tM m q := Nat.le_of_not_lt (fun z => hc (c3.mpr z))
        rw [if_neg hc, if_neg hc]
        have : mid ≤ p := by
          by_cases z : mid ≤ p
          · exact z
          · exfalso
            have e1 := tD_ten (k := p + 1) (j := (mid - (p + 1)).toNat) (by omega)
            rw [show p + 1 + ((mid - (p + 1)).toNat : Int) = mid by omega] at e1
            have := Nat.le_mul_of_pos_left (tD 1 (p + 1)) (show 0 < 10 ^ (mid - (p + 1)).toNat from Nat.pow_pos (by decide))
            omega
        exact ih n mid hi a bN' fN' l' r' (iZ mid) f rb' rf' g h (by omega) (by omega) (by omega) (by omega) (by omega) (by omega)
theorem v_tens {n m : Nat} {q p : Int} (aN bN fN l r tw : Int32) (ra rb rf rl rr : Nat → Int32) (hm : m < 2 ^ 62) (hq1 : -1300 < q) (hq2 : q < 1300) (hp1 : tD 1 p ≤ tM m q) (hp2 : tM m q < tD 1 (p + 1)) (hp3 : -331 < p) (hp4 : p < 311) (hn : 5000 < n) :
    ∃ (aN' bN' fN' l' r' tw' : Int32) (ra' rb' rf' rl' rr' : Nat → Int32), F_Rs_tens n aN bN fN l r tw ra rb rf rl rr (lN m) (iZ q) = some (iZ p, aN', bN', fN', l', r', tw', ra', rb', rf', rl', rr') := by
  obtain ⟨a1, a2, a3, a4, a5, a6, a7, a8, a9, a10, a11, h⟩ := tens_L m q hm hq1 hq2 p hp1 hp2 (fun y1 aN_2 bN_3 fN_4 lN__5 rN_6 twos_7 ra_8 rb_9 rfive_10 rleft_11 rright_12 => some (y1, aN_2, bN_3, fN_4, lN__5, rN_6, twos_7, ra_8, rb_9, rfive_10, rleft_11, rright_12)) 640 n (-330) 310 aN bN fN l r tw ra rb rf rl rr (by omega) (by omega) (by omega) (by omega) (by omega) (by omega)
  refine ⟨a1, a2, a3, a4, a5, a6, a7, a8, a9, a10, a11, Eq.trans ?_ h⟩
  unfold F_Rs_tens
  rw [show (-330 : Int32) = iZ (-330) by decide, show (310 : Int32) = iZ 310 by decide]
  rfl
/-! the greatest digits not above -/
theorem most_L (m : Nat) (q : Int) (hm : m < 2 ^ 62) (hq1 : -1300 < q) (hq2 : q < 1300) {bN fN tw : Int32} {rb rf : Nat → Int32} {k : Int} (hs : sc bN fN tw rb rf k) (hk1 : -400 < k) (hk2 : k < 400) (d : Nat) (hd1 : tD d k ≤ tM m q) (hd2 : tM m q < tD (d + 1) k) (j) : ∀ (t n lo hi : Nat) (aN l r : Int32) (ra rl rr : Nat → Int32), lo ≤ d → d ≤ hi → hi < 2 ^ 61 → hi - lo < 2 ^ t → t + 3000 < n →
    ∃ (aN' l' r' : Int32) (ra' rl' rr' : Nat → Int32), F_Rs_most_L7 bN fN tw rb rf (lN m) (iZ q) j n (lN lo) (lN hi) aN l r ra rl rr = j (lN d) aN' l' r' ra' rl' rr' := by
  intro t
  induction t with
  | zero =>
    intro n lo hi aN l r ra rl rr h1 h2 h3 h4 hn
    obtain ⟨n, rfl⟩ : ∃ k, n = k + 1 := ⟨n - 1, by omega⟩
    obtain rfl : lo = d := by omega
    obtain rfl : hi = lo := by omega
    exact ⟨_, _, _, _, _, _, if_pos (Int64.le_refl _)⟩
  | succ t ih =>
    intro n lo hi aN l r ra rl rr h1 h2 h3 h4 hn
    obtain ⟨n, rfl⟩ : ∃ k, n = k + 1 := ⟨n - 1, by omega⟩
    by_cases hz : hi ≤ lo
    · obtain rfl : lo = d := by omega
      obtain rfl : hi = lo := by omega
      exact ⟨_, _, _, _, _, _, if_pos (Int64.le_refl _)⟩
    · have ehalf : lN lo + ((lN hi - lN lo) + 1) / 2 = lN (lo + (hi - lo + 1) / 2) := by
        rw [lN_sub (by omega), lN_1, show (2 : Int64) = lN 2 from rfl, pk_lDiv (by omega) (by decide) (by decide), lN_add]
      have hmid : lo < lo + (hi - lo + 1) / 2 ∧ lo + (hi - lo + 1) / 2 ≤ hi ∧ hi - (lo + (hi - lo + 1) / 2) < 2 ^ t ∧ lo + (hi - lo + 1) / 2 - 1 - lo < 2 ^ t := by
        have := p2_s t
        omega
      generalize lo + (hi - lo + 1) / 2 = mid at *
      obtain ⟨c, a, l', r', f, g, h, c1, c2, c3⟩ := v_cd (n := n) (d := mid) (m := m) (q := q) aN l r ra rl rr hs hk1 hk2 hq1 hq2 (by omega) hm (by omega)
      have e : F_Rs_most_L7 bN fN tw rb rf (lN m) (iZ q) j (n + 1) (lN lo) (lN hi) aN l r ra rl rr = F_Rs_most_L7 bN fN tw rb rf (lN m) (iZ q) j n (if 0 < c then lN lo else lN mid) (if 0 < c then lN mid - 1 else lN hi) a l' r' f g h := by
        have u : ∀ n, F_Rs_most_L7 bN fN tw rb rf (lN m) (iZ q) j (n + 1) (lN lo) (lN hi) aN l r ra rl rr = (if lN hi ≤ lN lo then (j (lN lo) aN l r ra rl rr) else (lt_ (lN lo + (((lN hi - lN lo) + (1 : Int64)) / (2 : Int64))) fun x16 => (F_Rs_compareDigits n aN bN fN l r tw ra rb rf rl rr x16 (lN m) (iZ q)).bind fun x17 => lt_ (if 0 < x17.1 then lN lo else x16) fun x18 => lt_ (if 0 < x17.1 then x16 - (1 : Int64) else lN hi) fun x19 => F_Rs_most_L7 bN fN tw rb rf (lN m) (iZ q) j n x18 x19 x17.2.1 x17.2.2.1 x17.2.2.2.1 x17.2.2.2.2.1 x17.2.2.2.2.2.1 x17.2.2.2.2.2.2)) := fun _ => rfl
        rw [u, if_neg (fun z => hz ((pk_lLE (by omega) (by omega)).mp z)), ehalf]
        simp only [lt_]
        rw [c1]
        rfl
      rw [e]
      by_cases hc : 0 < c
      · have hv := c3.mp hc
        rw [if_pos hc, if_pos hc, show (1 : Int64) = lN 1 from rfl, lN_sub (by omega)]
        have : d ≤ mid - 1 := by
          by_cases z : d ≤ mid - 1
          · exact z
          · exfalso
            have := Nat.mul_le_mul_right (tD 1 k) (show mid ≤ d by omega)
            rw [← tD_mul, ← tD_mul] at this
            omega
        exact ih n lo (mid - 1) a l' r' f g h (by omega) (by omega) (by omega) (by omega) (by omega)
      · have hv : tD mid k ≤ tM m q := Nat.le_of_not_lt (fun z => hc (c3.mpr z))
        rw [if_neg hc, if_neg hc]
        have : mid ≤ d := by
          by_cases z : mid ≤ d
          · exact z
          · exfalso
            have := Nat.mul_le_mul_right (tD 1 k) (show d + 1 ≤ mid by omega)
            rw [← tD_mul, ← tD_mul] at this
            omega
        exact ih n mid hi a l' r' f g h (by omega) (by omega) (by omega) (by omega) (by omega)
theorem v_most {n m : Nat} {q : Int} {bN fN tw : Int32} {rb rf : Nat → Int32} {k : Int} {d e : Nat} (aN l r : Int32) (ra rl rr : Nat → Int32) (hm : m < 2 ^ 62) (hq1 : -1300 < q) (hq2 : q < 1300) (hs : sc bN fN tw rb rf k) (hk1 : -400 < k) (hk2 : k < 400) (hd1 : tD d k ≤ tM m q) (hd2 : tM m q < tD (d + 1) k) (hde : d ≤ e) (he : e < 2 ^ 61) (hn : 5000 < n) :
    ∃ (aN' l' r' : Int32) (ra' rl' rr' : Nat → Int32), F_Rs_most n aN bN fN l r tw ra rb rf rl rr (lN m) (iZ q) (lN e) = some (lN d, aN', l', r', ra', rl', rr') :=
  most_L m q hm hq1 hq2 hs hk1 hk2 d hd1 hd2 (fun y1 aN_2 lN__3 rN_4 ra_5 rleft_6 rright_7 => some (y1, aN_2, lN__3, rN_4, ra_5, rleft_6, rright_7)) 61 n 0 e aN l r ra rl rr (by omega) hde he (by omega) (by omega)
