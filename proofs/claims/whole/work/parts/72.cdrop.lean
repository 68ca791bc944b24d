/-! Zeros dropped; what find answers (class). -/
theorem strip_ex : ∀ (t D : Nat), 0 < D → D < 10 ^ t → ∃ D0 z, D = D0 * 10 ^ z ∧ D0 % 10 ≠ 0 := by
  intro t
  induction t with
  | zero => intro D h1 h2; rw [Nat.pow_zero] at h2; omega
  | succ t ih =>
    intro D h1 h2
    by_cases h : D % 10 = 0
    · obtain ⟨D0, z, e1, e2⟩ := ih (D / 10) (by omega) (by rw [Nat.pow_succ] at h2; omega)
      refine ⟨D0, z + 1, ?_, e2⟩
      rw [Nat.pow_succ, ← Nat.mul_assoc, ← e1]
      omega
    · exact ⟨D, 0, by rw [Nat.pow_zero, Nat.mul_one], h⟩
theorem strip_un : ∀ (z z' a b : Nat), a * 10 ^ z = b * 10 ^ z' → a % 10 ≠ 0 → b % 10 ≠ 0 → a = b ∧ z = z' := by
  intro z
  induction z with
  | zero =>
    intro z' a b h ha hb
    cases z' with
    | zero => rw [Nat.pow_zero, Nat.mul_one, Nat.mul_one] at h; exact ⟨h, rfl⟩
    | succ z' => rw [Nat.pow_zero, Nat.mul_one, Nat.pow_succ, ← Nat.mul_assoc] at h; omega
  | succ z ih =>
    intro z' a b h ha hb
    cases z' with
    | zero => rw [Nat.pow_zero, Nat.mul_one, Nat.pow_succ, ← Nat.mul_assoc] at h; omega
    | succ z' =>
      rw [Nat.pow_succ, Nat.pow_succ, ← Nat.mul_assoc, ← Nat.mul_assoc] at h
      obtain ⟨h1, h2⟩ := ih z' a b (Nat.eq_of_mul_eq_mul_right (by decide) h) ha hb
      exact ⟨h1, by omega⟩
theorem drop_L (j) : ∀ (t k n D : Nat) (P : Int), k + t = 19 → t < n → 0 < D → D < 10 ^ t → D < 2 ^ 63 → ∃ D0 z : Nat, D = D0 * 10 ^ z ∧ D0 % 10 ≠ 0 ∧ F_SD_dropZeros_L2 j n (nI k) (lN D) (iZ P) = j (lN D0) (iZ (P + z)) := by
  intro t
  induction t with
  | zero => intro k n D P _ _ h1 h2; rw [Nat.pow_zero] at h2; omega
  | succ t ih =>
    intro k n D P hk hn h1 h2 h3
    obtain ⟨n, rfl⟩ : ∃ k, n = k + 1 := ⟨n - 1, by omega⟩
    have stp : ∀ n, F_SD_dropZeros_L2 j (n + 1) (nI k) (lN D) (iZ P) = (if (19 : Int32) ≤ nI k then (j (lN D) (iZ P)) else (if ¬ (lN D - lN D / lN 10 * lN 10) = (0 : Int64) then (j (lN D) (iZ P)) else F_SD_dropZeros_L2 j n (nI k + 1) (lN D / lN 10) (iZ P + iZ 1))) := fun _ => rfl
    rw [stp, if_neg (show ¬ (19 : Int32) ≤ nI k from nI_ge (b := 19) (by omega) (by decide)), pk_lRem h3 (by decide) (by decide), pk_lDiv h3 (by decide) (by decide), nI_1, iZ_add]
    have hz : lN (D % 10) = 0 ↔ D % 10 = 0 := lN_z (by omega)
    by_cases h : D % 10 = 0
    · rw [if_neg (fun z => z (hz.mpr h))]
      obtain ⟨D0, z, e1, e2, e3⟩ := ih (k + 1) n (D / 10) (P + 1) (by omega) (by omega) (by omega) (by rw [Nat.pow_succ] at h2; omega) (by omega)
      refine ⟨D0, z + 1, ?_, e2, ?_⟩
      · rw [Nat.pow_succ, ← Nat.mul_assoc, ← e1]
        omega
      · rw [e3]
        congr 2
        omega
    · rw [if_pos (fun z => h (hz.mp z))]
      refine ⟨D, 0, by rw [Nat.pow_zero, Nat.mul_one], h, ?_⟩
      congr 2
      omega
theorem v_drop {n D : Nat} {P : Int} (h1 : 0 < D) (h2 : D < 10 ^ 19) (h3 : D < 2 ^ 63) (hn : 20 < n) : ∃ D0 z : Nat, D = D0 * 10 ^ z ∧ D0 % 10 ≠ 0 ∧ F_SD_dropZeros n (lN D) (iZ P) = some (lN D0, iZ (P + z)) := drop_L (fun d p => some (d, p)) 19 0 n D P (by omega) (by omega) h1 h2 h3
section FD
variable {f te w : Nat} {lp : Int} {x : Nat}
theorem sp_in (p : Int) : ∀ (t nn D : Nat) (K : Int), spK f w lp x p t nn = some (D, K) → isR f w lp x D K ∧ (∃ m : Nat, nn ≤ m ∧ m < nn + t ∧ K = p - m + 1 ∧ D ≤ tM (dM f w x) (dP f w lp x) / tD 1 K + 1) := by
  intro t
  induction t with
  | zero => intro nn D K h; cases h
  | succ t ih =>
    intro nn D K h
    simp only [spK, lt_] at h
    by_cases r1 : isR f w lp x (tM (dM f w x) (dP f w lp x) / tD 1 (p - nn + 1)) (p - nn + 1)
    · by_cases r2 : isR f w lp x (tM (dM f w x) (dP f w lp x) / tD 1 (p - nn + 1) + 1) (p - nn + 1)
      · rw [if_pos r1, if_pos r2] at h
        injection h with h
        injection h with hD hK
        subst hK
        by_cases ht : tie (dM f w x) (dP f w lp x) (tM (dM f w x) (dP f w lp x) / tD 1 (p - nn + 1)) (p - nn + 1)
        · rw [if_pos ht] at hD
          subst hD
          exact ⟨r1, nn, by omega, by omega, rfl, by omega⟩
        · rw [if_neg ht] at hD
          subst hD
          exact ⟨r2, nn, by omega, by omega, rfl, by omega⟩
      · rw [if_pos r1, if_neg r2] at h
        injection h with h
        injection h with hD hK
        subst hK
        subst hD
        exact ⟨r1, nn, by omega, by omega, rfl, by omega⟩
    · by_cases r2 : isR f w lp x (tM (dM f w x) (dP f w lp x) / tD 1 (p - nn + 1) + 1) (p - nn + 1)
      · rw [if_neg r1, if_pos r2] at h
        injection h with h
        injection h with hD hK
        subst hK
        subst hD
        exact ⟨r2, nn, by omega, by omega, rfl, by omega⟩
      · rw [if_neg r1, if_neg r2] at h
        obtain ⟨a, m, b, c, d⟩ := ih (nn + 1) D K h
        exact ⟨a, m, by omega, by omega, d⟩
theorem hw_pos (y : Nat) : 0 < hw f w lp y := by
  unfold hw
  rw [tM_mul]
  exact Nat.mul_pos (by omega) (tM_pos _)
theorem isR_pos {D : Nat} {K : Int} (h : isR f w lp x D K) : 0 < D := by
  by_cases z : D = 0
  · subst z
    have := hw_pos (f := f) (w := w) (lp := lp) (x - 1)
    have h0 : tD 0 K = 0 := by rw [tD_mul, Nat.zero_mul]
    unfold isR at h
    omega
  · omega
/-- a floor and whether it is exact: which whole numbers lie at or above, at or below -/
theorem ends_lo {v u : Nat} (hu : 0 < u) {E : Prop} {first : Nat} (hfirst : (v % u ≠ 0 ∨ ¬ E) ∧ first = v / u + 1 ∨ (v % u = 0 ∧ E) ∧ first = v / u) (z : Nat) : first ≤ z ↔ (v < z * u ∨ (v = z * u ∧ E)) := by
  have h1 := Nat.div_add_mod v u
  have h2 := Nat.mod_lt v hu
  rw [Nat.mul_comm] at h1
  rcases Nat.lt_trichotomy z (v / u) with h | h | h
  · have := Nat.mul_le_mul_right u (show z + 1 ≤ v / u by omega)
    rw [Nat.add_mul, Nat.one_mul] at this
    refine iff_of_false ?_ ?_
    · rcases hfirst with ⟨_, e⟩ | ⟨_, e⟩ <;> omega
    · rintro (a | ⟨a, _⟩) <;> omega
  · subst h
    rcases hfirst with ⟨a, e⟩ | ⟨⟨a, b⟩, e⟩
    · refine iff_of_false (by omega) ?_
      rintro (c | ⟨c, d⟩)
      · omega
      · rcases a with a | a
        · omega
        · exact a d
    · exact iff_of_true (by omega) (Or.inr ⟨by omega, b⟩)
  · have := Nat.mul_le_mul_right u (show v / u + 1 ≤ z by omega)
    rw [Nat.add_mul, Nat.one_mul] at this
    refine iff_of_true ?_ (Or.inl (by omega))
    rcases hfirst with ⟨_, e⟩ | ⟨_, e⟩ <;> omega
theorem ends_hi {v u : Nat} (hu : 0 < u) {E : Prop} {last : Nat} (hlast : (v % u ≠ 0 ∨ E) ∧ last = v / u ∨ (v % u = 0 ∧ ¬ E) ∧ last + 1 = v / u) (z : Nat) : z ≤ last ↔ (z * u < v ∨ (z * u = v ∧ E)) := by
  have h1 := Nat.div_add_mod v u
  have h2 := Nat.mod_lt v hu
  rw [Nat.mul_comm] at h1
  rcases Nat.lt_trichotomy z (v / u) with h | h | h
  · have := Nat.mul_le_mul_right u (show z + 1 ≤ v / u by omega)
    rw [Nat.add_mul, Nat.one_mul] at this
    refine iff_of_true ?_ (Or.inl (by omega))
    rcases hlast with ⟨_, e⟩ | ⟨_, e⟩ <;> omega
  · subst h
    rcases hlast with ⟨a, e⟩ | ⟨⟨a, b⟩, e⟩
    · refine iff_of_true (by omega) ?_
      rcases a with a | a
      · exact Or.inl (by omega)
      · by_cases q : v % u = 0
        · exact Or.inr ⟨by omega, a⟩
        · exact Or.inl (by omega)
    · refine iff_of_false (by omega) ?_
      rintro (c | ⟨c, d⟩)
      · omega
      · exact b d
  · have := Nat.mul_le_mul_right u (show v / u + 1 ≤ z by omega)
    rw [Nat.add_mul, Nat.one_mul] at this
    refine iff_of_false ?_ ?_
    · rcases hlast with ⟨_, e⟩ | ⟨_, e⟩ <;> omega
    · rintro (a | ⟨a, _⟩) <;> omega
theorem v_find (hf : fmt f te w lp) (hx : x < te * 2 ^ f) (hx0 : 0 < x) {n : Nat} (dig : Int64) (pw used lost : Int32) (lim : Nat → Int64) {cb : Int32} (hcb : cb = if clo f w x then 1 else 0) (hn : 2000 < n) :
    ∃ (p : Int) (D : Nat) (K : Int) (D0 z : Nat) (u l : Int32) (lim' : Nat → Int64), tD 1 p ≤ tM (dM f w x) (dP f w lp x) ∧ tM (dM f w x) (dP f w lp x) < tD 1 (p + 1) ∧ -331 < p ∧ p < 311 ∧ spK f w lp x p 16 2 = some (D, K) ∧ D = D0 * 10 ^ z ∧ D0 % 10 ≠ 0 ∧ F_SD_find n dig pw used lost lim (lN (dM f w x)) (iZ (dP f w lp x)) cb = some (lN D0, iZ (K + z), u, l, lim') := by
  have hb := fmt_b hf
  have hM := dM_b hf x
  have hpos := dM_pos hf hx hx0
  have hq := dP_b2 hf hx
  have hbl := bl_le hM
  have hbp := bl_pos (show dM f w x ≠ 0 by omega)
  have hbg := bl_ge (show dM f w x ≠ 0 by omega)
  have hbt := bl_lt (dM f w x)
  have hpar := dM_par hf x
  -- the highest bit
  have hh1 : -1075 ≤ (bl (dM f w x) : Int) - 1 + dP f w lp x := by omega
  have hh2 : (bl (dM f w x) : Int) - 1 + dP f w lp x < 1025 := by
    have h9 : dP f w lp x ≤ 971 := by
      obtain ⟨g1, g2, g3, g4⟩ := dE_fin hf hx
      unfold dP
      rw [g2]
      rcases hf with ⟨rfl, rfl, rfl, rfl⟩ | ⟨rfl, rfl, rfl, rfl⟩ <;> omega
    omega
  obtain ⟨h, hh⟩ : ∃ h : Int, h = (bl (dM f w x) : Int) - 1 + dP f w lp x := ⟨_, rfl⟩
  rw [← hh] at hh1 hh2
  obtain ⟨L1, L2, L3, L4⟩ := lg_b hh1 hh2
  have La := lg_a hh1 hh2
  obtain ⟨tens, ht⟩ : ∃ tens : Int, tens = 17 - lgt h := ⟨_, rfl⟩
  have hu0 := tD_pos (-tens)
  -- the value between powers of two
  have v1 : tM 1 h ≤ tM (dM f w x) (dP f w lp x) := by
    have e := tM_two (m := 1) (q := dP f w lp x) (j := bl (dM f w x) - 1) (by omega)
    rw [show dP f w lp x + ((bl (dM f w x) - 1 : Nat) : Int) = h by omega, Nat.mul_one] at e
    rw [e, tM_mul, tM_mul (dM f w x)]
    exact Nat.mul_le_mul_right _ hbg
  have v2 : tM (dM f w x) (dP f w lp x) < 2 * tM 1 h := by
    have e := tM_two (m := 1) (q := dP f w lp x) (j := bl (dM f w x) - 1) (by omega)
    rw [show dP f w lp x + ((bl (dM f w x) - 1 : Nat) : Int) = h by omega, Nat.mul_one] at e
    rw [e, tM_mul, tM_mul (2 ^ (bl (dM f w x) - 1)), ← Nat.mul_assoc, ← p2_p hbp]
    exact Nat.mul_lt_mul_of_pos_right hbt (tM_pos _)
  have t17 : tD 1 (lgt h) = 10 ^ 17 * tD 1 (-tens) := by
    have := tD_ten (k := -tens) (j := 17) (by omega)
    rw [show -tens + ((17 : Nat) : Int) = lgt h by omega] at this
    exact this
  have t18 : tD 1 (lgt h + 1) = 10 ^ 18 * tD 1 (-tens) := by
    have := tD_ten (k := -tens) (j := 18) (by omega)
    rw [show -tens + ((18 : Nat) : Int) = lgt h + 1 by omega] at this
    exact this
  have t19 : tD 1 (lgt h + 2) = 10 ^ 19 * tD 1 (-tens) := by
    have := tD_ten (k := -tens) (j := 19) (by omega)
    rw [show -tens + ((19 : Nat) : Int) = lgt h + 2 by omega] at this
    exact this
  have lo := hw_lo hf hx hx0
  have hi := hw_hi hf hx
  have v3 : 10 ^ 17 * tD 1 (-tens) ≤ tM (dM f w x) (dP f w lp x) := by rw [← t17]; omega
  have v4 : tM (dM f w x) (dP f w lp x) < 2 * 10 ^ 18 * tD 1 (-tens) := by rw [Nat.mul_assoc, ← t18]; omega
  have hz := tM_pos (dP f w lp x - 2)
  have hcl : (if clo f w x then 1 else 2) = 1 ∨ (if clo f w x then 1 else 2) = 2 := by split <;> simp
  -- ends against the value
  have hlov : hw f w lp (x - 1) < tM (dM f w x) (dP f w lp x) := by
    rw [lo, hi.2, tM_mul, tM_mul (4 * dM f w x)]
    exact Nat.mul_lt_mul_of_pos_right (by omega) hz
  have hhiv : tM (dM f w x) (dP f w lp x) < hw f w lp x := by
    rw [hi.1, hi.2, tM_mul, tM_mul (4 * dM f w x + 2)]
    exact Nat.mul_lt_mul_of_pos_right (by omega) hz
  have hhi2 : hw f w lp x ≤ 2 * tM (dM f w x) (dP f w lp x) := by
    rw [hi.1, hi.2, tM_mul, tM_mul (4 * dM f w x), ← Nat.mul_assoc]
    exact Nat.mul_le_mul_right _ (by omega)
  -- the floors
  have hWlt : tM (dM f w x) (dP f w lp x) / tD 1 (-tens) < 2 * 10 ^ 18 := (Nat.div_lt_iff_lt_mul hu0).mpr v4
  have hWge : 10 ^ 17 ≤ tM (dM f w x) (dP f w lp x) / tD 1 (-tens) := (Nat.le_div_iff_mul_le hu0).mpr v3
  have hHlt : hw f w lp x / tD 1 (-tens) < 4 * 10 ^ 18 := (Nat.div_lt_iff_lt_mul hu0).mpr (by
    have : 4 * 10 ^ 18 * tD 1 (-tens) = 2 * (2 * 10 ^ 18 * tD 1 (-tens)) := by rw [← Nat.mul_assoc]
    omega)
  have hLle : hw f w lp (x - 1) / tD 1 (-tens) ≤ tM (dM f w x) (dP f w lp x) / tD 1 (-tens) := Nat.div_le_div_right (by omega)
  have hHge : tM (dM f w x) (dP f w lp x) / tD 1 (-tens) ≤ hw f w lp x / tD 1 (-tens) := Nat.div_le_div_right (by omega)
  have c63 : (4 : Nat) * 10 ^ 18 < 2 ^ 62 := by decide
  have hdM : dM f w x < 2 ^ 53 := hM
  have hlg : lgt h = h * 661971961083 / 2199023255552 := rfl
  have hs1 : -1080 ≤ dP f w lp x - 2 + tens := by omega
  have hs2 : dP f w lp x - 2 + tens ≤ 1000 := by omega
  obtain ⟨cc, hcc⟩ : ∃ cc : Nat, cc = if clo f w x then 1 else 2 := ⟨_, rfl⟩
  have hcc2 : cc = 1 ∨ cc = 2 := by rw [hcc]; exact hcl
  rw [← hcc] at lo
  obtain ⟨u1, l1, F1⟩ := v_floor (n := n) (m := 4 * dM f w x - cc) (twos := dP f w lp x - 2) (tens := tens) used lost lim (by omega) hs1 hs2 (by omega) (by omega) (by omega) (by omega) (by rw [← lo]; omega) (by omega)
  rw [← lo] at F1
  obtain ⟨lost1, hl1⟩ : ∃ lo1 : Int32, lo1 = if hw f w lp (x - 1) % tD 1 (-tens) ≠ 0 then 1 else 0 := ⟨_, rfl⟩
  rw [← hl1] at F1
  obtain ⟨u2, l2, F2⟩ := v_floor (n := n) (m := 4 * dM f w x + 2) (twos := dP f w lp x - 2) (tens := tens) u1 lost1 l1 (by omega) hs1 hs2 (by omega) (by omega) (by omega) (by omega) (by rw [← hi.1]; omega) (by omega)
  rw [← hi.1] at F2
  obtain ⟨lost2, hl2⟩ : ∃ lo1 : Int32, lo1 = if hw f w lp x % tD 1 (-tens) ≠ 0 then 1 else 0 := ⟨_, rfl⟩
  rw [← hl2] at F2
  obtain ⟨u3, l3, F3⟩ := v_floor (n := n) (m := 4 * dM f w x) (twos := dP f w lp x - 2) (tens := tens) u2 lost2 l2 (by omega) hs1 hs2 (by omega) (by omega) (by omega) (by omega) (by rw [← hi.2]; omega) (by omega)
  rw [← hi.2] at F3
  obtain ⟨lost3, hl3⟩ : ∃ lo1 : Int32, lo1 = if tM (dM f w x) (dP f w lp x) % tD 1 (-tens) ≠ 0 then 1 else 0 := ⟨_, rfl⟩
  rw [← hl3] at F3
  -- exactness
  have ex : ∀ (P : Prop) [Decidable P], F_BW_isExact (if P then 1 else 0) = if P then 0 else 1 := by
    intro P _
    unfold F_BW_isExact lt_
    by_cases q : P
    · rw [if_pos q, if_pos (show ¬ (1 : Int32) = 0 by decide), if_pos q]
    · rw [if_neg q, if_neg (show ¬ ¬ (0 : Int32) = 0 by decide), if_neg q]
  have i10 : ¬ (1 : Int32) = 0 := by decide
  -- first and last
  obtain ⟨first, hfirst, hfr⟩ : ∃ first : Nat, ((hw f w lp (x - 1) % tD 1 (-tens) ≠ 0 ∨ ¬ x % 2 = 0) ∧ first = hw f w lp (x - 1) / tD 1 (-tens) + 1 ∨ (hw f w lp (x - 1) % tD 1 (-tens) = 0 ∧ x % 2 = 0) ∧ first = hw f w lp (x - 1) / tD 1 (-tens)) ∧ (if F_BW_isExact lost1 = 0 then lN (hw f w lp (x - 1) / tD 1 (-tens)) + 1 else if ¬ (if ¬ lN (x % 2) = 0 then (0 : Int32) else 1) = 0 then lN (hw f w lp (x - 1) / tD 1 (-tens)) else lN (hw f w lp (x - 1) / tD 1 (-tens)) + 1) = lN first := by
    have hz2 : lN (x % 2) = 0 ↔ x % 2 = 0 := lN_z (by omega)
    rw [hl1, ex]
    by_cases q : hw f w lp (x - 1) % tD 1 (-tens) ≠ 0
    · exact ⟨_, Or.inl ⟨Or.inl q, rfl⟩, by rw [if_pos q, if_pos rfl]; exact lN_1 _⟩
    · by_cases e : x % 2 = 0
      · exact ⟨_, Or.inr ⟨⟨by omega, e⟩, rfl⟩, by rw [if_neg q, if_neg i10, if_neg (show ¬ ¬ lN (x % 2) = 0 from fun y => y (hz2.mpr e)), if_pos i10]⟩
      · exact ⟨_, Or.inl ⟨Or.inr e, rfl⟩, by rw [if_neg q, if_neg i10, if_pos (show ¬ lN (x % 2) = 0 from fun y => e (hz2.mp y)), if_neg (show ¬ ¬ (0 : Int32) = 0 by decide)]; exact lN_1 _⟩
  obtain ⟨last, hlast, hla⟩ : ∃ last : Nat, ((hw f w lp x % tD 1 (-tens) ≠ 0 ∨ x % 2 = 0) ∧ last = hw f w lp x / tD 1 (-tens) ∨ (hw f w lp x % tD 1 (-tens) = 0 ∧ ¬ x % 2 = 0) ∧ last + 1 = hw f w lp x / tD 1 (-tens)) ∧ (if F_BW_isExact lost2 = 0 then lN (hw f w lp x / tD 1 (-tens)) else if ¬ (if ¬ lN (x % 2) = 0 then (0 : Int32) else 1) = 0 then lN (hw f w lp x / tD 1 (-tens)) else lN (hw f w lp x / tD 1 (-tens)) - 1) = lN last := by
    have hz2 : lN (x % 2) = 0 ↔ x % 2 = 0 := lN_z (by omega)
    rw [hl2, ex]
    by_cases q : hw f w lp x % tD 1 (-tens) ≠ 0
    · exact ⟨_, Or.inl ⟨Or.inl q, rfl⟩, by rw [if_pos q, if_pos rfl]⟩
    · by_cases e : x % 2 = 0
      · exact ⟨_, Or.inl ⟨Or.inr e, rfl⟩, by rw [if_neg q, if_neg i10, if_neg (show ¬ ¬ lN (x % 2) = 0 from fun y => y (hz2.mpr e)), if_pos i10]⟩
      · refine ⟨hw f w lp x / tD 1 (-tens) - 1, Or.inr ⟨⟨by omega, e⟩, by omega⟩, ?_⟩
        rw [if_neg q, if_neg i10, if_pos (show ¬ lN (x % 2) = 0 from fun y => e (hz2.mp y)), if_neg (show ¬ ¬ (0 : Int32) = 0 by decide), show (1 : Int64) = lN 1 from rfl, lN_sub (by omega)]
  have hfi : ∀ z : Nat, first ≤ z ↔ (hw f w lp (x - 1) < tD z (-tens) ∨ (hw f w lp (x - 1) = tD z (-tens) ∧ x % 2 = 0)) := fun z => by rw [tD_mul z]; exact ends_lo hu0 hfirst z
  have hlas : ∀ z : Nat, z ≤ last ↔ (tD z (-tens) < hw f w lp x ∨ (tD z (-tens) = hw f w lp x ∧ x % 2 = 0)) := fun z => by rw [tD_mul z]; exact ends_hi hu0 hlast z
  have hfb : first < 2 ^ 62 := by rcases hfirst with ⟨_, e⟩ | ⟨_, e⟩ <;> omega
  have hlb : last < 2 ^ 62 := by rcases hlast with ⟨_, e⟩ | ⟨_, e⟩ <;> omega
  -- eighteen digits or nineteen
  obtain ⟨e0, he0, he1, hun, hp1, hp2⟩ : ∃ e0 : Nat, 16 ≤ e0 ∧ e0 ≤ 17 ∧ (if (1000000000000000000 : Int64) ≤ lN (tM (dM f w x) (dP f w lp x) / tD 1 (-tens)) then (100000000000000000 : Int64) else (10000000000000000 : Int64)) = lN (10 ^ e0) ∧ tD 1 ((e0 : Int) + 1 - tens) ≤ tM (dM f w x) (dP f w lp x) ∧ tM (dM f w x) (dP f w lp x) < tD 1 ((e0 : Int) + 1 - tens + 1) := by
    have hc : (1000000000000000000 : Int64) ≤ lN (tM (dM f w x) (dP f w lp x) / tD 1 (-tens)) ↔ 10 ^ 18 ≤ tM (dM f w x) (dP f w lp x) / tD 1 (-tens) := pk_lLE (a := 1000000000000000000) (by decide) (by omega)
    by_cases q : 10 ^ 18 ≤ tM (dM f w x) (dP f w lp x) / tD 1 (-tens)
    · refine ⟨17, by decide, by decide, by rw [if_pos (hc.mpr q)]; rfl, ?_, ?_⟩
      · rw [show ((17 : Nat) : Int) + 1 - tens = lgt h + 1 by omega, t18]
        exact (Nat.le_div_iff_mul_le hu0).mp q
      · rw [show ((17 : Nat) : Int) + 1 - tens + 1 = lgt h + 2 by omega, t19]
        have : 2 * 10 ^ 18 * tD 1 (-tens) ≤ 10 ^ 19 * tD 1 (-tens) := Nat.mul_le_mul_right _ (by decide)
        omega
    · refine ⟨16, by decide, by decide, by rw [if_neg (fun y => q (hc.mp y))]; rfl, ?_, ?_⟩
      · rw [show ((16 : Nat) : Int) + 1 - tens = lgt h by omega, t17]
        exact v3
      · rw [show ((16 : Nat) : Int) + 1 - tens + 1 = lgt h + 1 by omega, t18]
        exact (Nat.div_lt_iff_lt_mul hu0).mp (Nat.lt_of_not_le q)
  obtain ⟨D, K, hsp⟩ := sp17 hf hx hx0 hp1 (by omega) 16 2 (by decide) (by decide)
  obtain ⟨hR, m, hm1, hm2, hK, hDle⟩ := sp_in _ 16 2 D K hsp
  have hDp := isR_pos hR
  have few := few_L (first := first) (last := last) (ex := F_BW_isExact lost3) (D := D) (K := K) e0 he0 he1 rfl (by omega) (by omega) (by omega) hfb hlb rfl (by rw [hl3, ex]) (by omega) hfi hlas hlov hhiv n (fun _ => some (lN (tM (dM f w x) (dP f w lp x) / tD 1 (-tens)))) 16 2 n (by omega) (by omega) (by omega) hsp
  -- the digits, at the scale
  have hKe : K = (((K + tens).toNat : Nat) : Int) - tens := by omega
  have hDs : D * 10 ^ (K + tens).toNat ≤ last := by
    rw [hlas]
    have e1 : tD (D * 10 ^ (K + tens).toNat) (-tens) = tD D K := by
      have := tD_ten (k := -tens) (j := (K + tens).toNat) (by omega)
      rw [show -tens + (((K + tens).toNat : Nat) : Int) = K by omega] at this
      rw [tD_mul, tD_mul D, this, Nat.mul_assoc]
    rw [e1]
    exact hR.2
  have hDp2 : 0 < D * 10 ^ (K + tens).toNat := Nat.mul_pos hDp (Nat.pow_pos (by decide))
  have hll : last ≤ hw f w lp x / tD 1 (-tens) := by rcases hlast with ⟨_, e⟩ | ⟨_, e⟩ <;> omega
  obtain ⟨D1, z1, g1, g2, g3⟩ := v_drop (n := n) (P := -tens) hDp2 (by omega) (by omega) (by omega)
  have hD18 : D < 10 ^ 19 := by
    have := Nat.le_mul_of_pos_right D (show 0 < 10 ^ (K + tens).toNat from Nat.pow_pos (by decide))
    omega
  obtain ⟨D0, z, k1, k2⟩ := strip_ex 19 D hDp hD18
  have hun2 := strip_un z1 (z + (K + tens).toNat) D1 D0 (by rw [← g1, k1, Nat.mul_assoc, ← Nat.pow_add]) g2 k2
  refine ⟨(e0 : Int) + 1 - tens, D, K, D0, z, u3, lost3, l3, hp1, hp2, by omega, by omega, hsp, k1, k2, ?_⟩
  have eH : (63 : Int32) - nI (64 - bl (dM f w x)) + iZ (dP f w lp x) = iZ h := by
    rw [show (63 : Int32) = iZ 63 from rfl, ← iZ_nI, iZ_sub, iZ_add]
    congr 1
    omega
  have eT : (17 : Int32) - iZ (lgt h) = iZ tens := by
    rw [show (17 : Int32) = iZ 17 from rfl, iZ_sub, ht]
  have e4 : lN (dM f w x) * (4 : Int64) = lN (4 * dM f w x) := by rw [show (4 : Int64) = lN 4 from rfl, lN_mul, Nat.mul_comm]
  have eC : (if cb = 0 then (2 : Int32) else 1) = nI cc := by
    rw [hcb, hcc]
    by_cases q : clo f w x
    · rw [if_pos q, if_pos q]; rfl
    · rw [if_neg q, if_neg q]; rfl
  have eS : lN (4 * dM f w x) - (nI cc).toInt64 = lN (4 * dM f w x - cc) := by rw [nI_l (by omega), lN_sub (by omega)]
  have e2 : iZ (dP f w lp x) - (2 : Int32) = iZ (dP f w lp x - 2) := iZ_sub _ 2
  have eP : lN (4 * dM f w x) + (2 : Int64) = lN (4 * dM f w x + 2) := lN_add _ 2
  have e1 : lN (dM f w x) &&& (1 : Int64) = lN (x % 2) := by rw [wb_a1 (by omega), hpar]
  unfold F_SD_find
  rw [v_leadingZeros (by omega) (by omega) (by omega)]
  simp only [Option.bind_some, lt_]
  rw [eH, La, eT, e4, eC, eS, e2, eP, e1, F1]
  simp only [Option.bind_some]
  rw [F2]
  simp only [Option.bind_some]
  rw [F3]
  simp only [Option.bind_some]
  rw [hfr, hla]
  have few2 : F_SD_fewestDigits n (lN (tM (dM f w x) (dP f w lp x) / tD 1 (-tens))) (F_BW_isExact lost3) (lN first) (lN last) = some (lN (D * 10 ^ (K + tens).toNat)) := by
    unfold F_SD_fewestDigits
    simp only [lt_]
    rw [hun]
    exact few
  rw [few2]
  simp only [Option.bind_some]
  rw [iZ_neg, g3]
  simp only [Option.bind_some]
  rw [hun2.1, hun2.2, show -tens + ((z + (K + tens).toNat : Nat) : Int) = K + z by omega]
end FD
