/-! Comparison of rows (reference). -/
abbrev cR : Type := Int32 × Int32 × Int32 × (Nat → Int32) × (Nat → Int32)
theorem cp_L11 (aN bN twos : Int32) (ra rb : Nat → Int32) (a1 : Int64) (x1 : Int32) (j : Int32 → Int32 → (Nat → Int32) → (Nat → Int32) → Option cR) (m : Nat) (ha : aN = nI m) (hm : m ≤ 520) (l r : Int32) (rr : Nat → Int32) : ∀ (t k n : Nat) (f : Nat → Int32), k + t = m → t < n → (∀ i, i < k → f i = ra i) → ∃ f' : Nat → Int32, F_Rs_compare_L11 aN bN twos ra rb a1 x1 j n (nI k) l r f rr = j l r f' rr ∧ (∀ i, i < m → f' i = ra i) := by
  intro t
  subst ha
  induction t with
  | zero =>
    intro k n f hk hn hf
    obtain rfl : k = m := by omega
    obtain ⟨n, rfl⟩ : ∃ k, n = k + 1 := ⟨n - 1, by omega⟩
    exact ⟨f, if_pos (Int32.le_refl _), hf⟩
  | succ t ih =>
    intro k n f hk hn hf
    obtain ⟨n, rfl⟩ : ∃ k, n = k + 1 := ⟨n - 1, by omega⟩
    have e : F_Rs_compare_L11 (nI m) bN twos ra rb a1 x1 j (n + 1) (nI k) l r f rr = F_Rs_compare_L11 (nI m) bN twos ra rb a1 x1 j n (nI (k + 1)) l r (upd f k (ra k)) rr := by
      show (if nI m ≤ nI k then j l r f rr else gz_ (nI k < 0 ∨ 520 ≤ (nI k).toNatClampNeg) (gz_ (nI k < 0 ∨ 520 ≤ (nI k).toNatClampNeg) (F_Rs_compare_L11 (nI m) bN twos ra rb a1 x1 j n (nI k + 1) l r (upd f (nI k).toNatClampNeg (ra (nI k).toNatClampNeg)) rr))) = _
      rw [if_neg (nI_ge (by omega) (by omega)), gzf (nI_in (by omega) (by decide)), gzf (nI_in (by omega) (by decide)), nI_clamp (by omega), nI_1]
    rw [e]
    refine ih (k + 1) n (upd f k (ra k)) (by omega) (by omega) (fun i hi => ?_)
    by_cases z : i = k
    · subst z; exact pk_us
    · rw [pk_un z]; exact hf i (by omega)
theorem nI_sub_sgn {a b : Nat} (ha : a < 65536) (hb : b < 65536) : (nI a - nI b < 0 ↔ a < b) ∧ (0 < nI a - nI b ↔ b < a) ∧ (nI a - nI b = 0 ↔ a = b) := by
  have h := pk_sub_toInt (a := a) (b := b) (by omega) (by omega)
  have h0 : (0 : Int32).toInt = 0 := by decide
  rw [Int32.lt_iff_toInt_lt, Int32.lt_iff_toInt_lt, ← Int32.toInt_inj, h, h0]
  omega
/-- the rows below place t tell which of the two is greater -/
theorem cp_L156 (aN bN twos : Int32) (ra rb : Nat → Int32) (l r : Int32) (f g : Nat → Int32) : ∀ (t n : Nat), t ≤ 520 → t < n → rok f t → rok g t →
    ∃ c : Int32, F_Rs_compare_L156 aN bN twos ra rb (fun l r f g => some ((0 : Int32), l, r, f, g)) (fun (y21 : Int32) (lN__22 : Int32) (rN_23 : Int32) (rleft_24 : (Nat → Int32)) (rright_25 : (Nat → Int32)) => gz_ (y21 < 0 ∨ 520 ≤ (y21).toNatClampNeg) <| gz_ (y21 < 0 ∨ 520 ≤ (y21).toNatClampNeg) <| some ((rleft_24 (y21).toNatClampNeg) - (rright_25 (y21).toNatClampNeg), lN__22, rN_23, rleft_24, rright_25)) n (nI t - 1) l r f g = some (c, l, r, f, g) ∧ (c < 0 ↔ rV f t < rV g t) ∧ (0 < c ↔ rV g t < rV f t) := by
  intro t
  induction t with
  | zero =>
    intro n _ hn _ _
    obtain ⟨n, rfl⟩ : ∃ k, n = k + 1 := ⟨n - 1, by omega⟩
    exact ⟨0, if_pos (by decide), iff_of_false (by decide) (Nat.lt_irrefl _), iff_of_false (by decide) (Nat.lt_irrefl _)⟩
  | succ t ih =>
    intro n ht hn hf hg
    obtain ⟨n, rfl⟩ : ∃ k, n = k + 1 := ⟨n - 1, by omega⟩
    obtain ⟨d, hd, ed⟩ := hf t (by omega)
    obtain ⟨d', hd', ed'⟩ := hg t (by omega)
    have hF := rV_lt (rok_le hf (show t ≤ t + 1 by omega))
    have hG := rV_lt (rok_le hg (show t ≤ t + 1 by omega))
    have e : ∀ j200 j178, F_Rs_compare_L156 aN bN twos ra rb j200 j178 (n + 1) (nI (t + 1) - 1) l r f g = (if f t = g t then F_Rs_compare_L156 aN bN twos ra rb j200 j178 n (nI t - 1) l r f g else j178 (nI t) l r f g) := by
      intro j200 j178
      rw [nI_pred]
      show (if nI t < 0 then j200 l r f g else gz_ (nI t < 0 ∨ 520 ≤ (nI t).toNatClampNeg) (gz_ (nI t < 0 ∨ 520 ≤ (nI t).toNatClampNeg) (if f (nI t).toNatClampNeg = g (nI t).toNatClampNeg then F_Rs_compare_L156 aN bN twos ra rb j200 j178 n (nI t + -1) l r f g else j178 (nI t) l r f g))) = _
      rw [if_neg (nI_pos (by omega)), gzf (nI_in (by omega) (by decide)), gzf (nI_in (by omega) (by decide)), nI_clamp (by omega), Int32.sub_eq_add_neg]
    rw [e]
    rw [rV_s, rV_s, ed, ed', nI_cl hd, nI_cl hd']
    by_cases z : d = d'
    · subst z
      rw [if_pos rfl]
      obtain ⟨c, c1, c2, c3⟩ := ih n (by omega) (by omega) (rok_le hf (by omega)) (rok_le hg (by omega))
      exact ⟨c, c1, by rw [c2]; omega, by rw [c3]; omega⟩
    · have hs := nI_sub_sgn hd hd'
      rw [if_neg (fun q => z ((nI_eq (by omega) (by omega)).mp q))]
      refine ⟨nI d - nI d', ?_, ?_, ?_⟩
      · show gz_ (nI t < 0 ∨ 520 ≤ (nI t).toNatClampNeg) (gz_ (nI t < 0 ∨ 520 ≤ (nI t).toNatClampNeg) (some (f (nI t).toNatClampNeg - g (nI t).toNatClampNeg, l, r, f, g))) = _
        rw [gzf (nI_in (by omega) (by decide)), gzf (nI_in (by omega) (by decide)), nI_clamp (by omega), ed, ed']
      · rw [hs.1]
        constructor
        · intro h
          have := Nat.mul_le_mul_right (65536 ^ t) (show d + 1 ≤ d' by omega)
          rw [Nat.add_mul] at this
          omega
        · intro h
          by_cases y : d < d'
          · exact y
          · have := Nat.mul_le_mul_right (65536 ^ t) (show d' + 1 ≤ d by omega)
            rw [Nat.add_mul] at this
            omega
      · rw [hs.2.1]
        constructor
        · intro h
          have := Nat.mul_le_mul_right (65536 ^ t) (show d' + 1 ≤ d by omega)
          rw [Nat.add_mul] at this
          omega
        · intro h
          by_cases y : d' < d
          · exact y
          · have := Nat.mul_le_mul_right (65536 ^ t) (show d + 1 ≤ d' by omega)
            rw [Nat.add_mul] at this
            omega
theorem cp_end (n : Nat) (aN bN twos : Int32) (ra rb : Nat → Int32) {f g : Nat → Int32} {p q L R : Nat} (hf : rH f p L) (hg : rH g q R) (hp : p ≤ 520) (hq : q ≤ 520) (hn : 521 < n) :
    ∃ c : Int32, (if nI p = nI q then (lt_ (nI p - (1 : Int32)) fun x16 => lt_ (fun (lN__17 : Int32) (rN_18 : Int32) (rleft_19 : (Nat → Int32)) (rright_20 : (Nat → Int32)) => some ((0 : Int32), lN__17, rN_18, rleft_19, rright_20)) fun j200 => lt_ (fun (y21 : Int32) (lN__22 : Int32) (rN_23 : Int32) (rleft_24 : (Nat → Int32)) (rright_25 : (Nat → Int32)) => gz_ (y21 < 0 ∨ 520 ≤ (y21).toNatClampNeg) <| gz_ (y21 < 0 ∨ 520 ≤ (y21).toNatClampNeg) <| some ((rleft_24 (y21).toNatClampNeg) - (rright_25 (y21).toNatClampNeg), lN__22, rN_23, rleft_24, rright_25)) fun j178 => F_Rs_compare_L156 aN bN twos ra rb j200 j178 n x16 (nI p) (nI q) f g) else (some (nI p - nI q, nI p, nI q, f, g))) = some (c, nI p, nI q, f, g) ∧ (c < 0 ↔ L < R) ∧ (0 < c ↔ R < L) := by
  by_cases z : p = q
  · subst z
    rw [if_pos rfl]
    obtain ⟨c, h1, h2, h3⟩ := cp_L156 aN bN twos ra rb (nI p) (nI p) f g p n hp (by omega) hf.1 hg.1
    rw [hf.2.2, hg.2.2] at h2 h3
    exact ⟨c, h1, h2, h3⟩
  · rw [if_neg (fun y => z ((nI_eq (by omega) (by omega)).mp y))]
    have hs := nI_sub_sgn (a := p) (b := q) (by omega) (by omega)
    refine ⟨_, rfl, ?_, ?_⟩
    · rw [hs.1]
      constructor
      · intro h
        exact Nat.lt_of_lt_of_le (rH_lt hf) (Nat.le_trans (p16_le (by omega)) (rH_ge hg (by omega)))
      · intro h
        by_cases y : p < q
        · exact y
        · have := Nat.lt_of_lt_of_le (rH_lt hg) (Nat.le_trans (p16_le (show q ≤ p - 1 by omega)) (rH_ge hf (by omega)))
          omega
    · rw [hs.2.1]
      constructor
      · intro h
        exact Nat.lt_of_lt_of_le (rH_lt hg) (Nat.le_trans (p16_le (by omega)) (rH_ge hf (by omega)))
      · intro h
        by_cases y : q < p
        · exact y
        · have := Nat.lt_of_lt_of_le (rH_lt hf) (Nat.le_trans (p16_le (show p ≤ q - 1 by omega)) (rH_ge hg (by omega)))
          omega
theorem rH_zero {f : Nat → Int32} {v : Nat} (h : rH f 0 v) : v = 0 := h.2.2.symm
theorem iZ_pos {a : Int} (h0 : 0 ≤ a) : iZ a = nI a.toNat := by
  have : a = ((a.toNat : Nat) : Int) := by omega
  rw [this, iZ_nI]
  rfl
theorem v_compare {ra rb : Nat → Int32} {am bm A B M n : Nat} {T Q : Int} (lN_ rN : Int32) (rleft rright : Nat → Int32) (ha : rH ra am A) (hb : rH rb bm B) (hM : M < 2 ^ 62) (hd1 : -5000 < T - Q) (hd2 : T - Q < 5000) (hT1 : -3000 < T) (hT2 : T < 3000) (hQ1 : -3000 < Q) (hQ2 : Q < 3000)
    (hA : A * 2 ^ (T - Q).toNat < 65536 ^ 500) (hB : B * M * 2 ^ (Q - T).toNat < 65536 ^ 500) (hB' : B < 65536 ^ 500) (hn : 2000 < n) :
    ∃ (c l r : Int32) (f g : Nat → Int32), F_Rs_compare n (nI am) (nI bm) lN_ rN (iZ T) ra rb rleft rright (lN M) (iZ Q) = some (c, l, r, f, g) ∧ (c < 0 ↔ A * 2 ^ (T - Q).toNat < B * M * 2 ^ (Q - T).toNat) ∧ (0 < c ↔ B * M * 2 ^ (Q - T).toNat < A * 2 ^ (T - Q).toNat) := by
  have hA0 : A < 65536 ^ 500 := Nat.lt_of_le_of_lt (Nat.le_mul_of_pos_right A (p2_pos (T - Q).toNat)) hA
  have hB0 : B * M < 65536 ^ 500 := Nat.lt_of_le_of_lt (Nat.le_mul_of_pos_right (B * M) (p2_pos (Q - T).toNat)) hB
  have ham := rH_le ha hA0
  have hbm := rH_le hb hB'
  have w500 : ∀ x : Nat, x < 65536 ^ 500 → x < 65536 ^ 519 := fun x h => Nat.lt_of_lt_of_le h (p16_le (by decide))
  obtain ⟨tm, tf, t1, t2⟩ := v_times (n := n) rright hb (by omega) hM (by omega)
  have htm := rH_le t2 hB0
  -- the row on the right
  have right : ∀ (y l r : Int32) (f0 : Nat → Int32) (p L : Nat), y = nI p → rH f0 p L → p ≤ 520 → 
      ∃ (c l' r' : Int32) (f g : Nat → Int32), (lt_ (fun (lN__12 : Int32) (rN_13 : Int32) (rleft_14 : (Nat → Int32)) (rright_15 : (Nat → Int32)) => if lN__12 = rN_13 then (lt_ (lN__12 - (1 : Int32)) fun x16 => lt_ (fun (lN__17 : Int32) (rN_18 : Int32) (rleft_19 : (Nat → Int32)) (rright_20 : (Nat → Int32)) => some ((0 : Int32), lN__17, rN_18, rleft_19, rright_20)) fun j200 => lt_ (fun (y21 : Int32) (lN__22 : Int32) (rN_23 : Int32) (rleft_24 : (Nat → Int32)) (rright_25 : (Nat → Int32)) => gz_ (y21 < 0 ∨ 520 ≤ (y21).toNatClampNeg) <| gz_ (y21 < 0 ∨ 520 ≤ (y21).toNatClampNeg) <| some ((rleft_24 (y21).toNatClampNeg) - (rright_25 (y21).toNatClampNeg), lN__22, rN_23, rleft_24, rright_25)) fun j178 => F_Rs_compare_L156 (nI am) (nI bm) (iZ T) ra rb j200 j178 n x16 lN__12 rN_13 rleft_14 rright_15) else (some (lN__12 - rN_13, lN__12, rN_13, rleft_14, rright_15))) fun j127 => if 0 ≤ iZ T - iZ Q then (j127 y (nI tm) f0 tf) else (if nI tm ≤ 0 then (j127 y (nI tm) f0 tf) else ((F_Rs_shifted n tf (nI tm) (-(iZ T - iZ Q))).bind fun x32 => j127 y x32.1 f0 x32.2))) = some (c, l', r', f, g) ∧ (c < 0 ↔ L < B * M * 2 ^ (Q - T).toNat) ∧ (0 < c ↔ B * M * 2 ^ (Q - T).toNat < L) := by
    intro y l r f0 p L hy h0 hp
    subst hy
    simp only [lt_]
    rw [iZ_sub]
    by_cases hz : 0 ≤ T - Q
    · rw [if_pos (show (0 : Int32) ≤ iZ (T - Q) from (iZ_le (a := 0) (by omega) (by omega) (by omega) (by omega)).mpr hz)]
      rw [show (Q - T).toNat = 0 by omega, Nat.pow_zero, Nat.mul_one]
      obtain ⟨c, c1, c2, c3⟩ := cp_end n (nI am) (nI bm) (iZ T) ra rb h0 t2 hp (by omega) (by omega)
      exact ⟨c, _, _, _, _, c1, c2, c3⟩
    · rw [if_neg (show ¬ (0 : Int32) ≤ iZ (T - Q) from fun q => hz ((iZ_le (a := 0) (by omega) (by omega) (by omega) (by omega)).mp q))]
      by_cases hm : tm = 0
      · subst hm
        have hv := rH_zero t2
        rw [if_pos (by decide), hv, Nat.zero_mul]
        rw [hv] at t2
        obtain ⟨c, c1, c2, c3⟩ := cp_end n (nI am) (nI bm) (iZ T) ra rb h0 t2 hp (by omega) (by omega)
        exact ⟨c, _, _, _, _, c1, c2, c3⟩
      · rw [if_neg (nI_nle (by omega) (by omega)), iZ_neg, show -(T - Q) = Q - T by omega, iZ_pos (by omega)]
        obtain ⟨sm, sf, s1, s2⟩ := v_shifted (n := n) t2 (by omega) (s := (Q - T).toNat) (by omega) (w500 _ hB) (by omega)
        have hsm := rH_le s2 hB
        rw [s1]
        obtain ⟨c, c1, c2, c3⟩ := cp_end n (nI am) (nI bm) (iZ T) ra rb h0 s2 hp (by omega) (by omega)
        exact ⟨c, _, _, _, _, c1, c2, c3⟩
  -- the row on the left
  have left : ∀ f0 : Nat → Int32, (∀ i, i < am → f0 i = ra i) → ∃ (c l' r' : Int32) (f g : Nat → Int32), (lt_ (fun (y6 : Int32) (lN__7 : Int32) (rN_8 : Int32) (rleft_9 : (Nat → Int32)) (rright_10 : (Nat → Int32)) => (F_Rs_times n rb rright_10 (nI bm) (lN M)).bind fun x11 => lt_ (fun (lN__12 : Int32) (rN_13 : Int32) (rleft_14 : (Nat → Int32)) (rright_15 : (Nat → Int32)) => if lN__12 = rN_13 then (lt_ (lN__12 - (1 : Int32)) fun x16 => lt_ (fun (lN__17 : Int32) (rN_18 : Int32) (rleft_19 : (Nat → Int32)) (rright_20 : (Nat → Int32)) => some ((0 : Int32), lN__17, rN_18, rleft_19, rright_20)) fun j200 => lt_ (fun (y21 : Int32) (lN__22 : Int32) (rN_23 : Int32) (rleft_24 : (Nat → Int32)) (rright_25 : (Nat → Int32)) => gz_ (y21 < 0 ∨ 520 ≤ (y21).toNatClampNeg) <| gz_ (y21 < 0 ∨ 520 ≤ (y21).toNatClampNeg) <| some ((rleft_24 (y21).toNatClampNeg) - (rright_25 (y21).toNatClampNeg), lN__22, rN_23, rleft_24, rright_25)) fun j178 => F_Rs_compare_L156 (nI am) (nI bm) (iZ T) ra rb j200 j178 n x16 lN__12 rN_13 rleft_14 rright_15) else (some (lN__12 - rN_13, lN__12, rN_13, rleft_14, rright_15))) fun j127 => if 0 ≤ iZ T - iZ Q then (j127 y6 x11.1 rleft_9 x11.2) else (if x11.1 ≤ 0 then (j127 y6 x11.1 rleft_9 x11.2) else ((F_Rs_shifted n x11.2 x11.1 (-(iZ T - iZ Q))).bind fun x32 => j127 y6 x32.1 rleft_9 x32.2))) fun j73 => lt_ (fun (lN__33 : Int32) (rN_34 : Int32) (rleft_35 : (Nat → Int32)) (rright_36 : (Nat → Int32)) => j73 (nI am) lN__33 rN_34 rleft_35 rright_36) fun j69 => if iZ T - iZ Q ≤ 0 then (j69 lN_ rN f0 rright) else (if nI am ≤ 0 then (j69 lN_ rN f0 rright) else ((F_Rs_shifted n f0 (nI am) (iZ T - iZ Q)).bind fun x37 => j73 x37.1 lN_ rN x37.2 rright))) = some (c, l', r', f, g) ∧ (c < 0 ↔ A * 2 ^ (T - Q).toNat < B * M * 2 ^ (Q - T).toNat) ∧ (0 < c ↔ B * M * 2 ^ (Q - T).toNat < A * 2 ^ (T - Q).toNat) := by
    intro f0 hf0
    have h0 : rH f0 am A := ⟨rok_congr (fun k hk => (hf0 k hk).symm) ha.1, fun h => by rw [hf0 (am - 1) (by omega)]; exact ha.2.1 h, by rw [rV_congr hf0]; exact ha.2.2⟩
    by_cases hz : T - Q ≤ 0
    · have e1 : iZ T - iZ Q ≤ 0 := by rw [iZ_sub]; exact (iZ_le (b := 0) (by omega) (by omega) (by omega) (by omega)).mpr hz
      obtain ⟨c, l', r', f, g, c1, c2, c3⟩ := right (nI am) lN_ rN f0 am A rfl h0 (by omega)
      rw [show (T - Q).toNat = 0 by omega, Nat.pow_zero, Nat.mul_one]
      refine ⟨c, l', r', f, g, ?_, c2, c3⟩
      simp only [lt_] at c1 ⊢
      rw [if_pos e1, t1]
      exact c1
    · have e1 : ¬ iZ T - iZ Q ≤ 0 := by rw [iZ_sub]; exact fun q => hz ((iZ_le (b := 0) (by omega) (by omega) (by omega) (by omega)).mp q)
      by_cases hm : am = 0
      · subst hm
        have hv := rH_zero h0
        rw [hv] at h0
        obtain ⟨c, l', r', f, g, c1, c2, c3⟩ := right (nI 0) lN_ rN f0 0 0 rfl h0 (by omega)
        rw [hv, Nat.zero_mul]
        refine ⟨c, l', r', f, g, ?_, c2, c3⟩
        simp only [lt_] at c1 ⊢
        rw [if_neg e1, if_pos (show nI 0 ≤ 0 by decide), t1]
        exact c1
      · obtain ⟨sm, sf, s1, s2⟩ := v_shifted (n := n) h0 (by omega) (s := (T - Q).toNat) (by omega) (w500 _ hA) (by omega)
        have hsm := rH_le s2 hA
        obtain ⟨c, l', r', f, g, c1, c2, c3⟩ := right (nI sm) lN_ rN sf sm _ rfl s2 (by omega)
        refine ⟨c, l', r', f, g, ?_, c2, c3⟩
        rw [show iZ T - iZ Q = nI (T - Q).toNat by rw [iZ_sub, iZ_pos (by omega)]] at c1 e1 ⊢
        simp only [lt_] at c1 ⊢
        rw [if_neg e1, if_neg (nI_nle (show 0 < am by omega) (by omega)), s1]
        simp only [Option.bind_some]
        rw [t1]
        exact c1
  obtain ⟨f0, a1, a2⟩ := cp_L11 (nI am) (nI bm) (iZ T) ra rb (lN M) (iZ T - iZ Q) _ am rfl (by omega) lN_ rN rright am 0 n rleft (by omega) (by omega) (fun i hi => by omega)
  obtain ⟨c, l', r', f, g, c1, c2, c3⟩ := left f0 a2
  exact ⟨c, l', r', f, g, Eq.trans (Eq.trans (b := F_Rs_compare_L11 (nI am) (nI bm) (iZ T) ra rb (lN M) (iZ T - iZ Q) _ n (nI 0) lN_ rN rleft rright) rfl a1) c1, c2, c3⟩
