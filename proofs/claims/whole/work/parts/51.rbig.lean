/-! Rows of limbs of 16 bits (reference): values, trimming, growing. -/
theorem gzf {β : Type} {c : Prop} [Decidable c] {f : Option β} (h : ¬ c) : gz_ c f = f := if_neg h
def rV (f : Nat → Int32) : Nat → Nat
  | 0 => 0
  | n + 1 => rV f n + (f n).toNatClampNeg * 65536 ^ n
def rok (f : Nat → Int32) (n : Nat) : Prop := ∀ k, k < n → ∃ d : Nat, d < 65536 ∧ f k = nI d
theorem rok_le {f : Nat → Int32} {n m : Nat} (h : rok f n) (hm : m ≤ n) : rok f m := fun k hk => h k (by omega)
theorem nI_cl {d : Nat} (h : d < 65536) : (nI d).toNatClampNeg = d := nI_clamp (by omega)
theorem p16_s (n : Nat) : 65536 ^ (n + 1) = 65536 * 65536 ^ n := by rw [Nat.pow_succ, Nat.mul_comm]
theorem p16_pos (n : Nat) : 0 < 65536 ^ n := Nat.pow_pos (by decide)
theorem p16_le {a b : Nat} (h : a ≤ b) : 65536 ^ a ≤ 65536 ^ b := Nat.pow_le_pow_right (by decide) h
theorem p16_lt {a b : Nat} (h : 65536 ^ a < 65536 ^ b) : a < b := (Nat.pow_lt_pow_iff_right (by decide)).mp h
theorem rV_s (f : Nat → Int32) (n : Nat) : rV f (n + 1) = rV f n + (f n).toNatClampNeg * 65536 ^ n := rfl
theorem rV_lt {f : Nat → Int32} {n : Nat} (h : rok f n) : rV f n < 65536 ^ n := by
  induction n with
  | zero => exact Nat.one_pos
  | succ n ih =>
    obtain ⟨d, hd, e⟩ := h n (by omega)
    have h1 := ih (rok_le h (by omega))
    rw [rV_s, e, nI_cl hd, p16_s]
    have h2 := Nat.mul_le_mul_right (65536 ^ n) (show d + 1 ≤ 65536 by omega)
    rw [Nat.add_mul] at h2
    omega
theorem rV_congr {f g : Nat → Int32} {n : Nat} (h : ∀ k, k < n → f k = g k) : rV f n = rV g n := by
  induction n with
  | zero => rfl
  | succ n ih => rw [rV_s, rV_s, ih (fun k hk => h k (by omega)), h n (by omega)]
theorem rok_congr {f g : Nat → Int32} {n : Nat} (h : ∀ k, k < n → f k = g k) (hf : rok f n) : rok g n := fun k hk => by
  rw [← h k hk]; exact hf k hk
theorem rV_upd {f : Nat → Int32} {n k : Nat} {x : Int32} (h : n ≤ k) : rV (upd f k x) n = rV f n := rV_congr (fun i hi => pk_un (by omega))
theorem rok_upd {f : Nat → Int32} {n k d : Nat} (h : rok f n) (hd : d < 65536) : rok (upd f k (nI d)) n := fun i hi => by
  by_cases e : i = k
  · subst e; exact ⟨d, hd, pk_us⟩
  · rw [pk_un e]; exact h i hi
theorem rok_s {f : Nat → Int32} {n d : Nat} (h : rok f n) (hd : d < 65536) : rok (upd f n (nI d)) (n + 1) := fun i hi => by
  by_cases e : i = n
  · subst e; exact ⟨d, hd, pk_us⟩
  · rw [pk_un e]; exact h i (by omega)
theorem rV_us {f : Nat → Int32} {n d : Nat} (hd : d < 65536) : rV (upd f n (nI d)) (n + 1) = rV f n + d * 65536 ^ n := by
  rw [rV_s, rV_upd (Nat.le_refl n), pk_us, nI_cl hd]
/-- a row without zeros on top: the count is told by the value -/
def rtr (f : Nat → Int32) (m : Nat) : Prop := 0 < m → f (m - 1) ≠ 0
theorem rtr_ge {f : Nat → Int32} {m : Nat} (h : rok f m) (ht : rtr f m) (hm : 0 < m) : 65536 ^ (m - 1) ≤ rV f m := by
  obtain ⟨k, rfl⟩ : ∃ k, m = k + 1 := ⟨m - 1, by omega⟩
  have h1 := ht hm
  obtain ⟨d, hd, e⟩ := h k (by omega)
  rw [Nat.add_sub_cancel] at h1 ⊢
  have h2 : d ≠ 0 := fun z => h1 (by rw [e, z]; rfl)
  rw [rV_s, e, nI_cl hd]
  have h3 := Nat.mul_le_mul_right (65536 ^ k) (show 1 ≤ d by omega)
  omega
theorem rtr_le {f : Nat → Int32} {m b : Nat} (h : rok f m) (ht : rtr f m) (hb : rV f m < 65536 ^ b) : m ≤ b := by
  by_cases hm : 0 < m
  · have := p16_lt (Nat.lt_of_le_of_lt (rtr_ge h ht hm) hb)
    omega
  · omega
theorem trim_L (f : Nat → Int32) (j : Int32 → Option Int32) : ∀ (m n : Nat), m ≤ 520 → m < n → ∃ m' : Nat, m' ≤ m ∧ F_Rs_trimmed_L2 f j n (nI m) = j (nI m') ∧ rV f m' = rV f m ∧ rtr f m' := by
  intro m
  induction m with
  | zero =>
    intro n _ hn
    obtain ⟨n, rfl⟩ : ∃ k, n = k + 1 := ⟨n - 1, by omega⟩
    exact ⟨0, Nat.le_refl _, if_pos (by decide), rfl, fun h => absurd h (by decide)⟩
  | succ m ih =>
    intro n hm hn
    obtain ⟨n, rfl⟩ : ∃ k, n = k + 1 := ⟨n - 1, by omega⟩
    have e : F_Rs_trimmed_L2 f j (n + 1) (nI (m + 1)) = (if ¬ f m = 0 then j (nI (m + 1)) else F_Rs_trimmed_L2 f j n (nI m)) := by
      show (if nI (m + 1) ≤ 0 then j (nI (m + 1)) else gz_ (nI (m + 1) - 1 < 0 ∨ 520 ≤ (nI (m + 1) - 1).toNatClampNeg) (if ¬ f ((nI (m + 1) - 1).toNatClampNeg) = 0 then j (nI (m + 1)) else F_Rs_trimmed_L2 f j n (nI (m + 1) + -1))) = _
      rw [if_neg (nI_nle (by omega) (by omega)), nI_pred, gzf (nI_in (by omega) (by decide)), nI_clamp (by omega), pk_m1]
    rw [e]
    by_cases h : f m = 0
    · rw [if_neg (fun z => z h)]
      obtain ⟨m', h1, h2, h3, h4⟩ := ih n (by omega) (by omega)
      refine ⟨m', by omega, h2, ?_, h4⟩
      rw [h3, rV_s, h]
      exact (Nat.zero_mul _).symm ▸ rfl
    · rw [if_pos h]
      exact ⟨m + 1, Nat.le_refl _, rfl, rfl, fun _ => h⟩
theorem v_trim (f : Nat → Int32) {m n : Nat} (hm : m ≤ 520) (hn : 521 < n) : ∃ m' : Nat, m' ≤ m ∧ F_Rs_trimmed n f (nI m) = some (nI m') ∧ rV f m' = rV f m ∧ rtr f m' := trim_L f (fun y => some y) m n hm (by omega)
/-- the limb and what is carried on -/
theorem limb {x : Nat} (h : x < 2 ^ 62) : (lN x &&& (65535 : Int64)).toInt32 = nI (x % 65536) ∧ lN x >>> ((16 : Int32).toInt64 &&& 63) = lN (x / 65536) := by
  constructor
  · have e : lN x &&& (65535 : Int64) = lN (x % 2 ^ 16) := wb_mask (k := 16) (by omega) (by decide)
    rw [e, lN_i]
  · exact pf_shr (d := 16) (by decide) h
theorem grow_L (j : Int64 → (Nat → Int32) → Option (Int32 × (Nat → Int32))) (m by' : Nat) (hm : m ≤ 520) (hb : by' ≤ 65536) : ∀ (t k n : Nat) (c : Nat) (f : Nat → Int32), k + t = m → t < n → c < 65536 → rok f m → ∃ (c' : Nat) (f' : Nat → Int32), F_Rs_grow_L7 (nI m) (nI by') j n (lN c) (nI k) f = j (lN c') f' ∧ c' < 65536 ∧ rok f' m ∧ (∀ i, m ≤ i → f' i = f i) ∧ (∀ i, i < k → f' i = f i) ∧ rV f' m + c' * 65536 ^ m + rV f k * by' = rV f' k + c * 65536 ^ k + rV f m * by' := by
  intro t
  induction t with
  | zero =>
    intro k n c f hk hn hc hf
    obtain rfl : k = m := by omega
    obtain ⟨n, rfl⟩ : ∃ k, n = k + 1 := ⟨n - 1, by omega⟩
    exact ⟨c, f, if_pos (Int32.le_refl _), hc, hf, fun _ _ => rfl, fun _ _ => rfl, rfl⟩
  | succ t ih =>
    intro k n c f hk hn hc hf
    obtain ⟨n, rfl⟩ : ∃ k, n = k + 1 := ⟨n - 1, by omega⟩
    obtain ⟨d, hd, ed⟩ := hf k (by omega)
    have hx : d * by' + c < 65536 * 65536 := by
      have := Nat.mul_le_mul (show d ≤ 65535 by omega) hb
      omega
    have e : F_Rs_grow_L7 (nI m) (nI by') j (n + 1) (lN c) (nI k) f = F_Rs_grow_L7 (nI m) (nI by') j n (lN ((d * by' + c) / 65536)) (nI (k + 1)) (upd f k (nI ((d * by' + c) % 65536))) := by
      show (if nI m ≤ nI k then j (lN c) f else gz_ (nI k < 0 ∨ 520 ≤ (nI k).toNatClampNeg) (gz_ (nI k < 0 ∨ 520 ≤ (nI k).toNatClampNeg) (F_Rs_grow_L7 (nI m) (nI by') j n ((((f (nI k).toNatClampNeg).toInt64 * (nI by').toInt64) + lN c) >>> ((16 : Int32).toInt64 &&& 63)) (nI k + 1) (upd f (nI k).toNatClampNeg (((((f (nI k).toNatClampNeg).toInt64 * (nI by').toInt64) + lN c) &&& 65535).toInt32))))) = _
      rw [if_neg (nI_ge (by omega) (by omega)), gzf (nI_in (by omega) (by decide)), gzf (nI_in (by omega) (by decide)), nI_clamp (by omega), ed, nI_l (by omega), nI_l (by omega), lN_mul, lN_add, (limb (by omega)).1, (limb (by omega)).2, nI_1]
    rw [e]
    have hq : (d * by' + c) % 65536 < 65536 := Nat.mod_lt _ (by decide)
    obtain ⟨c', f', h1, h2, h3, h4, h5, h6⟩ := ih (k + 1) n ((d * by' + c) / 65536) (upd f k (nI ((d * by' + c) % 65536))) (by omega) (by omega) (by omega) (rok_upd hf hq)
    refine ⟨c', f', h1, h2, h3, fun i hi => ?_, fun i hi => ?_, ?_⟩
    · rw [h4 i hi, pk_un (by omega)]
    · rw [h5 i (by omega), pk_un (by omega)]
    · have a1 : rV f' (k + 1) = rV f' k + (d * by' + c) % 65536 * 65536 ^ k := by
        rw [rV_s, h5 k (by omega), pk_us, nI_cl hq]
      have a2 : ∀ u, rV (upd f k (nI u)) m + (f k).toNatClampNeg * 65536 ^ k = rV f m + (nI u).toNatClampNeg * 65536 ^ k := by
        intro u
        have : ∀ q, k < q → rV (upd f k (nI u)) q + (f k).toNatClampNeg * 65536 ^ k = rV f q + (nI u).toNatClampNeg * 65536 ^ k := by
          intro q
          induction q with
          | zero => intro h; omega
          | succ q ihq =>
            intro h
            by_cases hq : k = q
            · subst hq
              rw [rV_s, rV_s, rV_upd (Nat.le_refl _), pk_us]
              omega
            · have := ihq (by omega)
              rw [rV_s, rV_s, pk_un (fun z => hq z.symm)]
              omega
        exact this m (by omega)
      have a3 := a2 ((d * by' + c) % 65536)
      have a4 : rV (upd f k (nI ((d * by' + c) % 65536))) (k + 1) = rV f k + (d * by' + c) % 65536 * 65536 ^ k := rV_us hq
      rw [a4, a1] at h6
      rw [ed, nI_cl hd, nI_cl hq] at a3
      have a5 : (d * by' + c) / 65536 * 65536 ^ (k + 1) + (d * by' + c) % 65536 * 65536 ^ k = (d * by' + c) * 65536 ^ k := by
        rw [p16_s, ← Nat.mul_assoc, ← Nat.add_mul]
        congr 1
        omega
      rw [Nat.add_mul] at a5
      have a6 : (rV (upd f k (nI ((d * by' + c) % 65536))) m + d * 65536 ^ k) * by' = (rV f m + (d * by' + c) % 65536 * 65536 ^ k) * by' := by rw [a3]
      rw [Nat.add_mul, Nat.add_mul] at a6
      rw [Nat.add_mul] at h6
      have a7 : d * 65536 ^ k * by' = d * by' * 65536 ^ k := by rw [Nat.mul_right_comm]
      rw [a7] at a6
      generalize rV (upd f k (nI ((d * by' + c) % 65536))) m * by' = X1 at *
      generalize rV f m * by' = X2 at *
      generalize (d * by' + c) % 65536 * 65536 ^ k * by' = X3 at *
      generalize (d * by' + c) % 65536 * 65536 ^ k = X4 at *
      generalize (d * by' + c) / 65536 * 65536 ^ (k + 1) = X5 at *
      generalize d * by' * 65536 ^ k = X6 at *
      omega
theorem v_grow {f : Nat → Int32} {m by' more n : Nat} (hm : m < 520) (hb : by' ≤ 65536) (hmo : more < 65536) (hn : 522 < n) (hf : rok f m) : ∃ (m' : Nat) (f' : Nat → Int32), F_Rs_grow n f (nI m) (nI by') (nI more) = some (nI m', f') ∧ m' ≤ m + 1 ∧ rok f' m' ∧ rtr f' m' ∧ rV f' m' = rV f m * by' + more := by
  obtain ⟨c', f', h1, h2, h3, h4, h5, h6⟩ := grow_L (fun (y2 : Int64) (f0_3 : (Nat → Int32)) => gz_ (nI m < 0 ∨ 520 ≤ (nI m).toNatClampNeg) <| lt_ (upd f0_3 (nI m).toNatClampNeg ((y2).toInt32)) fun f0_4 => (F_Rs_trimmed n f0_4 (nI m + (1 : Int32))).bind fun x5 => some (x5, f0_4)) m by' (by omega) hb m 0 n more f (by omega) (by omega) hmo hf
  have e : F_Rs_grow n f (nI m) (nI by') (nI more) = (F_Rs_trimmed n (upd f' m (nI c')) (nI (m + 1))).bind fun x5 => some (x5, upd f' m (nI c')) := by
    refine Eq.trans (b := F_Rs_grow_L7 (nI m) (nI by') _ n ((nI more).toInt64) (nI 0) f) rfl ?_
    rw [nI_l (by omega)]
    refine Eq.trans h1 ?_
    show gz_ (nI m < 0 ∨ 520 ≤ (nI m).toNatClampNeg) (lt_ (upd f' (nI m).toNatClampNeg (lN c').toInt32) _) = _
    rw [gzf (nI_in (by omega) (by decide)), nI_clamp (by omega), lN_i, nI_1]
    rfl
  obtain ⟨m', g1, g2, g3, g4⟩ := v_trim (upd f' m (nI c')) (m := m + 1) (n := n) (by omega) (by omega)
  refine ⟨m', upd f' m (nI c'), by rw [e, g2]; rfl, g1, rok_le (rok_s h3 h2) g1, g4, ?_⟩
  rw [g3, rV_us h2]
  have : rV f 0 = 0 := rfl
  have q : rV f' 0 = 0 := rfl
  rw [this, q, Nat.zero_mul, Nat.pow_zero] at h6
  omega
theorem fives_L (j : Int32 → (Nat → Int32) → Option (Int32 × (Nat → Int32))) (cnt : Nat) (hc : cnt < 1000) : ∀ (t k n m : Nat) (f : Nat → Int32), k + t = cnt → t + 600 < n → m < 520 → rok f m → rtr f m → rV f m * 5 ^ t < 65536 ^ 519 → ∃ (m' : Nat) (f' : Nat → Int32), F_Rs_fives_L5 (nI cnt) j n (nI m) (nI k) f = j (nI m') f' ∧ m' < 520 ∧ rok f' m' ∧ rtr f' m' ∧ rV f' m' = rV f m * 5 ^ t := by
  intro t
  induction t with
  | zero =>
    intro k n m f hk hn hm hf ht hv
    obtain rfl : k = cnt := by omega
    obtain ⟨n, rfl⟩ : ∃ k, n = k + 1 := ⟨n - 1, by omega⟩
    exact ⟨m, f, if_pos (Int32.le_refl _), hm, hf, ht, (Nat.mul_one _).symm⟩
  | succ t ih =>
    intro k n m f hk hn hm hf ht hv
    obtain ⟨n, rfl⟩ : ∃ k, n = k + 1 := ⟨n - 1, by omega⟩
    obtain ⟨m1, f1, g1, g2, g3, g4, g5⟩ := v_grow (by' := 5) (more := 0) (n := n) hm (by decide) (by decide) (by omega) hf
    have e : F_Rs_fives_L5 (nI cnt) j (n + 1) (nI m) (nI k) f = F_Rs_fives_L5 (nI cnt) j n (nI m1) (nI (k + 1)) f1 := by
      show (if nI cnt ≤ nI k then j (nI m) f else (F_Rs_grow n f (nI m) 5 0).bind fun x6 => F_Rs_fives_L5 (nI cnt) j n x6.1 (nI k + 1) x6.2) = _
      rw [if_neg (nI_ge (by omega) (by omega)), show (5 : Int32) = nI 5 from rfl, show (0 : Int32) = nI 0 from rfl, g1, ← nI_1]
      rfl
    have e5 : rV f1 m1 * 5 ^ t = rV f m * 5 ^ (t + 1) := by rw [g5, Nat.add_zero, Nat.pow_succ, Nat.mul_assoc, Nat.mul_comm 5]
    have hb : rV f1 m1 < 65536 ^ 519 := Nat.lt_of_le_of_lt (Nat.le_mul_of_pos_right (rV f1 m1) (show 0 < 5 ^ t from Nat.pow_pos (by decide))) (by rw [e5]; exact hv)
    have hm1 := rtr_le g3 g4 hb
    obtain ⟨m', f', r1, r2, r3, r4, r5⟩ := ih (k + 1) n m1 f1 (by omega) (by omega) (by omega) g3 g4 (by rw [e5]; exact hv)
    exact ⟨m', f', by rw [e, r1], r2, r3, r4, by rw [r5, e5]⟩
theorem v_fives {f : Nat → Int32} {m cnt n : Nat} (hm : m < 520) (hc : cnt < 1000) (hn : 1600 < n) (hf : rok f m) (ht : rtr f m) (hv : rV f m * 5 ^ cnt < 65536 ^ 519) : ∃ (m' : Nat) (f' : Nat → Int32), F_Rs_fives n f (nI m) (nI cnt) = some (nI m', f') ∧ m' < 520 ∧ rok f' m' ∧ rtr f' m' ∧ rV f' m' = rV f m * 5 ^ cnt := fives_L (fun y1 f0_2 => some (y1, f0_2)) cnt hc cnt 0 n m f (by omega) (by omega) hm hf ht hv
