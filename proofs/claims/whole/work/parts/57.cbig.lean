/-! Rows of limbs of 32 bits (class). -/
def cV (f : Nat → Int64) : Nat → Nat
  | 0 => 0
  | n + 1 => cV f n + (f n).toBitVec.toNat * 4294967296 ^ n
def cok (f : Nat → Int64) (n : Nat) : Prop := ∀ k, k < n → ∃ d : Nat, d < 4294967296 ∧ f k = lN d
theorem cok_le {f : Nat → Int64} {n m : Nat} (h : cok f n) (hm : m ≤ n) : cok f m := fun k hk => h k (by omega)
theorem lN_cl {d : Nat} (h : d < 4294967296) : (lN d).toBitVec.toNat = d := wb_tn (by omega)
theorem p32_s (n : Nat) : 4294967296 ^ (n + 1) = 4294967296 * 4294967296 ^ n := by rw [Nat.pow_succ, Nat.mul_comm]
theorem p32_pos (n : Nat) : 0 < 4294967296 ^ n := Nat.pow_pos (by decide)
theorem p32_le {a b : Nat} (h : a ≤ b) : 4294967296 ^ a ≤ 4294967296 ^ b := Nat.pow_le_pow_right (by decide) h
theorem p32_2 (n : Nat) : 4294967296 ^ n = 2 ^ (32 * n) := by rw [Nat.pow_mul]
theorem cV_s (f : Nat → Int64) (n : Nat) : cV f (n + 1) = cV f n + (f n).toBitVec.toNat * 4294967296 ^ n := rfl
theorem cV_lt {f : Nat → Int64} {n : Nat} (h : cok f n) : cV f n < 4294967296 ^ n := by
  induction n with
  | zero => exact Nat.one_pos
  | succ n ih =>
    obtain ⟨d, hd, e⟩ := h n (by omega)
    have h1 := ih (cok_le h (by omega))
    rw [cV_s, e, lN_cl hd, p32_s]
    have h2 := Nat.mul_le_mul_right (4294967296 ^ n) (show d + 1 ≤ 4294967296 by omega)
    rw [Nat.add_mul] at h2
    omega
theorem cV_congr {f g : Nat → Int64} {n : Nat} (h : ∀ k, k < n → f k = g k) : cV f n = cV g n := by
  induction n with
  | zero => rfl
  | succ n ih => rw [cV_s, cV_s, ih (fun k hk => h k (by omega)), h n (by omega)]
theorem cV_upd {f : Nat → Int64} {n k : Nat} {x : Int64} (h : n ≤ k) : cV (vp_updL f k x) n = cV f n := cV_congr (fun i hi => pk_uLn (by omega))
theorem cok_upd {f : Nat → Int64} {n k d : Nat} (h : cok f n) (hd : d < 4294967296) : cok (vp_updL f k (lN d)) n := fun i hi => by
  by_cases e : i = k
  · subst e; exact ⟨d, hd, pk_uLs⟩
  · rw [pk_uLn e]; exact h i hi
theorem cok_s {f : Nat → Int64} {n d : Nat} (h : cok f n) (hd : d < 4294967296) : cok (vp_updL f n (lN d)) (n + 1) := fun i hi => by
  by_cases e : i = n
  · subst e; exact ⟨d, hd, pk_uLs⟩
  · rw [pk_uLn e]; exact h i (by omega)
theorem cV_us {f : Nat → Int64} {n d : Nat} (hd : d < 4294967296) : cV (vp_updL f n (lN d)) (n + 1) = cV f n + d * 4294967296 ^ n := by
  rw [cV_s, cV_upd (Nat.le_refl n), pk_uLs, lN_cl hd]
theorem cV_at {f : Nat → Int64} {p : Nat} {y : Int64} : ∀ {q : Nat}, p < q → cV (vp_updL f p y) q + (f p).toBitVec.toNat * 4294967296 ^ p = cV f q + y.toBitVec.toNat * 4294967296 ^ p := by
  intro q
  induction q with
  | zero => intro h; omega
  | succ q ihq =>
    intro h
    by_cases hq : p = q
    · subst hq
      rw [cV_s, cV_s, cV_upd (Nat.le_refl _), pk_uLs]
      omega
    · have := ihq (by omega)
      rw [cV_s, cV_s, pk_uLn (fun z => hq z.symm)]
      omega
/-! placing -/
theorem m32 (x : Nat) (hx : x < 2 ^ 64) : lN x &&& (4294967295 : Int64) = lN (x % 4294967296) := wb_mask (k := 32) hx (by decide)
theorem v_slice {v s i : Nat} (hv : v < 2 ^ 63) (hs : s < 2000) (hi : i < 100) : F_BW_slice (lN v) (nI i * 32 - nI s) = lN (v * 2 ^ s / 4294967296 ^ i % 4294967296) := by
  have e0 : nI i * (32 : Int32) - nI s = iZ ((32 * i : Nat) - (s : Int)) := by
    rw [show (32 : Int32) = nI 32 from rfl, pk_mul, ← iZ_nI, ← iZ_nI, iZ_sub]
    congr 1
    omega
  rw [e0, p32_2]
  unfold F_BW_slice
  simp only [lt_]
  by_cases h1 : ((32 * i : Nat) : Int) - (s : Int) ≤ -32
  · rw [if_pos (show iZ (((32 * i : Nat) : Int) - s) ≤ (-32 : Int32) by rw [show (-32 : Int32) = iZ (-32) by decide]; exact (iZ_le (by omega) (by omega) (by omega) (by omega)).mpr h1)]
    have : v * 2 ^ s / 2 ^ (32 * i) % 4294967296 = 0 := by
      rw [show s = 32 * i + (32 + (s - 32 * i - 32)) by omega, Nat.pow_add, Nat.mul_left_comm, Nat.mul_div_cancel_left _ (p2_pos _), Nat.pow_add, ← Nat.mul_assoc, Nat.mul_comm v, Nat.mul_assoc]
      exact Nat.mul_mod_right _ _
    rw [this]
    rfl
  · rw [if_neg (show ¬ iZ (((32 * i : Nat) : Int) - s) ≤ (-32 : Int32) by rw [show (-32 : Int32) = iZ (-32) by decide]; exact fun q => h1 ((iZ_le (by omega) (by omega) (by omega) (by omega)).mp q))]
    by_cases h2 : ((32 * i : Nat) : Int) - (s : Int) ≤ 63
    · rw [if_pos (show iZ (((32 * i : Nat) : Int) - s) ≤ (63 : Int32) by rw [show (63 : Int32) = iZ 63 by decide]; exact (iZ_le (by omega) (by omega) (by omega) (by omega)).mpr h2)]
      by_cases h3 : 0 ≤ ((32 * i : Nat) : Int) - (s : Int)
      · rw [if_pos (show (0 : Int32) ≤ iZ (((32 * i : Nat) : Int) - s) from (iZ_le (a := 0) (by omega) (by omega) (by omega) (by omega)).mpr h3), iZ_pos h3, wb_shr (by omega) (by omega), m32 _ (Nat.lt_of_le_of_lt (Nat.div_le_self _ _) (by omega))]
        congr 2
        rw [show 32 * i = s + (((32 * i : Nat) : Int) - (s : Int)).toNat by omega, Nat.pow_add, ← Nat.div_div_eq_div_mul, Nat.mul_div_cancel _ (p2_pos s)]
        congr 2
        omega
      · rw [if_neg (show ¬ (0 : Int32) ≤ iZ (((32 * i : Nat) : Int) - s) from fun q => h3 ((iZ_le (a := 0) (by omega) (by omega) (by omega) (by omega)).mp q)), iZ_neg, iZ_pos (by omega), wb_shl _ (by omega)]
        rw [wb_mod (v * _), m32 _ (Nat.mod_lt _ (by decide))]
        congr 1
        rw [Nat.mod_mod_of_dvd _ (by decide)]
        congr 1
        rw [show s = 32 * i + (-(((32 * i : Nat) : Int) - (s : Int))).toNat by omega, Nat.pow_add, Nat.mul_left_comm, Nat.mul_div_cancel_left _ (p2_pos _)]
        congr 2
        omega
    · rw [if_neg (show ¬ iZ (((32 * i : Nat) : Int) - s) ≤ (63 : Int32) by rw [show (63 : Int32) = iZ 63 by decide]; exact fun q => h2 ((iZ_le (by omega) (by omega) (by omega) (by omega)).mp q))]
      have : v * 2 ^ s / 2 ^ (32 * i) = 0 := by
        refine Nat.div_eq_of_lt ?_
        have a : v * 2 ^ s < 2 ^ 63 * 2 ^ s := Nat.mul_lt_mul_of_pos_right hv (p2_pos s)
        rw [← Nat.pow_add] at a
        exact Nat.lt_of_lt_of_le a (p2_le (by omega))
      rw [this]
      rfl
theorem cV_dig {f : Nat → Int64} {X : Nat} : ∀ {m : Nat}, (∀ k, k < m → f k = lN (X / 4294967296 ^ k % 4294967296)) → cV f m = X % 4294967296 ^ m := by
  intro m
  induction m with
  | zero => intro _; exact (Nat.mod_one X).symm
  | succ m ih =>
    intro h
    rw [cV_s, ih (fun k hk => h k (by omega)), h m (by omega), lN_cl (Nat.mod_lt _ (by decide)), Nat.pow_succ, Nat.mod_mul, Nat.mul_comm (4294967296 ^ m)]
theorem place_L (j) (v s u : Nat) (hv : v < 2 ^ 63) (hs : s < 2000) (hu : u ≤ 36) : ∀ (t k n : Nat) (f : Nat → Int64), k + t = u → t < n → ∃ f' : Nat → Int64, F_BW_place_L21 (lN v) (nI s) j n (nI k) (nI u) f = j (nI u) f' ∧ (∀ i, i < k → f' i = f i) ∧ (∀ i, k ≤ i → i < u → f' i = lN (v * 2 ^ s / 4294967296 ^ i % 4294967296)) := by
  intro t
  induction t with
  | zero =>
    intro k n f hk hn
    obtain rfl : k = u := by omega
    obtain ⟨n, rfl⟩ : ∃ k, n = k + 1 := ⟨n - 1, by omega⟩
    exact ⟨f, if_pos (Int32.le_refl _), fun _ _ => rfl, fun i h1 h2 => by omega⟩
  | succ t ih =>
    intro k n f hk hn
    obtain ⟨n, rfl⟩ : ∃ k, n = k + 1 := ⟨n - 1, by omega⟩
    have e : F_BW_place_L21 (lN v) (nI s) j (n + 1) (nI k) (nI u) f = F_BW_place_L21 (lN v) (nI s) j n (nI (k + 1)) (nI u) (vp_updL f k (lN (v * 2 ^ s / 4294967296 ^ k % 4294967296))) := by
      show (if nI u ≤ nI k then j (nI u) f else gz_ (nI k < 0 ∨ 36 ≤ (nI k).toNatClampNeg) (F_BW_place_L21 (lN v) (nI s) j n (nI k + 1) (nI u) (vp_updL f (nI k).toNatClampNeg (F_BW_slice (lN v) ((nI k * (32 : Int32)) - nI s))))) = _
      rw [if_neg (nI_ge (by omega) (by omega)), gzf (nI_in (by omega) (by decide)), nI_clamp (by omega), v_slice hv hs (by omega), nI_1]
    obtain ⟨f', h1, h2, h3⟩ := ih (k + 1) n (vp_updL f k (lN (v * 2 ^ s / 4294967296 ^ k % 4294967296))) (by omega) (by omega)
    refine ⟨f', by rw [e, h1], fun i hi => ?_, fun i hi hiu => ?_⟩
    · rw [h2 i (by omega), pk_uLn (by omega)]
    · by_cases z : i = k
      · subst z
        rw [h2 i (by omega), pk_uLs]
      · exact h3 i (by omega) hiu
/-- a row that holds v -/
def cH (f : Nat → Int64) (m v : Nat) : Prop := m ≤ 36 ∧ cok f m ∧ cV f m = v
theorem v_place {v s n : Nat} (used : Int32) (lim : Nat → Int64) (hv : v < 2 ^ 63) (hs : s ≤ 1088) (hn : 100 < n) : ∃ (u : Nat) (f : Nat → Int64), F_BW_place n used lim (lN v) (nI s) = some (nI u, f) ∧ cH f u (v * 2 ^ s) := by
  have e1 : (nI s + (63 : Int32)) / (32 : Int32) + (1 : Int32) = nI ((s + 63) / 32 + 1) := by
    rw [show (63 : Int32) = nI 63 from rfl, nI_add, show (32 : Int32) = nI 32 from rfl, pk_div (by omega) (by decide) (by decide), nI_1]
  have hu : (s + 63) / 32 + 1 ≤ 36 := by omega
  have hn' : ¬ (36 : Int32) < nI ((s + 63) / 32 + 1) := nI_nlt (a := 36) (by omega) (by decide)
  obtain ⟨f', h1, -, h3⟩ := place_L (fun (used_2 : Int32) (lim_3 : (Nat → Int64)) => some (used_2, lim_3)) v s ((s + 63) / 32 + 1) hv (by omega) hu ((s + 63) / 32 + 1) 0 n lim (by omega) (by omega)
  refine ⟨(s + 63) / 32 + 1, f', ?_, hu, fun k hk => ⟨_, Nat.mod_lt _ (by decide), h3 k (by omega) hk⟩, ?_⟩
  · unfold F_BW_place
    simp only [lt_]
    rw [e1, if_neg hn']
    exact h1
  · rw [cV_dig (fun k hk => h3 k (by omega) hk)]
    refine Nat.mod_eq_of_lt ?_
    have a : v * 2 ^ s < 2 ^ 63 * 2 ^ s := Nat.mul_lt_mul_of_pos_right hv (p2_pos s)
    rw [← Nat.pow_add] at a
    rw [p32_2]
    exact Nat.lt_of_lt_of_le a (p2_le (by omega))
/-! times -/
theorem mul_L (j) (by' u : Nat) (hb : by' < 2 ^ 31) (hu : u ≤ 36) : ∀ (t k n c : Nat) (f : Nat → Int64), k + t = u → t < n → c < 2 ^ 31 → cok f u → ∃ (c' : Nat) (f' : Nat → Int64), F_BW_multiply_L5 (lN by') j n (lN c) (nI k) (nI u) f = j (lN c') (nI u) f' ∧ c' < 2 ^ 31 ∧ cok f' u ∧ (∀ i, i < k → f' i = f i) ∧ cV f' u + c' * 4294967296 ^ u + cV f k * by' = cV f' k + c * 4294967296 ^ k + cV f u * by' := by
  intro t
  induction t with
  | zero =>
    intro k n c f hk hn hc hf
    obtain rfl : k = u := by omega
    obtain ⟨n, rfl⟩ : ∃ k, n = k + 1 := ⟨n - 1, by omega⟩
    exact ⟨c, f, if_pos (Int32.le_refl _), hc, hf, fun _ _ => rfl, rfl⟩
  | succ t ih =>
    intro k n c f hk hn hc hf
    obtain ⟨n, rfl⟩ : ∃ k, n = k + 1 := ⟨n - 1, by omega⟩
    obtain ⟨d, hd, ed⟩ := hf k (by omega)
    have hx : d * by' + c < 4294967296 * 2 ^ 31 := by
      have := Nat.mul_le_mul (show d ≤ 4294967295 by omega) (show by' ≤ 2147483647 by omega)
      omega
    have e : F_BW_multiply_L5 (lN by') j (n + 1) (lN c) (nI k) (nI u) f = F_BW_multiply_L5 (lN by') j n (lN ((d * by' + c) / 4294967296)) (nI (k + 1)) (nI u) (vp_updL f k (lN ((d * by' + c) % 4294967296))) := by
      show (if nI u ≤ nI k then j (lN c) (nI u) f else gz_ (nI k < 0 ∨ 36 ≤ (nI k).toNatClampNeg) (gz_ (nI k < 0 ∨ 36 ≤ (nI k).toNatClampNeg) (F_BW_multiply_L5 (lN by') j n ((((f (nI k).toNatClampNeg * lN by') + lN c).toUInt64 >>> (((32 : Int32)).toInt64.toUInt64 &&& Int64.toUInt64 63)).toInt64) (nI k + 1) (nI u) (vp_updL f (nI k).toNatClampNeg (((f (nI k).toNatClampNeg * lN by') + lN c) &&& 4294967295))))) = _
      rw [if_neg (nI_ge (by omega) (by omega)), gzf (nI_in (by omega) (by decide)), gzf (nI_in (by omega) (by decide)), nI_clamp (by omega), ed, lN_mul, lN_add, m32 _ (by omega), show (32 : Int32) = nI 32 from rfl, wb_shr (by omega) (by decide), nI_1]
    rw [e]
    have hq : (d * by' + c) % 4294967296 < 4294967296 := Nat.mod_lt _ (by decide)
    obtain ⟨c', f', h1, h2, h3, h5, h6⟩ := ih (k + 1) n ((d * by' + c) / 4294967296) (vp_updL f k (lN ((d * by' + c) % 4294967296))) (by omega) (by omega) (by omega) (cok_upd hf hq)
    refine ⟨c', f', h1, h2, h3, fun i hi => ?_, ?_⟩
    · rw [h5 i (by omega), pk_uLn (by omega)]
    · have a1 : cV f' (k + 1) = cV f' k + (d * by' + c) % 4294967296 * 4294967296 ^ k := by
        rw [cV_s, h5 k (by omega), pk_uLs, lN_cl hq]
      have a3 := cV_at (f := f) (p := k) (y := lN ((d * by' + c) % 4294967296)) (q := u) (by omega)
      have a4 : cV (vp_updL f k (lN ((d * by' + c) % 4294967296))) (k + 1) = cV f k + (d * by' + c) % 4294967296 * 4294967296 ^ k := cV_us hq
      rw [a4, a1] at h6
      rw [ed, lN_cl hd, lN_cl hq] at a3
      have a5 : (d * by' + c) / 4294967296 * 4294967296 ^ (k + 1) + (d * by' + c) % 4294967296 * 4294967296 ^ k = (d * by' + c) * 4294967296 ^ k := by
        rw [p32_s, ← Nat.mul_assoc, ← Nat.add_mul]
        congr 1
        omega
      rw [Nat.add_mul] at a5
      have a6 : (cV (vp_updL f k (lN ((d * by' + c) % 4294967296))) u + d * 4294967296 ^ k) * by' = (cV f u + (d * by' + c) % 4294967296 * 4294967296 ^ k) * by' := by rw [a3]
      rw [Nat.add_mul, Nat.add_mul] at a6
      rw [Nat.add_mul] at h6
      have a7 : d * 4294967296 ^ k * by' = d * by' * 4294967296 ^ k := by rw [Nat.mul_right_comm]
      rw [a7] at a6
      generalize cV (vp_updL f k (lN ((d * by' + c) % 4294967296))) u * by' = X1 at *
      generalize cV f u * by' = X2 at *
      generalize (d * by' + c) % 4294967296 * 4294967296 ^ k * by' = X3 at *
      generalize (d * by' + c) % 4294967296 * 4294967296 ^ k = X4 at *
      generalize (d * by' + c) / 4294967296 * 4294967296 ^ (k + 1) = X5 at *
      generalize d * by' * 4294967296 ^ k = X6 at *
      omega
theorem v_multiply {f : Nat → Int64} {u v by' n : Nat} (hf : cH f u v) (hb : by' < 2 ^ 31) (hv : v * by' < 4294967296 ^ 36) (hn : 100 < n) : ∃ (u' : Nat) (f' : Nat → Int64), F_BW_multiply n (nI u) f (lN by') = some (nI u', f') ∧ cH f' u' (v * by') := by
  obtain ⟨c', f', h1, h2, h3, h5, h6⟩ := mul_L (fun (y1 : Int64) (used_2 : Int32) (lim_3 : (Nat → Int64)) => lt_ (fun (used_4 : Int32) (lim_5 : (Nat → Int64)) => some (used_4, lim_5)) fun j87 => if y1 = (0 : Int64) then (j87 used_2 lim_3) else (if (36 : Int32) ≤ used_2 then (j87 used_2 lim_3) else (gz_ (used_2 < 0 ∨ 36 ≤ (used_2).toNatClampNeg) <| lt_ (vp_updL lim_3 (used_2).toNatClampNeg y1) fun lim_6 => lt_ (used_2 + (1 : Int32)) fun x7 => j87 x7 lim_6))) by' u hb hf.1 u 0 n 0 f (by omega) (by have := hf.1; omega) (by decide) hf.2.1
  have hu := hf.1
  rw [show cV f 0 = 0 from rfl, show cV f' 0 = 0 from rfl, Nat.zero_mul, Nat.zero_mul, hf.2.2] at h6
  have e : F_BW_multiply n (nI u) f (lN by') = (if lN c' = (0 : Int64) then some (nI u, f') else (if (36 : Int32) ≤ nI u then some (nI u, f') else (gz_ (nI u < 0 ∨ 36 ≤ (nI u).toNatClampNeg) (some (nI u + 1, vp_updL f' (nI u).toNatClampNeg (lN c')))))) := by
    refine Eq.trans (b := F_BW_multiply_L5 (lN by') _ n (lN 0) (nI 0) (nI u) f) rfl (h1.trans ?_)
    rfl
  have hz : lN c' = 0 ↔ c' = 0 := lN_z (by omega)
  by_cases z : c' = 0
  · rw [e, if_pos (hz.mpr z)]
    refine ⟨u, f', rfl, hu, h3, ?_⟩
    rw [z] at h6
    omega
  · have hu36 : u < 36 := by
      by_cases q : u < 36
      · exact q
      · exfalso
        obtain rfl : u = 36 := by omega
        have := Nat.le_mul_of_pos_left (4294967296 ^ 36) (show 0 < c' by omega)
        omega
    rw [e, if_neg (fun q => z (hz.mp q)), if_neg (show ¬ (36 : Int32) ≤ nI u from nI_ge (b := 36) hu36 (by decide)), gzf (nI_in hu36 (by decide)), nI_clamp (by omega), nI_1]
    refine ⟨u + 1, vp_updL f' u (lN c'), rfl, by omega, cok_s h3 (by omega), ?_⟩
    rw [cV_us (by omega)]
    omega
/-! over -/
theorem div_L17 (j) (by' m : Nat) (hb0 : 0 < by') (hb : by' < 2 ^ 31) (U L : Int32) : ∀ (t n r : Nat) (f : Nat → Int64), t ≤ 36 → t < n → r < by' → cok f t → ∃ (r' : Nat) (f' : Nat → Int64), F_BW_divide_L17 (lN by') j n (lN r) (nI t - 1) U L f = j (lN r') U L f' ∧ r' < by' ∧ cok f' t ∧ (∀ i, t ≤ i → f' i = f i) ∧ cV f t + r * 4294967296 ^ t = cV f' t * by' + r' := by
  intro t
  induction t with
  | zero =>
    intro n r f _ hn hr _
    obtain ⟨n, rfl⟩ : ∃ k, n = k + 1 := ⟨n - 1, by omega⟩
    refine ⟨r, f, if_pos (by decide), hr, fun k hk => by omega, fun _ _ => rfl, ?_⟩
    rw [show cV f 0 = 0 from rfl, Nat.pow_zero]
    omega
  | succ t ih =>
    intro n r f ht hn hr hf
    obtain ⟨n, rfl⟩ : ∃ k, n = k + 1 := ⟨n - 1, by omega⟩
    obtain ⟨d, hd, ed⟩ := hf t (by omega)
    have hx : r * 4294967296 + d < by' * 4294967296 := by
      have := Nat.mul_le_mul_right 4294967296 (show r + 1 ≤ by' by omega)
      omega
    have hx2 : by' * 4294967296 ≤ 2 ^ 31 * 4294967296 := Nat.mul_le_mul_right _ (by omega)
    have hq : (r * 4294967296 + d) / by' < 4294967296 := Nat.div_lt_of_lt_mul hx
    have hor : (lN r <<< (((32 : Int32)).toInt64 &&& 63)) ||| lN d = lN (r * 4294967296 + d) := by
      rw [show (32 : Int32) = nI 32 from rfl, wb_shl r (by decide), Int64.or_comm, Nat.add_comm]
      exact g_or' (k := 32) (p := 4294967296) (by decide) hd (by omega)
    have nz : ¬ lN by' = 0 := fun z => by have := (lN_z (by omega)).mp z; omega
    have e : F_BW_divide_L17 (lN by') j (n + 1) (lN r) (nI (t + 1) - 1) U L f = F_BW_divide_L17 (lN by') j n (lN ((r * 4294967296 + d) % by')) (nI t - 1) U L (vp_updL f t (lN ((r * 4294967296 + d) / by'))) := by
      rw [nI_pred]
      show (if nI t < 0 then j (lN r) U L f else gz_ (nI t < 0 ∨ 36 ≤ (nI t).toNatClampNeg) (lt_ ((lN r <<< (((32 : Int32)).toInt64 &&& 63)) ||| f (nI t).toNatClampNeg) fun x19 => gz_ (lN by' = 0) (gz_ (nI t < 0 ∨ 36 ≤ (nI t).toNatClampNeg) (gz_ (lN by' = 0) (F_BW_divide_L17 (lN by') j n (x19 - x19 / lN by' * lN by') (nI t + -1) U L (vp_updL f (nI t).toNatClampNeg (x19 / lN by'))))))) = _
      simp only [lt_]
      rw [if_neg (nI_pos (by omega)), gzf (nI_in (by omega) (by decide)), gzf nz, gzf (nI_in (by omega) (by decide)), gzf nz, nI_clamp (by omega), ed, hor, pk_lRem (by omega) hb0 (by omega), pk_lDiv (by omega) hb0 (by omega), Int32.sub_eq_add_neg]
    rw [e]
    obtain ⟨r', f', h1, h2, h3, h4, h5⟩ := ih n ((r * 4294967296 + d) % by') (vp_updL f t (lN ((r * 4294967296 + d) / by'))) (by omega) (by omega) (Nat.mod_lt _ hb0) (cok_le (cok_upd hf hq) (by omega))
    have et : f' t = lN ((r * 4294967296 + d) / by') := by rw [h4 t (Nat.le_refl _), pk_uLs]
    refine ⟨r', f', h1, h2, fun k hk => ?_, fun i hi => ?_, ?_⟩
    · by_cases z : k = t
      · subst z
        exact ⟨_, hq, et⟩
      · exact h3 k (by omega)
    · rw [h4 i (by omega), pk_uLn (by omega)]
    · rw [cV_upd (Nat.le_refl _)] at h5
      rw [cV_s, cV_s, ed, lN_cl hd, et, lN_cl hq, p32_s]
      have a1 := Nat.div_add_mod (r * 4294967296 + d) by'
      have a2 : (r * 4294967296 + d) * 4294967296 ^ t = (by' * ((r * 4294967296 + d) / by') + (r * 4294967296 + d) % by') * 4294967296 ^ t := by rw [a1]
      rw [Nat.add_mul, Nat.add_mul] at a2
      rw [Nat.add_mul]
      have a3 : r * (4294967296 * 4294967296 ^ t) = r * 4294967296 * 4294967296 ^ t := (Nat.mul_assoc _ _ _).symm
      have a4 : by' * ((r * 4294967296 + d) / by') * 4294967296 ^ t = (r * 4294967296 + d) / by' * 4294967296 ^ t * by' := by
        rw [Nat.mul_comm by', Nat.mul_right_comm]
      rw [a3]
      rw [a4] at a2
      generalize (r * 4294967296 + d) / by' * 4294967296 ^ t * by' = X1 at *
      generalize (r * 4294967296 + d) % by' * 4294967296 ^ t = X2 at *
      generalize r * 4294967296 * 4294967296 ^ t = X3 at *
      generalize d * 4294967296 ^ t = X4 at *
      omega
theorem div_L80 (j) (L : Int32) (f : Nat → Int64) : ∀ (t n : Nat), t ≤ 36 → t < n → ∃ t' : Nat, t' ≤ t ∧ F_BW_divide_L80 j n (nI t) L f = j (nI t') L f ∧ cV f t' = cV f t := by
  intro t
  induction t with
  | zero =>
    intro n _ hn
    obtain ⟨n, rfl⟩ : ∃ k, n = k + 1 := ⟨n - 1, by omega⟩
    exact ⟨0, Nat.le_refl _, if_pos (by decide), rfl⟩
  | succ t ih =>
    intro n ht hn
    obtain ⟨n, rfl⟩ : ∃ k, n = k + 1 := ⟨n - 1, by omega⟩
    have e : F_BW_divide_L80 j (n + 1) (nI (t + 1)) L f = (if ¬ f t = 0 then j (nI (t + 1)) L f else F_BW_divide_L80 j n (nI t) L f) := by
      show (if nI (t + 1) ≤ 0 then j (nI (t + 1)) L f else gz_ (nI (t + 1) - 1 < 0 ∨ 36 ≤ (nI (t + 1) - 1).toNatClampNeg) (if ¬ f ((nI (t + 1) - 1).toNatClampNeg) = 0 then j (nI (t + 1)) L f else F_BW_divide_L80 j n (nI (t + 1) - 1) L f)) = _
      rw [if_neg (nI_nle (by omega) (by omega)), nI_pred, gzf (nI_in (by omega) (by decide)), nI_clamp (by omega)]
    rw [e]
    by_cases h : f t = 0
    · rw [if_neg (fun z => z h)]
      obtain ⟨t', h1, h2, h3⟩ := ih n (by omega) (by omega)
      refine ⟨t', by omega, h2, ?_⟩
      rw [h3, cV_s, h]
      show _ = _ + 0 * _
      rw [Nat.zero_mul]
      rfl
    · rw [if_pos h]
      exact ⟨t + 1, Nat.le_refl _, rfl, rfl⟩
theorem v_divide {f : Nat → Int64} {u v by' n : Nat} {L : Prop} [Decidable L] (hf : cH f u v) (hb0 : 0 < by') (hb : by' < 2 ^ 31) (hn : 100 < n) : ∃ (u' : Nat) (f' : Nat → Int64), F_BW_divide n (nI u) (if L then 1 else 0) f (lN by') = some (nI u', if L ∨ v % by' ≠ 0 then 1 else 0, f') ∧ cH f' u' (v / by') := by
  have hu := hf.1
  have nz : ¬ lN by' = 0 := fun z => by have := (lN_z (by omega)).mp z; omega
  obtain ⟨r', f', h1, h2, h3, h4, h5⟩ := div_L17 (fun (y2 : Int64) (used_3 : Int32) (lost_4 : Int32) (lim_5 : (Nat → Int64)) => lt_ (if ¬ lost_4 = 0 then (1 : Int32) else if y2 = (0 : Int64) then (0 : Int32) else (1 : Int32)) fun x6 => lt_ (fun (used_7 : Int32) (lost_8 : Int32) (lim_9 : (Nat → Int64)) => some (used_7, lost_8, lim_9)) fun j116 => F_BW_divide_L80 j116 n used_3 x6 lim_5) by' u hb0 hb (nI u) (if L then 1 else 0) u n 0 f hu (by omega) hb0 hf.2.1
  rw [Nat.zero_mul, Nat.add_zero, hf.2.2] at h5
  have e1 : v / by' = cV f' u := by
    rw [h5, Nat.mul_comm, Nat.mul_add_div hb0, Nat.div_eq_of_lt h2, Nat.add_zero]
  have e2 : v % by' = r' := by
    rw [h5, Nat.mul_comm, Nat.mul_add_mod, Nat.mod_eq_of_lt h2]
  have eL : (if ¬ (if L then (1 : Int32) else 0) = 0 then (1 : Int32) else if lN r' = (0 : Int64) then (0 : Int32) else (1 : Int32)) = (if L ∨ v % by' ≠ 0 then 1 else 0) := by
    have hz : lN r' = 0 ↔ r' = 0 := lN_z (by omega)
    by_cases hL : L
    · rw [if_pos hL, if_pos (by decide), if_pos (Or.inl hL)]
    · rw [if_neg hL, if_neg (by decide)]
      by_cases z : r' = 0
      · rw [if_pos (hz.mpr z), if_neg (fun q => q.elim hL (fun y => y (by omega)))]
      · rw [if_neg (fun q => z (hz.mp q)), if_pos (Or.inr (by omega))]
  obtain ⟨t', g1, g2, g3⟩ := div_L80 (fun (used_7 : Int32) (lost_8 : Int32) (lim_9 : (Nat → Int64)) => some (used_7, lost_8, lim_9)) (if L ∨ v % by' ≠ 0 then 1 else 0) f' u n hu (by omega)
  refine ⟨t', f', ?_, by omega, cok_le h3 g1, by rw [g3, e1]⟩
  unfold F_BW_divide
  rw [if_pos nz]
  simp only [lt_] at h1 ⊢
  refine Eq.trans h1 ?_
  rw [eL]
  exact g2
