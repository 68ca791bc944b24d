/-! Rows of limbs of 16 bits (reference): one, shifting, products, comparison. -/
theorem rV_at {f : Nat → Int32} {p : Nat} {y : Int32} : ∀ {q : Nat}, p < q → rV (upd f p y) q + (f p).toNatClampNeg * 65536 ^ p = rV f q + y.toNatClampNeg * 65536 ^ p := by
  intro q
  induction q with
  | zero => intro h; omega
  | succ q ihq =>
    intro h
    by_cases hq : p = q
    · subst hq
      rw [rV_s, rV_s, rV_upd (Nat.le_refl _), pk_us]
      omega
    · have := ihq (by omega)
      rw [rV_s, rV_s, pk_un (fun z => hq z.symm)]
      omega
/-- a row that holds v: in limbs, without zeros on top -/
def rH (f : Nat → Int32) (m v : Nat) : Prop := rok f m ∧ rtr f m ∧ rV f m = v
theorem rH_le {f : Nat → Int32} {m v b : Nat} (h : rH f m v) (hb : v < 65536 ^ b) : m ≤ b := rtr_le h.1 h.2.1 (by rw [h.2.2]; exact hb)
theorem rH_lt {f : Nat → Int32} {m v : Nat} (h : rH f m v) : v < 65536 ^ m := by rw [← h.2.2]; exact rV_lt h.1
theorem rH_ge {f : Nat → Int32} {m v : Nat} (h : rH f m v) (hm : 0 < m) : 65536 ^ (m - 1) ≤ v := by rw [← h.2.2]; exact rtr_ge h.1 h.2.1 hm
theorem set_L (j : (Nat → Int32) → Option (Int32 × (Nat → Int32))) : ∀ (t k n : Nat) (f : Nat → Int32), k + t = 4 → t < n → ∃ f' : Nat → Int32, F_Rs_set_L2 1 j n (nI k) f = j f' ∧ (∀ i, i < k → f' i = f i) ∧ (∀ i, k ≤ i → i < 4 → f' i = nI (if i = 0 then 1 else 0)) := by
  intro t
  induction t with
  | zero =>
    intro k n f hk hn
    obtain rfl : k = 4 := by omega
    obtain ⟨n, rfl⟩ : ∃ k, n = k + 1 := ⟨n - 1, by omega⟩
    exact ⟨f, if_pos (by decide), fun _ _ => rfl, fun i h1 h2 => by omega⟩
  | succ t ih =>
    intro k n f hk hn
    obtain ⟨n, rfl⟩ : ∃ k, n = k + 1 := ⟨n - 1, by omega⟩
    have e : F_Rs_set_L2 1 j (n + 1) (nI k) f = F_Rs_set_L2 1 j n (nI (k + 1)) (upd f k (nI (if k = 0 then 1 else 0))) := by
      show (if (4 : Int32) ≤ nI k then j f else gz_ (nI k < 0 ∨ 520 ≤ (nI k).toNatClampNeg) (F_Rs_set_L2 1 j n (nI k + 1) (upd f (nI k).toNatClampNeg ((((1 : Int64) >>> (((16 : Int32) * nI k).toInt64 &&& 63)) &&& (65535 : Int64)).toInt32)))) = _
      rw [if_neg (show ¬ (4 : Int32) ≤ nI k from nI_ge (b := 4) (by omega) (by omega)), gzf (nI_in (by omega) (by decide)), nI_clamp (by omega), nI_1, (by decide +kernel : ∀ k : Nat, k < 4 → (((1 : Int64) >>> (((16 : Int32) * nI k).toInt64 &&& 63)) &&& (65535 : Int64)).toInt32 = nI (if k = 0 then 1 else 0)) k (by omega)]
    obtain ⟨f', h1, h2, h3⟩ := ih (k + 1) n (upd f k (nI (if k = 0 then 1 else 0))) (by omega) (by omega)
    refine ⟨f', by rw [e, h1], fun i hi => ?_, fun i hi hi4 => ?_⟩
    · rw [h2 i (by omega), pk_un (by omega)]
    · by_cases z : i = k
      · subst z
        rw [h2 i (by omega), pk_us]
      · exact h3 i (by omega) hi4
theorem v_set1 {n : Nat} (f : Nat → Int32) (hn : 600 < n) : ∃ (m : Nat) (f' : Nat → Int32), F_Rs_set n f 1 = some (nI m, f') ∧ rH f' m 1 := by
  obtain ⟨f', h1, -, h3⟩ := set_L (fun f0_1 => (F_Rs_trimmed n f0_1 (4 : Int32)).bind fun x2 => some (x2, f0_1)) 4 0 n f (by omega) (by omega)
  obtain ⟨m', g1, g2, g3, g4⟩ := v_trim f' (m := 4) (n := n) (by omega) (by omega)
  have e0 := h3 0 (by omega) (by omega)
  have e1 := h3 1 (by omega) (by omega)
  have e2 := h3 2 (by omega) (by omega)
  have e3 := h3 3 (by omega) (by omega)
  have ok4 : rok f' 4 := fun k hk => ⟨if k = 0 then 1 else 0, by split <;> omega, h3 k (by omega) hk⟩
  refine ⟨m', f', ?_, rok_le ok4 g1, g4, ?_⟩
  · refine Eq.trans (b := F_Rs_set_L2 1 _ n (nI 0) f) rfl (h1.trans ?_)
    show (F_Rs_trimmed n f' (nI 4)).bind _ = _
    rw [g2]
    rfl
  · rw [g3]
    show 0 + (f' 0).toNatClampNeg * 65536 ^ 0 + (f' 1).toNatClampNeg * 65536 ^ 1 + (f' 2).toNatClampNeg * 65536 ^ 2 + (f' 3).toNatClampNeg * 65536 ^ 3 = 1
    rw [e0, e1, e2, e3]
    decide
/-! shifting -/
theorem sh_L18 (j : (Nat → Int32) → Option (Int32 × (Nat → Int32))) (a1 x2 : Int32) (w m : Nat) (hm : m + w ≤ 520) : ∀ (t n : Nat) (f : Nat → Int32), t ≤ m → t < n → ∃ f' : Nat → Int32, F_Rs_shifted_L18 a1 (nI w) x2 j n (nI t - 1) f = j f' ∧ (∀ i, i < t → f' (i + w) = f i) ∧ (∀ i, t + w ≤ i → f' i = f i) := by
  intro t
  induction t with
  | zero =>
    intro n f _ hn
    obtain ⟨n, rfl⟩ : ∃ k, n = k + 1 := ⟨n - 1, by omega⟩
    exact ⟨f, if_pos (by decide), fun i h => by omega, fun _ _ => rfl⟩
  | succ t ih =>
    intro n f ht hn
    obtain ⟨n, rfl⟩ : ∃ k, n = k + 1 := ⟨n - 1, by omega⟩
    have e : F_Rs_shifted_L18 a1 (nI w) x2 j (n + 1) (nI (t + 1) - 1) f = F_Rs_shifted_L18 a1 (nI w) x2 j n (nI t - 1) (upd f (t + w) (f t)) := by
      rw [nI_pred]
      show (if nI t < 0 then j f else gz_ (nI t < 0 ∨ 520 ≤ (nI t).toNatClampNeg) (gz_ (nI t + nI w < 0 ∨ 520 ≤ (nI t + nI w).toNatClampNeg) (F_Rs_shifted_L18 a1 (nI w) x2 j n (nI t + -1) (upd f (nI t + nI w).toNatClampNeg (f (nI t).toNatClampNeg))))) = _
      rw [if_neg (nI_pos (by omega)), gzf (nI_in (by omega) (by decide)), nI_add, gzf (nI_in (by omega) (by decide)), nI_clamp (by omega), nI_clamp (by omega), Int32.sub_eq_add_neg]
    obtain ⟨f', h1, h2, h3⟩ := ih n (upd f (t + w) (f t)) (by omega) (by omega)
    refine ⟨f', by rw [e, h1], fun i hi => ?_, fun i hi => ?_⟩
    · by_cases z : i = t
      · subst z
        rw [h3 (i + w) (by omega), pk_us]
      · rw [h2 i (by omega), pk_un (by omega)]
    · rw [h3 i (by omega), pk_un (by omega)]
theorem sh_L42 (j : (Nat → Int32) → Option (Int32 × (Nat → Int32))) (a1 x2 : Int32) (w : Nat) (hw : w ≤ 520) : ∀ (t k n : Nat) (f : Nat → Int32), k + t = w → t < n → ∃ f' : Nat → Int32, F_Rs_shifted_L42 a1 (nI w) x2 j n (nI k) f = j f' ∧ (∀ i, k ≤ i → i < w → f' i = 0) ∧ (∀ i, i < k ∨ w ≤ i → f' i = f i) := by
  intro t
  induction t with
  | zero =>
    intro k n f hk hn
    obtain rfl : k = w := by omega
    obtain ⟨n, rfl⟩ : ∃ k, n = k + 1 := ⟨n - 1, by omega⟩
    exact ⟨f, if_pos (Int32.le_refl _), fun i h1 h2 => by omega, fun _ _ => rfl⟩
  | succ t ih =>
    intro k n f hk hn
    obtain ⟨n, rfl⟩ : ∃ k, n = k + 1 := ⟨n - 1, by omega⟩
    have e : F_Rs_shifted_L42 a1 (nI w) x2 j (n + 1) (nI k) f = F_Rs_shifted_L42 a1 (nI w) x2 j n (nI (k + 1)) (upd f k 0) := by
      show (if nI w ≤ nI k then j f else gz_ (nI k < 0 ∨ 520 ≤ (nI k).toNatClampNeg) (F_Rs_shifted_L42 a1 (nI w) x2 j n (nI k + 1) (upd f (nI k).toNatClampNeg 0))) = _
      rw [if_neg (nI_ge (by omega) (by omega)), gzf (nI_in (by omega) (by decide)), nI_clamp (by omega), nI_1]
    obtain ⟨f', h1, h2, h3⟩ := ih (k + 1) n (upd f k 0) (by omega) (by omega)
    refine ⟨f', by rw [e, h1], fun i hi hw => ?_, fun i hi => ?_⟩
    · by_cases z : i = k
      · subst z
        rw [h3 i (by omega), pk_us]
      · exact h2 i (by omega) hw
    · rw [h3 i (by omega), pk_un (by omega)]
theorem rV_zero {g : Nat → Int32} : ∀ {w : Nat}, (∀ i, i < w → g i = 0) → rV g w = 0 := by
  intro w
  induction w with
  | zero => intro _; rfl
  | succ w ih =>
    intro h
    rw [rV_s, ih (fun i hi => h i (by omega)), h w (by omega)]
    show 0 + 0 * 65536 ^ w = 0
    rw [Nat.zero_mul]
theorem rV_shift {g f : Nat → Int32} {w : Nat} (h0 : ∀ i, i < w → g i = 0) : ∀ {m : Nat}, (∀ i, i < m → g (i + w) = f i) → rV g (m + w) = rV f m * 65536 ^ w := by
  intro m
  induction m with
  | zero =>
    intro _
    rw [Nat.zero_add, rV_zero h0]
    exact (Nat.zero_mul _).symm
  | succ m ih =>
    intro h
    rw [show m + 1 + w = (m + w) + 1 by omega, rV_s, rV_s, ih (fun i hi => h i (by omega)), h m (by omega), Nat.add_mul, Nat.mul_assoc, ← Nat.pow_add]
theorem v_shifted {f : Nat → Int32} {m v s n : Nat} (hf : rH f m v) (hm : 0 < m) (hs : s < 6000) (hv : v * 2 ^ s < 65536 ^ 519) (hn : 1200 < n) : ∃ (m' : Nat) (f' : Nat → Int32), F_Rs_shifted n f (nI m) (nI s) = some (nI m', f') ∧ rH f' m' (v * 2 ^ s) := by
  have hs2 : 2 ^ s = 65536 ^ (s / 16) * 2 ^ (s % 16) := by
    rw [show (65536 : Nat) = 2 ^ 16 from rfl, ← Nat.pow_mul, ← Nat.pow_add]
    congr 1
    omega
  have hmw : m + s / 16 ≤ 519 := by
    have h1 := rH_ge hf hm
    have h2 : 65536 ^ (m - 1) * 65536 ^ (s / 16) ≤ v * 2 ^ s := by
      refine Nat.mul_le_mul h1 ?_
      rw [hs2]
      exact Nat.le_mul_of_pos_right _ (p2_pos _)
    rw [← Nat.pow_add] at h2
    have := p16_lt (Nat.lt_of_le_of_lt h2 hv)
    omega
  obtain ⟨f1, a1, a2, a3⟩ := sh_L18 (fun (f0_4 : (Nat → Int32)) => lt_ (fun (f0_5 : (Nat → Int32)) => (F_Rs_grow n f0_5 (nI m + nI (s / 16)) ((1 : Int32) <<< (nI (s % 16) &&& 31)) (0 : Int32)).bind fun x6 => some (x6.1, x6.2)) fun j59 => F_Rs_shifted_L42 (nI m) (nI (s / 16)) (nI (s % 16)) j59 n (0 : Int32) f0_4) (nI m) (nI (s % 16)) (s / 16) m (by omega) m n f (Nat.le_refl _) (by omega)
  obtain ⟨f2, b1, b2, b3⟩ := sh_L42 (fun (f0_5 : (Nat → Int32)) => (F_Rs_grow n f0_5 (nI m + nI (s / 16)) ((1 : Int32) <<< (nI (s % 16) &&& 31)) (0 : Int32)).bind fun x6 => some (x6.1, x6.2)) (nI m) (nI (s % 16)) (s / 16) (by omega) (s / 16) 0 n f1 (by omega) (by omega)
  have hV : rV f2 (m + s / 16) = rV f m * 65536 ^ (s / 16) := rV_shift (fun i hi => b2 i (by omega) hi) (fun i hi => by rw [b3 _ (Or.inr (by omega)), a2 i hi])
  have hok : rok f2 (m + s / 16) := fun i hi => by
    by_cases z : i < s / 16
    · exact ⟨0, by decide, b2 i (by omega) z⟩
    · rw [b3 i (Or.inr (by omega))]
      have := a2 (i - s / 16) (by omega)
      rw [show i - s / 16 + s / 16 = i by omega] at this
      rw [this]
      exact hf.1 _ (by omega)
  have hp : 2 ^ (s % 16) ≤ 65536 := by
    have := p2_le (show s % 16 ≤ 16 by omega)
    exact this
  obtain ⟨m', f', g1, g2, g3, g4, g5⟩ := v_grow (by' := 2 ^ (s % 16)) (more := 0) (n := n) (show m + s / 16 < 520 by omega) hp (by decide) (by omega) hok
  refine ⟨m', f', ?_, g3, g4, ?_⟩
  · have e1 : nI s / (16 : Int32) = nI (s / 16) := pk_div (d := 16) (by omega) (by decide) (by decide)
    have e2 : nI s - (16 : Int32) * nI (s / 16) = nI (s % 16) := by
      rw [show (16 : Int32) = nI 16 from rfl, pk_mul, pk_sub (by omega)]
      congr 1
      omega
    have e3 : (1 : Int32) <<< (nI (s % 16) &&& 31) = nI (2 ^ (s % 16)) := (by decide +kernel : ∀ k : Nat, k < 16 → (1 : Int32) <<< (nI k &&& 31) = nI (2 ^ k)) _ (by omega)
    refine Eq.trans (b := F_Rs_shifted_L18 (nI m) (nI s / 16) (nI s - 16 * (nI s / 16)) _ n (nI m - 1) f) rfl ?_
    rw [e1, e2]
    refine a1.trans (b1.trans ?_)
    show (F_Rs_grow n f2 (nI m + nI (s / 16)) ((1 : Int32) <<< (nI (s % 16) &&& 31)) (nI 0)).bind _ = _
    rw [e3, nI_add, g1]
    rfl
  · rw [g5, hV, hf.2.2, Nat.add_zero, hs2, Nat.mul_assoc]
/-! products -/
theorem tm_L3 (j : (Nat → Int32) → Option (Int32 × (Nat → Int32))) (f1 : Nat → Int32) (a3 : Int64) (m : Nat) (hm : m + 5 ≤ 520) : ∀ (t k n : Nat) (f : Nat → Int32), k + t = m + 5 → t < n → ∃ f' : Nat → Int32, F_Rs_times_L3 f1 (nI m) a3 j n (nI k) f = j f' ∧ (∀ i, k ≤ i → i < m + 5 → f' i = 0) ∧ (∀ i, i < k → f' i = f i) := by
  intro t
  induction t with
  | zero =>
    intro k n f hk hn
    obtain rfl : k = m + 5 := by omega
    obtain ⟨n, rfl⟩ : ∃ k, n = k + 1 := ⟨n - 1, by omega⟩
    have h : nI m + 5 ≤ nI (m + 5) := by rw [show (5 : Int32) = nI 5 from rfl, nI_add]; exact Int32.le_refl _
    exact ⟨f, if_pos h, fun i h1 h2 => by omega, fun _ _ => rfl⟩
  | succ t ih =>
    intro k n f hk hn
    obtain ⟨n, rfl⟩ : ∃ k, n = k + 1 := ⟨n - 1, by omega⟩
    have e : F_Rs_times_L3 f1 (nI m) a3 j (n + 1) (nI k) f = F_Rs_times_L3 f1 (nI m) a3 j n (nI (k + 1)) (upd f k 0) := by
      show (if nI m + 5 ≤ nI k then j f else gz_ (nI k < 0 ∨ 520 ≤ (nI k).toNatClampNeg) (F_Rs_times_L3 f1 (nI m) a3 j n (nI k + 1) (upd f (nI k).toNatClampNeg 0))) = _
      rw [show (5 : Int32) = nI 5 from rfl, nI_add, if_neg (nI_ge (by omega) (by omega)), gzf (nI_in (by omega) (by decide)), nI_clamp (by omega), nI_1]
    obtain ⟨f', h1, h2, h3⟩ := ih (k + 1) n (upd f k 0) (by omega) (by omega)
    refine ⟨f', by rw [e, h1], fun i hi hw => ?_, fun i hi => ?_⟩
    · by_cases z : i = k
      · subst z
        rw [h3 i (by omega), pk_us]
      · exact h2 i (by omega) hw
    · rw [h3 i (by omega), pk_un (by omega)]
theorem tm_L51 (j : (Nat → Int32) → Option (Int32 × (Nat → Int32))) (f1 : Nat → Int32) (a3 : Int64) (m c B : Nat) (hm : m + 5 ≤ 520) (hc : c < 4) (hB : B < 65536) (hx : rok f1 m) : ∀ (t k n cy : Nat) (f : Nat → Int32), k + t = m + 1 → t < n → cy < 65536 → rok f (m + 5) →
    ∃ (f' : Nat → Int32) (cy' : Nat), F_Rs_times_L51 f1 (nI m) a3 (nI c) (lN B) j n (lN cy) (nI k) f = j f' ∧ rok f' (m + 5) ∧ rV f' (m + 5) + cy' * 65536 ^ (m + 1 + c) + rV f1 (min k m) * B * 65536 ^ c = rV f (m + 5) + cy * 65536 ^ (k + c) + rV f1 m * B * 65536 ^ c := by
  intro t
  induction t with
  | zero =>
    intro k n cy f hk hn hcy hf
    obtain rfl : k = m + 1 := by omega
    obtain ⟨n, rfl⟩ : ∃ k, n = k + 1 := ⟨n - 1, by omega⟩
    refine ⟨f, cy, if_pos (nI_lt (by omega) (by omega)), hf, ?_⟩
    rw [show min (m + 1) m = m by omega]
  | succ t ih =>
    intro k n cy f hk hn hcy hf
    obtain ⟨n, rfl⟩ : ∃ k, n = k + 1 := ⟨n - 1, by omega⟩
    obtain ⟨d, hd, ed⟩ := hf (k + c) (by omega)
    obtain ⟨x, hxv, hxk⟩ : ∃ x : Nat, x < 65536 ∧ (if k < m then (f1 k = nI x) else x = 0) := by
      by_cases z : k < m
      · obtain ⟨x, h1, h2⟩ := hx k z
        exact ⟨x, h1, by rw [if_pos z]; exact h2⟩
      · exact ⟨0, by decide, by rw [if_neg z]⟩
    have hxB : x * B ≤ 65535 * 65535 := Nat.mul_le_mul (by omega) (by omega)
    have e : F_Rs_times_L51 f1 (nI m) a3 (nI c) (lN B) j (n + 1) (lN cy) (nI k) f = F_Rs_times_L51 f1 (nI m) a3 (nI c) (lN B) j n (lN ((d + cy + x * B) / 65536)) (nI (k + 1)) (upd f (k + c) (nI ((d + cy + x * B) % 65536))) := by
      have step : ∀ z : Int64, z = lN (x * B) → (fun (y12 : Int64) (y13 : Int64) (f4_14 : (Nat → Int32)) => lt_ (y13 + y12) fun x15 => gz_ (nI k + nI c < 0 ∨ 520 ≤ (nI k + nI c).toNatClampNeg) <| lt_ (upd f4_14 (nI k + nI c).toNatClampNeg ((x15 &&& (65535 : Int64)).toInt32)) fun f4_16 => lt_ (x15 >>> (((16 : Int32)).toInt64 &&& 63)) fun x17 => lt_ (nI k + Int32.ofInt 1) fun x18 => F_Rs_times_L51 f1 (nI m) a3 (nI c) (lN B) j n x17 x18 f4_16) z (((f (nI k + nI c).toNatClampNeg).toInt64) + lN cy) f = F_Rs_times_L51 f1 (nI m) a3 (nI c) (lN B) j n (lN ((d + cy + x * B) / 65536)) (nI (k + 1)) (upd f (k + c) (nI ((d + cy + x * B) % 65536))) := by
        intro z hz
        subst hz
        show gz_ (nI k + nI c < 0 ∨ 520 ≤ (nI k + nI c).toNatClampNeg) (F_Rs_times_L51 f1 (nI m) a3 (nI c) (lN B) j n ((((f (nI k + nI c).toNatClampNeg).toInt64 + lN cy) + lN (x * B)) >>> (((16 : Int32)).toInt64 &&& 63)) (nI k + 1) (upd f (nI k + nI c).toNatClampNeg (((((f (nI k + nI c).toNatClampNeg).toInt64 + lN cy) + lN (x * B)) &&& (65535 : Int64)).toInt32))) = _
        rw [nI_add, gzf (nI_in (by omega) (by decide)), nI_clamp (by omega), ed, nI_l (by omega), lN_add, lN_add, (limb (by omega)).1, (limb (by omega)).2, nI_1]
      show (if nI m < nI k then j f else gz_ (nI k + nI c < 0 ∨ 520 ≤ (nI k + nI c).toNatClampNeg) (lt_ (α := Int64 → Int64 → (Nat → Int32) → Option (Int32 × (Nat → Int32))) _ fun j87 => if nI m ≤ nI k then j87 (0 : Int64) (((f (nI k + nI c).toNatClampNeg).toInt64) + lN cy) f else (gz_ (nI k < 0 ∨ 520 ≤ (nI k).toNatClampNeg) <| j87 (((f1 (nI k).toNatClampNeg).toInt64) * lN B) (((f (nI k + nI c).toNatClampNeg).toInt64) + lN cy) f))) = _
      rw [if_neg (nI_nlt (by omega) (by omega)), gzf (by rw [nI_add]; exact nI_in (by omega) (by decide))]
      by_cases z : k < m
      · rw [if_pos z] at hxk
        simp only [lt_]
        rw [if_neg (nI_ge z (by omega)), gzf (nI_in (by omega) (by decide))]
        refine step _ ?_
        rw [nI_clamp (by omega), hxk, nI_l (by omega), lN_mul]
      · rw [if_neg z] at hxk
        simp only [lt_]
        rw [if_pos (nI_le (by omega) (by omega))]
        refine step _ ?_
        rw [hxk, Nat.zero_mul]
        rfl
    have hq : (d + cy + x * B) % 65536 < 65536 := Nat.mod_lt _ (by decide)
    obtain ⟨f', cy', h1, h2, h3⟩ := ih (k + 1) n ((d + cy + x * B) / 65536) (upd f (k + c) (nI ((d + cy + x * B) % 65536))) (by omega) (by omega) (by omega) (rok_upd hf hq)
    refine ⟨f', cy', by rw [e, h1], h2, ?_⟩
    have a1 := rV_at (f := f) (p := k + c) (y := nI ((d + cy + x * B) % 65536)) (q := m + 5) (by omega)
    rw [ed, nI_cl hd, nI_cl hq] at a1
    have a2 : (d + cy + x * B) / 65536 * 65536 ^ (k + 1 + c) + (d + cy + x * B) % 65536 * 65536 ^ (k + c) = (d + cy + x * B) * 65536 ^ (k + c) := by
      rw [show k + 1 + c = (k + c) + 1 by omega, p16_s, ← Nat.mul_assoc, ← Nat.add_mul]
      congr 1
      omega
    rw [Nat.add_mul, Nat.add_mul] at a2
    have a3' : rV f1 (min (k + 1) m) * B * 65536 ^ c = rV f1 (min k m) * B * 65536 ^ c + x * B * 65536 ^ (k + c) := by
      by_cases z : k < m
      · rw [if_pos z] at hxk
        rw [show min (k + 1) m = k + 1 by omega, show min k m = k by omega, rV_s, hxk, nI_cl hxv, Nat.add_mul, Nat.add_mul]
        congr 1
        rw [Nat.pow_add, Nat.mul_right_comm x, Nat.mul_assoc]
      · rw [if_neg z] at hxk
        rw [show min (k + 1) m = m by omega, show min k m = m by omega, hxk, Nat.zero_mul, Nat.zero_mul]
        rfl
    rw [a3'] at h3
    generalize (d + cy + x * B) / 65536 * 65536 ^ (k + 1 + c) = X1 at *
    generalize (d + cy + x * B) % 65536 * 65536 ^ (k + c) = X2 at *
    generalize x * B * 65536 ^ (k + c) = X3 at *
    generalize rV f1 m * B * 65536 ^ c = X4 at *
    generalize rV f1 (min k m) * B * 65536 ^ c = X5 at *
    generalize cy' * 65536 ^ (m + 1 + c) = X6 at *
    generalize cy * 65536 ^ (k + c) = X7 at *
    generalize d * 65536 ^ (k + c) = X8 at *
    omega
theorem tm_L26 (j : (Nat → Int32) → Option (Int32 × (Nat → Int32))) (f1 : Nat → Int32) (m M : Nat) (hm : m + 5 ≤ 520) (hM : M < 2 ^ 62) (hx : rok f1 m) : ∀ (t c n : Nat) (f : Nat → Int32), c + t = 4 → t + 600 < n → rok f (m + 5) → rV f (m + 5) = rV f1 m * (M % 65536 ^ c) → ∃ f' : Nat → Int32, F_Rs_times_L26 f1 (nI m) (lN M) j n (nI c) f = j f' ∧ rok f' (m + 5) ∧ rV f' (m + 5) = rV f1 m * M := by
  intro t
  induction t with
  | zero =>
    intro c n f hc hn hf hv
    obtain rfl : c = 4 := by omega
    obtain ⟨n, rfl⟩ : ∃ k, n = k + 1 := ⟨n - 1, by omega⟩
    refine ⟨f, if_pos (by decide), hf, ?_⟩
    rw [hv, Nat.mod_eq_of_lt (Nat.lt_of_lt_of_le hM (by decide))]
  | succ t ih =>
    intro c n f hc hn hf hv
    obtain ⟨n, rfl⟩ : ∃ k, n = k + 1 := ⟨n - 1, by omega⟩
    have hB : M / 65536 ^ c % 65536 < 65536 := Nat.mod_lt _ (by decide)
    obtain ⟨f', cy', h1, h2, h3⟩ := tm_L51 (fun f4_7 => F_Rs_times_L26 f1 (nI m) (lN M) j n (nI c + Int32.ofInt 1) f4_7) f1 (lN M) m c (M / 65536 ^ c % 65536) hm (by omega) hB hx (m + 1) 0 n 0 f (by omega) (by omega) (by decide) hf
    have e : F_Rs_times_L26 f1 (nI m) (lN M) j (n + 1) (nI c) f = F_Rs_times_L26 f1 (nI m) (lN M) j n (nI (c + 1)) f' := by
      have e1 : (lN M >>> (((16 : Int32) * nI c).toInt64 &&& 63)) &&& (65535 : Int64) = lN (M / 65536 ^ c % 65536) := by
        have e2 : lN M >>> (((16 : Int32) * nI c).toInt64 &&& 63) = lN (M / 2 ^ (16 * c)) := pf_shr (d := 16 * c) ((by decide +kernel : ∀ c : Nat, c < 4 → ((((16 : Int32) * nI c).toInt64 &&& 63).toBitVec.smod 64).toNat = 16 * c) c (by omega)) hM
        rw [e2, Nat.pow_mul]
        exact wb_mask (k := 16) (Nat.lt_of_le_of_lt (Nat.div_le_self _ _) (by omega)) (by decide)
      show (if (4 : Int32) ≤ nI c then j f else F_Rs_times_L51 f1 (nI m) (lN M) (nI c) ((lN M >>> (((16 : Int32) * nI c).toInt64 &&& 63)) &&& (65535 : Int64)) (fun f4_7 => F_Rs_times_L26 f1 (nI m) (lN M) j n (nI c + Int32.ofInt 1) f4_7) n (lN 0) (nI 0) f) = _
      rw [if_neg (show ¬ (4 : Int32) ≤ nI c from nI_ge (b := 4) (by omega) (by decide)), e1, h1, show nI c + Int32.ofInt 1 = nI (c + 1) from nI_1 c]
    have hmod : M % 65536 ^ (c + 1) = M % 65536 ^ c + M / 65536 ^ c % 65536 * 65536 ^ c := by
      rw [Nat.pow_succ, Nat.mod_mul, Nat.mul_comm (65536 ^ c)]
    have hT : rV f' (m + 5) + cy' * 65536 ^ (m + 1 + c) = rV f1 m * (M % 65536 ^ (c + 1)) := by
      rw [hv, show min 0 m = 0 by omega, show rV f1 0 = 0 from rfl, Nat.zero_mul, Nat.zero_mul, Nat.zero_mul] at h3
      rw [hmod, Nat.mul_add, ← Nat.mul_assoc]
      omega
    have hlt : rV f1 m * (M % 65536 ^ (c + 1)) < 65536 ^ (m + 1 + c) := by
      rw [show m + 1 + c = m + (c + 1) by omega, Nat.pow_add 65536 m (c + 1)]
      exact Nat.mul_lt_mul'' (rV_lt hx) (Nat.mod_lt _ (p16_pos _))
    have hcy : cy' = 0 := by
      by_cases z : cy' = 0
      · exact z
      · have := Nat.le_mul_of_pos_left (65536 ^ (m + 1 + c)) (show 0 < cy' by omega)
        omega
    subst hcy
    rw [Nat.zero_mul, Nat.add_zero] at hT
    obtain ⟨g, r1, r2, r3⟩ := ih (c + 1) n f' (by omega) (by omega) h2 hT
    exact ⟨g, by rw [e, r1], r2, r3⟩
theorem v_times {f1 : Nat → Int32} {m v M n : Nat} (f4 : Nat → Int32) (hf : rH f1 m v) (hm : m ≤ 515) (hM : M < 2 ^ 62) (hn : 1200 < n) : ∃ (m' : Nat) (f' : Nat → Int32), F_Rs_times n f1 f4 (nI m) (lN M) = some (nI m', f') ∧ rH f' m' (v * M) := by
  obtain ⟨g1, a1, a2, -⟩ := tm_L3 (fun (f4_1 : (Nat → Int32)) => lt_ (fun (f4_2 : (Nat → Int32)) => (F_Rs_trimmed n f4_2 (nI m + (5 : Int32))).bind fun x3 => some (x3, f4_2)) fun j124 => F_Rs_times_L26 f1 (nI m) (lN M) j124 n (0 : Int32) f4_1) f1 (lN M) m (by omega) (m + 5) 0 n f4 (by omega) (by omega)
  have z0 : rV g1 (m + 5) = 0 := rV_zero (fun i hi => a2 i (by omega) hi)
  obtain ⟨g2, b1, b2, b3⟩ := tm_L26 (fun (f4_2 : (Nat → Int32)) => (F_Rs_trimmed n f4_2 (nI m + (5 : Int32))).bind fun x3 => some (x3, f4_2)) f1 m M (by omega) hM hf.1 4 0 n g1 (by omega) (by omega) (fun i hi => ⟨0, by decide, a2 i (by omega) hi⟩) (by rw [z0, Nat.pow_zero, Nat.mod_one, Nat.mul_zero])
  obtain ⟨m', c1, c2, c3, c4⟩ := v_trim g2 (m := m + 5) (n := n) (by omega) (by omega)
  refine ⟨m', g2, ?_, rok_le b2 c1, c4, by rw [c3, b3, hf.2.2]⟩
  refine Eq.trans (b := F_Rs_times_L3 f1 (nI m) (lN M) _ n (nI 0) f4) rfl (a1.trans (Eq.trans (b := F_Rs_times_L26 f1 (nI m) (lN M) _ n (nI 0) g1) rfl (b1.trans ?_)))
  show (F_Rs_trimmed n g2 (nI m + nI 5)).bind _ = _
  rw [nI_add, c2]
  rfl
