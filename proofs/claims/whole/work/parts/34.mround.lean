theorem u_tn {n : Nat} (h : n < 2 ^ 64) : (UInt64.ofNat n).toNat = n := Nat.mod_eq_of_lt h
theorem g_and {a b c : Nat} (ha : a < 2 ^ 64) (hb : b < 2 ^ 64) (hc : a &&& b = c) : lN a &&& lN b = lN c := by
  subst hc
  have h : UInt64.ofNat a &&& UInt64.ofNat b = UInt64.ofNat (a &&& b) := UInt64.toNat_inj.mp (by rw [UInt64.toNat_and, u_tn ha, u_tn hb, u_tn (Nat.and_lt_two_pow a hb)])
  have h2 := congrArg UInt64.toInt64 h
  exact h2
theorem g_and1 {a : Nat} (ha : a < 2 ^ 64) : lN a &&& 1 = lN (a % 2) := g_and (b := 1) ha (by decide) (Nat.and_two_pow_sub_one_eq_mod a 1)
theorem g_mask {a s p : Nat} (hp : 2 ^ s = p) (hs : s < 64) (ha : a < 2 ^ 64) : lN a &&& lN (p - 1) = lN (a % p) := by
  subst hp
  have := Nat.pow_lt_pow_right (show 1 < 2 by decide) hs
  exact g_and ha (by omega) (Nat.and_two_pow_sub_one_eq_mod a s)
theorem g_or {k p a b : Nat} (hp : 2 ^ k = p) (ha : a < p) (h : b * p + a < 2 ^ 64) : lN (b * p) ||| lN a = lN (b * p + a) := by
  subst hp
  have h1 : b * 2 ^ k ||| a = b * 2 ^ k + a := by rw [← Nat.shiftLeft_eq, Nat.shiftLeft_add_eq_or_of_lt ha]
  have h3 : UInt64.ofNat (b * 2 ^ k) ||| UInt64.ofNat a = UInt64.ofNat (b * 2 ^ k + a) := UInt64.toNat_inj.mp (by rw [UInt64.toNat_or, u_tn (by omega), u_tn (by omega), u_tn h, h1])
  have h2 := congrArg UInt64.toInt64 h3
  exact h2
theorem g_or' {k p a b : Nat} (hp : 2 ^ k = p) (ha : a < p) (h : a + b * p < 2 ^ 64) : lN a ||| lN (b * p) = lN (a + b * p) := by
  rw [Int64.or_comm, g_or hp ha (by omega), Nat.add_comm]
/-! The reference's rounding is mg. -/
theorem rne_half {m lost sh : Nat} (hl : lost ≤ 1) (hs : 1 ≤ sh) : rne (2 * m + lost) (sh + 1) = if m / 2 ^ (sh - 1) % 2 = 1 ∧ ((m % 2 ^ (sh - 1) ≠ 0 ∨ lost = 1) ∨ m / 2 ^ (sh - 1) / 2 % 2 = 1) then m / 2 ^ (sh - 1) / 2 + 1 else m / 2 ^ (sh - 1) / 2 := by
  obtain ⟨k, rfl⟩ : ∃ k, sh = k + 1 := ⟨sh - 1, by omega⟩
  have e1 := Nat.div_add_mod m (2 ^ k)
  have h1 := Nat.mod_lt m (p2_pos k)
  have hp := p2_pos k
  have es : 2 ^ (k + 1 + 1) = 4 * 2 ^ k := by rw [p2_s, p2_s]; omega
  have es1 : 2 ^ (k + 1) = 2 * 2 ^ k := p2_s k
  show rne (2 * m + lost) (k + 1 + 1) = if m / 2 ^ k % 2 = 1 ∧ ((m % 2 ^ k ≠ 0 ∨ lost = 1) ∨ m / 2 ^ k / 2 % 2 = 1) then m / 2 ^ k / 2 + 1 else m / 2 ^ k / 2
  generalize hh : m / 2 ^ k = h at *
  generalize hr : m % 2 ^ k = r at *
  have eN : 2 * m + lost = 4 * 2 ^ k * (h / 2) + (2 * 2 ^ k * (h % 2) + 2 * r + lost) := by
    have hd := Nat.div_add_mod h 2
    have : 2 * (2 ^ k * h) = 4 * 2 ^ k * (h / 2) + 2 * 2 ^ k * (h % 2) := by
      calc 2 * (2 ^ k * h) = 2 * (2 ^ k * (2 * (h / 2) + h % 2)) := by rw [hd]
        _ = _ := by rw [Nat.mul_add, Nat.mul_add]; congr 1 <;> (simp only [← Nat.mul_assoc]; try (congr 1; omega))
    omega
  have hlt : 2 * 2 ^ k * (h % 2) + 2 * r + lost < 4 * 2 ^ k := by
    rcases Nat.mod_two_eq_zero_or_one h with z | z <;> rw [z] <;> omega
  have d1 : (2 * m + lost) / 2 ^ (k + 1 + 1) = h / 2 := by
    rw [es, eN, Nat.mul_add_div (by omega), Nat.div_eq_of_lt hlt]
    omega
  have d2 : (2 * m + lost) % 2 ^ (k + 1 + 1) = 2 * 2 ^ k * (h % 2) + 2 * r + lost := by
    rw [es, eN, Nat.mul_add_mod, Nat.mod_eq_of_lt hlt]
  unfold rne
  rw [d1, d2, show k + 1 + 1 - 1 = k + 1 from rfl, es1]
  rcases Nat.mod_two_eq_zero_or_one h with z | z
  · rw [z, if_neg, if_neg]
    · omega
    · omega
  · rw [z]
    by_cases c : (r ≠ 0 ∨ lost = 1) ∨ h / 2 % 2 = 1
    · rw [if_pos, if_pos ⟨rfl, c⟩]
      omega
    · rw [if_neg, if_neg]
      · omega
      · omega
def mSg (sgl : Int32) (f te w : Nat) (lp : Int) : Prop := (sgl = 1 ∧ f = 23 ∧ te = 255 ∧ w = 31 ∧ lp = -149) ∨ (sgl = 0 ∧ f = 52 ∧ te = 2047 ∧ w = 63 ∧ lp = -1074)
theorem bl_2 {m l : Nat} (hm : m ≠ 0) (hl : l ≤ 1) : bl (2 * m + l) = bl m + 1 := by
  have h1 := bl_half (v := 2 * m + l) (by omega)
  rw [show (2 * m + l) / 2 = m by omega] at h1
  exact h1
/-- the last part of the reference's rounding -/
theorem mr_tail {sgl : Int32} {f te w : Nat} {lp : Int} (hM : mSg sgl f te w lp) {n : Nat} (hn : 64 < n) (mi : Int32) {v : Nat} {E : Int} (h1 : v ≤ 2 ^ (f + 1)) (h2 : 0 < v → v < 2 ^ f → E = lp) (h3 : lp ≤ E) (h4 : E ≤ 200000) :
    ((F_Md_length n (lN v)).bind fun x7 => lt_ (fun (y8 : Int64) (y9 : Int32) => if ¬ y8 = (0 : Int64) then (lt_ (nI (f + 1) - (1 : Int32)) fun x10 => (F_Md_length n y8).bind fun x11 => if nI (f + 1) ≤ x11 then (lt_ (if sgl = 0 then (1075 : Int32) else (150 : Int32)) fun x12 => lt_ (y9 + x12) fun x13 => lt_ (if sgl = 0 then (2047 : Int32) else (255 : Int32)) fun x14 => if x13 < x14 then (some (((y8 &&& (((1 : Int64) <<< ((x10).toInt64 &&& 63)) - (1 : Int64))) ||| (((x13).toInt64) <<< ((x10).toInt64 &&& 63))) ||| (F_Md_sign mi sgl))) else (some (F_Md_far mi sgl))) else (some (y8 ||| (F_Md_sign mi sgl)))) else (some (F_Md_sign mi sgl))) fun j198 => if x7 ≤ nI (f + 1) then (j198 (lN v) (iZ E)) else (lt_ (((lN v).toUInt64 >>> (((1 : Int32)).toInt64.toUInt64 &&& Int64.toUInt64 63)).toInt64) fun x15 => lt_ (iZ E + Int32.ofInt 1) fun x16 => j198 x15 x16))
      = some (lN (if v = 0 then 0 else min (te * 2 ^ f) (v + (E - lp).toNat * 2 ^ f)) ||| F_Md_sign mi sgl) := by
  have hf : 23 ≤ f ∧ f ≤ 52 ∧ 255 ≤ te ∧ te ≤ 2047 ∧ -1074 ≤ lp ∧ lp ≤ -149 := by
    rcases hM with h | h <;> omega
  obtain ⟨f1, f2, t1, t2, l1, l2⟩ := hf
  have hpf := p2_pos f
  have hps := p2_s f
  have hp53 : 2 ^ (f + 1) ≤ 2 ^ 53 := p2_le (by omega)
  have hbias : (if sgl = 0 then (1075 : Int32) else (150 : Int32)) = iZ (1 - lp) := by
    rcases hM with ⟨rfl, rfl, rfl, rfl, rfl⟩ | ⟨rfl, rfl, rfl, rfl, rfl⟩ <;> rfl
  have htop : (if sgl = 0 then (2047 : Int32) else (255 : Int32)) = nI te := by
    rcases hM with ⟨rfl, rfl, rfl, rfl, rfl⟩ | ⟨rfl, rfl, rfl, rfl, rfl⟩ <;> rfl
  have hfar : F_Md_far mi sgl = lN (te * 2 ^ f) ||| F_Md_sign mi sgl := by
    rcases hM with ⟨rfl, rfl, rfl, rfl, rfl⟩ | ⟨rfl, rfl, rfl, rfl, rfl⟩ <;> rfl
  have hx10 : nI (f + 1) - (1 : Int32) = nI f := pk_sub (a := f + 1) (b := 1) (by omega)
  rw [v_length (by omega) hn]
  simp only [Option.bind_some, lt_]
  rw [hbias, htop, hfar, hx10]
  -- the tail for a number below 2^(f + 1)
  have key : ∀ (u : Nat) (G : Int), u < 2 ^ (f + 1) → (0 < u → u < 2 ^ f → G = lp) → lp ≤ G → G ≤ 200001 →
      (if ¬ lN u = (0 : Int64) then ((F_Md_length n (lN u)).bind fun x11 => if nI (f + 1) ≤ x11 then (if iZ G + iZ (1 - lp) < nI te then (some (((lN u &&& (((1 : Int64) <<< ((nI f).toInt64 &&& 63)) - (1 : Int64))) ||| (((iZ G + iZ (1 - lp)).toInt64) <<< ((nI f).toInt64 &&& 63))) ||| (F_Md_sign mi sgl))) else (some (lN (te * 2 ^ f) ||| F_Md_sign mi sgl))) else (some (lN u ||| (F_Md_sign mi sgl)))) else (some (F_Md_sign mi sgl)))
        = some (lN (if u = 0 then 0 else min (te * 2 ^ f) (u + (G - lp).toNat * 2 ^ f)) ||| F_Md_sign mi sgl) := by
    intro u G u1 u2 u3 u4
    by_cases u0 : u = 0
    · subst u0
      rw [if_neg (by decide), if_pos rfl]
      rw [show lN 0 = 0 from rfl, Int64.zero_or]
    · rw [if_pos (fun z => u0 ((lN_z (by omega)).mp z)), v_length (by omega) hn, if_neg u0]
      simp only [Option.bind_some]
      have hb := bl_le u1
      by_cases hu : u < 2 ^ f
      · have hb2 := bl_le hu
        rw [if_neg (nI_ge (by omega) (by omega)), u2 (by omega) hu]
        have : min (te * 2 ^ f) (u + (lp - lp).toNat * 2 ^ f) = u := by
          have hle : 2 ^ f ≤ te * 2 ^ f := Nat.le_mul_of_pos_left _ (by omega)
          rw [show (lp - lp).toNat = 0 by omega]
          omega
        rw [this]
      · have hb2 := bl_gt (Nat.le_of_not_lt hu)
        rw [if_pos (nI_le (by omega) (by omega)), iZ_add]
        have hc : iZ (G + (1 - lp)) < nI te ↔ G + (1 - lp) < te := by
          rw [← iZ_nI]
          exact iZ_lt (by omega) (by omega) (by omega) (by omega)
        by_cases hG : G + (1 - lp) < te
        · rw [if_pos (hc.mpr hG), lN_msk (by omega), wb_mask (by omega) (by omega)]
          have e1 : iZ (G + (1 - lp)) = nI (G - lp + 1).toNat := by
            rw [← iZ_nI]
            congr 1
            omega
          have hle : (G - lp + 1).toNat * 2 ^ f ≤ (te - 1) * 2 ^ f := Nat.mul_le_mul_right _ (by omega)
          have hte : te * 2 ^ f = (te - 1) * 2 ^ f + 2 ^ f := by
            have : te = te - 1 + 1 := by omega
            rw [this, Nat.add_mul, Nat.one_mul]
            rfl
          have hbig : te * 2 ^ f < 2 ^ 63 := by
            rcases hM with ⟨-, rfl, rfl, -⟩ | ⟨-, rfl, rfl, -⟩ <;> decide
          have hmod := Nat.mod_lt u hpf
          have hmm : u % 2 ^ f = u - 2 ^ f := by
            rw [Nat.mod_eq_sub_mod (by omega), Nat.mod_eq_of_lt (by omega)]
          have hsplit : (G - lp + 1).toNat * 2 ^ f = (G - lp).toNat * 2 ^ f + 2 ^ f := by
            rw [show (G - lp + 1).toNat = (G - lp).toNat + 1 by omega, Nat.add_mul, Nat.one_mul]
          rw [e1, nI_l (by omega), wb_shl _ (by omega), g_or' rfl hmod (by omega)]
          have : min (te * 2 ^ f) (u + (G - lp).toNat * 2 ^ f) = u % 2 ^ f + (G - lp + 1).toNat * 2 ^ f := by omega
          rw [this]
        · rw [if_neg (fun z => hG (hc.mp z))]
          have hle : (te - 1) * 2 ^ f ≤ (G - lp).toNat * 2 ^ f := Nat.mul_le_mul_right _ (by omega)
          have hte : te * 2 ^ f = (te - 1) * 2 ^ f + 2 ^ f := by
            have : te = te - 1 + 1 := by omega
            rw [this, Nat.add_mul, Nat.one_mul]
            rfl
          have : min (te * 2 ^ f) (u + (G - lp).toNat * 2 ^ f) = te * 2 ^ f := by omega
          rw [this]
  by_cases hv : v < 2 ^ (f + 1)
  · have hb := bl_le hv
    rw [if_pos (nI_le (by omega) (by omega)), key v E hv h2 h3 (by omega)]
  · have ev : v = 2 ^ (f + 1) := by omega
    have hb := bl_gt (Nat.le_of_not_lt hv)
    have hb2 : bl v ≤ 54 := bl_le (by rw [ev]; exact Nat.pow_lt_pow_right (by decide) (by omega))
    rw [if_neg (nI_ge hb (by omega))]
    have es : ((lN v).toUInt64 >>> (((1 : Int32)).toInt64.toUInt64 &&& Int64.toUInt64 63)).toInt64 = lN (v / 2) := wb_shr (k := 1) (by omega) (by decide)
    have e2 : v / 2 = 2 ^ f := by omega
    have eE : iZ E + Int32.ofInt 1 = iZ (E + 1) := iZ_add E 1
    rw [es, e2, eE, key (2 ^ f) (E + 1) (by omega) (fun _ z => by omega) (by omega) (by omega), if_neg (by omega), if_neg (by omega : ¬ v = 0)]
    have hsplit : (E + 1 - lp).toNat * 2 ^ f = (E - lp).toNat * 2 ^ f + 2 ^ f := by
      rw [show (E + 1 - lp).toNat = (E - lp).toNat + 1 by omega, Nat.add_mul, Nat.one_mul]
    rw [hsplit, show 2 ^ f + ((E - lp).toNat * 2 ^ f + 2 ^ f) = v + (E - lp).toNat * 2 ^ f by omega]

theorem v_round {sgl : Int32} {f te w : Nat} {lp : Int} (hM : mSg sgl f te w lp) {n : Nat} (hn : 64 < n) (mi : Int32) {e : Int} (e1 : -100000 ≤ e) (e2 : e ≤ 100000) {m : Nat} (hm : m < 2 ^ 63) {l : Nat} (hl : l ≤ 1) (hlost : l = 1 → f + 2 ≤ bl m) :
    F_Md_round n mi (lN m) (iZ e) (nI l) sgl = some (lN (mg f (te * 2 ^ f) lp (2 * m + l) (e - 1)) ||| F_Md_sign mi sgl) := by
  have hf : 23 ≤ f ∧ f ≤ 52 ∧ 255 ≤ te ∧ te ≤ 2047 ∧ -1074 ≤ lp ∧ lp ≤ -149 := by
    rcases hM with h | h <;> omega
  obtain ⟨f1, f2, t1, t2, l1, l2⟩ := hf
  have hp : (if sgl = 0 then (53 : Int32) else (24 : Int32)) = nI (f + 1) := by
    rcases hM with ⟨rfl, rfl, rfl, rfl, rfl⟩ | ⟨rfl, rfl, rfl, rfl, rfl⟩ <;> rfl
  have hle : (if sgl = 0 then (-1074 : Int32) else (-149 : Int32)) = iZ lp := by
    rcases hM with ⟨rfl, rfl, rfl, rfl, rfl⟩ | ⟨rfl, rfl, rfl, rfl, rfl⟩ <;> rfl
  have hb := bl_le hm
  unfold F_Md_round
  simp only [lt_]
  rw [hp, hle, v_length (by omega) hn]
  simp only [Option.bind_some]
  have hsh : (if nI (bl m) - nI (f + 1) < iZ lp - iZ e then iZ lp - iZ e else nI (bl m) - nI (f + 1)) = iZ (max ((bl m : Int) - (f + 1)) (lp - e)) := by
    rw [← iZ_nI, ← iZ_nI, iZ_sub, iZ_sub]
    have hc : iZ ((bl m : Int) - ((f + 1 : Nat) : Int)) < iZ (lp - e) ↔ (bl m : Int) - ((f + 1 : Nat) : Int) < lp - e := iZ_lt (by omega) (by omega) (by omega) (by omega)
    by_cases h : (bl m : Int) - ((f + 1 : Nat) : Int) < lp - e
    · rw [if_pos (hc.mpr h)]
      congr 1
      omega
    · rw [if_neg (fun z => h (hc.mp z))]
      congr 1
      omega
  rw [hsh]
  generalize hS : max ((bl m : Int) - (f + 1)) (lp - e) = S at *
  have hE : iZ e + iZ S = iZ (e + S) := iZ_add e S
  rw [hE]
  -- what the number before the last part is
  have hS0 : m ≠ 0 → mgS f lp (2 * m + l) (e - 1) = S + 1 := by
    intro h
    unfold mgS
    rw [bl_2 h hl]
    omega
  have hps := p2_s f
  have tail := fun (v : Nat) (h1 : v ≤ 2 ^ (f + 1)) (h2 : 0 < v → v < 2 ^ f → e + S = lp) => mr_tail hM hn mi (v := v) (E := e + S) h1 h2 (by omega) (by omega)
  simp only [lt_] at tail
  have hpf := p2_pos f
  have hq : m ≠ 0 → mgQ (2 * m + l) (S + 1) ≤ 2 ^ (f + 1) ∧ (mgQ (2 * m + l) (S + 1) < 2 ^ f → e + S = lp) := by
    intro h
    have b1 := bl_2 h hl
    have b2 := bl_lt (2 * m + l)
    have b3 := bl_ge (n := 2 * m + l) (by omega)
    have b4 := bl_pos h
    rw [b1] at b2 b3
    rw [show bl m + 1 - 1 = bl m by omega] at b3
    unfold mgQ
    by_cases hs : S + 1 ≤ 0
    · rw [if_pos hs]
      generalize hk : (-(S + 1)).toNat = k
      constructor
      · have h1 : (2 * m + l) * 2 ^ k ≤ 2 ^ (bl m + 1) * 2 ^ k := Nat.mul_le_mul_right _ (by omega)
        rw [← Nat.pow_add] at h1
        exact Nat.le_trans h1 (p2_le (by omega))
      · intro h2
        rcases (by omega : S = (bl m : Int) - (f + 1) ∨ S = lp - e) with h3 | h3
        · exfalso
          have h1 : 2 ^ bl m * 2 ^ k ≤ (2 * m + l) * 2 ^ k := Nat.mul_le_mul_right _ b3
          rw [← Nat.pow_add, show bl m + k = f by omega] at h1
          omega
        · omega
    · rw [if_neg hs]
      constructor
      · apply rne_le
        have h1 : 2 ^ (bl m + 1) ≤ 2 ^ (f + 1 + (S + 1).toNat) := p2_le (by omega)
        rw [Nat.pow_add 2 (f + 1)] at h1
        omega
      · intro h2
        rcases (by omega : S = (bl m : Int) - (f + 1) ∨ S = lp - e) with h3 | h3
        · exfalso
          have h1 : 2 ^ f ≤ rne (2 * m + l) (S + 1).toNat := by
            apply rne_ge
            rw [← Nat.pow_add, show f + (S + 1).toNat = bl m by omega]
            exact b3
          omega
        · omega
  have fin : ∀ v : Nat, (m = 0 → v = 0) → (m ≠ 0 → v = mgQ (2 * m + l) (S + 1)) → (v ≤ 2 ^ (f + 1) ∧ (0 < v → v < 2 ^ f → e + S = lp)) ∧ (lN (if v = 0 then 0 else min (te * 2 ^ f) (v + (e + S - lp).toNat * 2 ^ f))) = lN (mg f (te * 2 ^ f) lp (2 * m + l) (e - 1)) := by
    intro v hv0 hv
    by_cases h : m = 0
    · have h0 := hv0 h
      have hl0 : l = 0 := by
        rcases (by omega : l = 0 ∨ l = 1) with z | z
        · exact z
        · have := hlost z
          rw [h, bl_0] at this
          omega
      subst h0 hl0 h
      exact ⟨⟨by omega, fun z => by omega⟩, rfl⟩
    · obtain ⟨g1, g2⟩ := hq h
      have hv' := hv h
      rw [← hv'] at g1 g2
      refine ⟨⟨g1, fun _ => g2⟩, ?_⟩
      congr 1
      unfold mg
      rw [if_neg (by omega : ¬ 2 * m + l = 0), hS0 h, ← hv']
      have e3 : (e - 1 + (S + 1) - lp).toNat = (e + S - lp).toNat := by omega
      rw [e3]
      by_cases hz : v = 0
      · rw [if_pos hz, hz, show (e + S - lp).toNat = 0 by have := g2 (by omega); omega]
        simp
      · rw [if_neg hz]
  have go : ∀ v : Nat, (m = 0 → v = 0) → (m ≠ 0 → v = mgQ (2 * m + l) (S + 1)) → _ := fun v h1 h2 => (tail v (fin v h1 h2).1.1 (fin v h1 h2).1.2).trans (by rw [(fin v h1 h2).2])
  have c0 : (0 : Int32) < iZ S ↔ 0 < S := iZ_lt (a := 0) (by omega) (by omega) (by omega) (by omega)
  by_cases s0 : 0 < S
  · rw [if_pos (c0.mpr s0)]
    have c64 : iZ S ≤ (64 : Int32) ↔ S ≤ 64 := iZ_le (b := 64) (by omega) (by omega) (by omega) (by omega)
    have hSN : iZ S = nI S.toNat := by
      rw [← iZ_nI]
      congr 1
      omega
    have hQ : mgQ (2 * m + l) (S + 1) = rne (2 * m + l) (S.toNat + 1) := by
      unfold mgQ
      rw [if_neg (by omega), show (S + 1).toNat = S.toNat + 1 by omega]
    by_cases s64 : S ≤ 64
    · rw [if_pos (c64.mpr s64)]
      have c64' : iZ S = (64 : Int32) ↔ S = 64 := iZ_eq (b := 64) (by omega) (by omega) (by omega) (by omega)
      by_cases sE : S = 64
      · have hE64 := c64'.mpr sE
        rw [if_neg (not_not_intro hE64), if_neg (not_not_intro hE64), if_pos (by decide)]
        refine go 0 (fun _ => rfl) (fun _ => ?_)
        rw [hQ]
        symm
        apply rne_0 (by omega)
        rw [show S.toNat + 1 - 1 = 64 by omega]
        omega
      · have hE64 : ¬ iZ S = (64 : Int32) := fun z => sE (c64'.mp z)
        rw [if_pos hE64, if_pos hE64]
        have hm1 : iZ S - (1 : Int32) = nI (S.toNat - 1) := by
          rw [hSN]
          exact pk_sub (a := S.toNat) (b := 1) (by omega)
        have hh : ((lN m).toUInt64 >>> ((iZ S - (1 : Int32)).toInt64.toUInt64 &&& Int64.toUInt64 63)).toInt64 = lN (m / 2 ^ (S.toNat - 1)) := by
          rw [hm1]
          exact wb_shr (by omega) (by omega)
        have hbf : lN m &&& (((1 : Int64) <<< ((iZ S - (1 : Int32)).toInt64 &&& 63)) - (1 : Int64)) = lN (m % 2 ^ (S.toNat - 1)) := by
          rw [hm1, lN_msk (by omega)]
          exact wb_mask (by omega) (by omega)
        rw [hh, hbf]
        have d1 := Nat.div_le_self m (2 ^ (S.toNat - 1))
        have d2 := Nat.mod_le m (2 ^ (S.toNat - 1))
        generalize hH : m / 2 ^ (S.toNat - 1) = hf2 at *
        generalize hR : m % 2 ^ (S.toNat - 1) = rf at *
        have hv1 : ((lN hf2).toUInt64 >>> (((1 : Int32)).toInt64.toUInt64 &&& Int64.toUInt64 63)).toInt64 = lN (hf2 / 2) := wb_shr (k := 1) (by omega) (by decide)
        have hb1 : lN hf2 &&& (1 : Int64) = lN (hf2 % 2) := wb_a1 (by omega)
        have hb2 : lN (hf2 / 2) &&& (1 : Int64) = lN (hf2 / 2 % 2) := wb_a1 (by omega)
        have k1 : lN (hf2 % 2) = (1 : Int64) ↔ hf2 % 2 = 1 := pk_lEQ (b := 1) (by omega) (by omega)
        have k2 : lN (hf2 / 2 % 2) = (1 : Int64) ↔ hf2 / 2 % 2 = 1 := pk_lEQ (b := 1) (by omega) (by omega)
        have k3 : lN rf = (0 : Int64) ↔ rf = 0 := lN_z (by omega)
        have k4 : nI l = (0 : Int32) ↔ l = 0 := nI_eq (b := 0) (by omega) (by omega)
        have hrn := rne_half (m := m) (lost := l) (sh := S.toNat) hl (by omega)
        rw [hH, hR] at hrn
        rw [hv1, hb1, hb2]
        simp only [k1, k2, k3, k4]
        have hinc : lN (hf2 / 2) + (1 : Int64) = lN (hf2 / 2 + 1) := lN_1 _
        rw [hinc]
        have hz0 : m = 0 → hf2 = 0 ∧ rf = 0 := by
          intro z
          subst z
          constructor
          · rw [← hH]; simp
          · rw [← hR]; simp
        have hup : (hf2 % 2 = 1 ∧ ((rf ≠ 0 ∨ l = 1) ∨ hf2 / 2 % 2 = 1)) → _ := fun hc => go (hf2 / 2 + 1) (fun z => by have := hz0 z; omega) (fun _ => by rw [hQ, hrn, if_pos hc])
        have hdn : ¬ (hf2 % 2 = 1 ∧ ((rf ≠ 0 ∨ l = 1) ∨ hf2 / 2 % 2 = 1)) → _ := fun hc => go (hf2 / 2) (fun z => by have := hz0 z; omega) (fun _ => by rw [hQ, hrn, if_neg hc])
        by_cases a1 : hf2 % 2 = 1
        · rw [if_neg (not_not_intro a1)]
          by_cases a2 : rf = 0
          · rw [if_neg (not_not_intro a2)]
            by_cases a3 : l = 0
            · rw [if_pos a3, if_neg (not_not_intro rfl)]
              by_cases a4 : hf2 / 2 % 2 = 1
              · rw [if_neg (not_not_intro a4)]
                exact hup ⟨a1, Or.inr a4⟩
              · rw [if_pos a4]
                exact hdn (by omega)
            · rw [if_neg a3, if_pos (by decide)]
              exact hup ⟨a1, Or.inl (Or.inr (by omega))⟩
          · rw [if_pos a2, if_pos (by decide)]
            exact hup ⟨a1, Or.inl (Or.inl a2)⟩
        · rw [if_pos a1]
          exact hdn (by omega)
    · rw [if_neg (fun z => s64 (c64.mp z))]
      refine go 0 (fun _ => rfl) (fun _ => ?_)
      rw [hQ]
      symm
      apply rne_0 (by omega)
      have : 2 ^ 64 ≤ 2 ^ (S.toNat + 1 - 1) := p2_le (by omega)
      omega
  · rw [if_neg (fun z => s0 (c0.mp z))]
    have hneg : -iZ S = nI (-S).toNat := by
      rw [iZ_neg, ← iZ_nI]
      congr 1
      omega
    have hl0 : l = 0 := by
      rcases (by omega : l = 0 ∨ l = 1) with z | z
      · exact z
      · have := hlost z
        omega
    rw [hneg, wb_shl m (by omega)]
    refine go (m * 2 ^ (-S).toNat) (fun z => by rw [z]; simp) (fun _ => ?_)
    rw [hl0]
    unfold mgQ
    by_cases hs : S + 1 ≤ 0
    · rw [if_pos hs, show (-S).toNat = (-(S + 1)).toNat + 1 by omega, p2_s]
      rw [Nat.add_zero, Nat.mul_left_comm, ← Nat.mul_assoc]
    · rw [if_neg hs, show (-S).toNat = 0 by omega, show (S + 1).toNat = 1 by omega]
      have := rne_eq (by decide) (rq_exact (s := 1) m (by decide))
      rw [Nat.pow_zero, Nat.mul_one, Nat.add_zero, Nat.mul_comm 2 m]
      exact this.symm
