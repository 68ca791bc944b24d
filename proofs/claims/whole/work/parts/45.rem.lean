/-! Remainders. -/
theorem mg_id {f te w : Nat} {lp : Int} (h : fmt f te w lp) {u : Nat} (hf : dG w u < te * 2 ^ f) : mg f (te * 2 ^ f) lp (dM f w u) (dP f w lp u) = dG w u := by
  have hb := fmt_b h
  obtain ⟨b1, b2, b3, b4⟩ := fin_b h hf
  have h1 := dG_EF (f := f) (w := w) (by omega) u
  have h2 := dF_lt f u
  have h3 := dM_lt f w u
  have h4 := dM_0 (f := f) (w := w) (by omega) u
  have hps := p2_s f
  unfold mg
  by_cases z : dM f w u = 0
  · rw [if_pos z]
    exact (h4.mp z).symm
  · rw [if_neg z]
    have l1 := bl_le h3
    have hS : mgS f lp (dM f w u) (dP f w lp u) = 0 := by
      unfold mgS
      rcases (by omega : lp < dP f w lp u ∨ dP f w lp u = lp) with q | q
      · have := bl_gt (b4 q)
        omega
      · omega
    rw [hS]
    have hQ : mgQ (dM f w u) 0 = dM f w u := by
      unfold mgQ
      rw [if_pos (by omega)]
      simp
    rw [hQ]
    have : dM f w u + (dP f w lp u + 0 - lp).toNat * 2 ^ f = dG w u := by
      unfold dM dP
      by_cases e : dE f w u = 0
      · rw [if_pos e, e, h1, e]
        simp
      · rw [if_neg e, h1, show (lp + (max (dE f w u) 1 : Nat) - 1 + 0 - lp).toNat = dE f w u - 1 by omega]
        have : dE f w u * 2 ^ f = (dE f w u - 1) * 2 ^ f + 2 ^ f := by
          have : dE f w u = dE f w u - 1 + 1 := by omega
          rw [this, Nat.add_mul, Nat.one_mul]
          rfl
        omega
    rw [this]
    omega
/-- the remainder of a finite number by one that is finite and not 0 -/
def remR (f te w : Nat) (lp : Int) (s1 m1 : Nat) (p1 : Int) (m2 : Nat) (p2 : Int) : Nat :=
  (if p1 < p2 then mg f (te * 2 ^ f) lp m1 p1 else mg f (te * 2 ^ f) lp (m1 * 2 ^ (p1 - p2).toNat % m2) p2) + s1 * 2 ^ w
theorem rem_step (r t z m : Nat) : r * 2 ^ t % m * 2 ^ z % m = r * 2 ^ (t + z) % m := by
  rw [Nat.mod_mul_mod, Nat.mul_assoc, ← Nat.pow_add]
theorem crem_L (K : rK) (a1 a2 : Int64) (j : Int64 → Option Int64) {m : Nat} (h0 : 0 < m) (hm : m < 2 ^ 53) : ∀ (n r : Nat) (z : Int), r < m → -20 ≤ z → z ≤ 10 * n → z ≤ 100000 → F_Real_remainder_L80 K a1 a2 (lN m) j (n + 1) (lN r) (iZ z) = j (lN (r * 2 ^ z.toNat % m)) := by
  intro n
  have hz : ¬ lN m = 0 := fun z => by have := (lN_z (by omega)).mp z; omega
  have fin : ∀ (n r : Nat) (z : Int), r < m → -20 ≤ z → z ≤ 0 → F_Real_remainder_L80 K a1 a2 (lN m) j (n + 1) (lN r) (iZ z) = j (lN (r * 2 ^ z.toNat % m)) := by
    intro n r z hr z1 z2
    have c : iZ z ≤ (0 : Int32) ↔ z ≤ 0 := iZ_le (b := 0) (by omega) (by omega) (by omega) (by omega)
    show (if iZ z ≤ 0 then j (lN r) else _) = _
    rw [if_pos (c.mpr z2), show z.toNat = 0 by omega, Nat.pow_zero, Nat.mul_one, Nat.mod_eq_of_lt hr]
  induction n with
  | zero =>
    intro r z hr z1 z2 z3
    exact fin 0 r z hr z1 (by omega)
  | succ n ih =>
    intro r z hr z1 z2 z3
    by_cases hle : z ≤ 0
    · exact fin (n + 1) r z hr z1 hle
    · have c : iZ z ≤ (0 : Int32) ↔ z ≤ 0 := iZ_le (b := 0) (by omega) (by omega) (by omega) (by omega)
      have c0 : ¬ iZ z ≤ 0 := fun q => hle (c.mp q)
      have c10 : (10 : Int32) < iZ z ↔ 10 < z := iZ_lt (a := 10) (by omega) (by omega) (by omega) (by omega)
      have et : (if (10 : Int32) < iZ z then (10 : Int32) else iZ z) = nI (min z 10).toNat := by
        by_cases q : 10 < z
        · rw [if_pos (c10.mpr q), show (min z 10).toNat = 10 by omega]; rfl
        · rw [if_neg (fun y => q (c10.mp y)), ← iZ_nI]
          congr 1
          omega
      have unf : ∀ k : Nat, F_Real_remainder_L80 K a1 a2 (lN m) j (k + 1) (lN r) (iZ z) = F_Real_remainder_L80 K a1 a2 (lN m) j k ((lN r <<< ((if (10 : Int32) < iZ z then (10 : Int32) else iZ z).toInt64 &&& 63)) - (lN r <<< ((if (10 : Int32) < iZ z then (10 : Int32) else iZ z).toInt64 &&& 63)) / lN m * lN m) (iZ z + Int32.ofInt (-10)) := by
        intro k
        show (if iZ z ≤ 0 then j (lN r) else _) = _
        rw [if_neg c0]
        show gz_ (lN m = 0) _ = _
        unfold gz_
        rw [if_neg hz]
        simp only [lt_]
      have ez : iZ z + Int32.ofInt (-10) = iZ (z - 10) := by
        rw [show Int32.ofInt (-10) = iZ (-10) from rfl, iZ_add]
        congr 1
      have hsh : r * 2 ^ (min z 10).toNat < 2 ^ 63 := by
        have h1 : 2 ^ (min z 10).toNat ≤ 2 ^ 10 := p2_le (by omega)
        have h2 : r * 2 ^ (min z 10).toNat ≤ r * 2 ^ 10 := Nat.mul_le_mul_left _ h1
        omega
      rw [unf (n + 1), et, ez, wb_shl r (by omega), pk_lRem hsh h0 (by omega), ih _ (z - 10) (Nat.mod_lt _ h0) (by omega) (by omega) (by omega), rem_step, show (min z 10).toNat + (z - 10).toNat = z.toNat by omega]
theorem mrem_L (m1 m2 : Int64) (e1 : Int32) {p2 : Int} (r3 : -3000 ≤ p2) (r4 : p2 ≤ 3000) (mi1 na1 na2 fa1 fa2 a1 : Int32) (j : Int64 → Int32 → Option Int64) {m : Nat} (h0 : 0 < m) (hm : m < 2 ^ 62) : ∀ (d n r : Nat), d < n → d ≤ 100000 → r < m → F_Md_rest_L176 m1 m2 e1 (iZ p2) mi1 na1 na2 fa1 fa2 a1 (lN m) j n (lN r) (iZ (p2 + d)) = j (lN (r * 2 ^ d % m)) (iZ p2) := by
  have hz : ¬ lN m = 0 := fun z => by have := (lN_z (by omega)).mp z; omega
  intro d
  induction d with
  | zero =>
    intro n r hn _ hr
    obtain ⟨n, rfl⟩ : ∃ k, n = k + 1 := ⟨n - 1, by omega⟩
    show (if iZ (p2 + (0 : Nat)) ≤ iZ p2 then j (lN r) (iZ (p2 + (0 : Nat))) else _) = _
    rw [show p2 + ((0 : Nat) : Int) = p2 by omega, if_pos ((iZ_le (by omega) (by omega) (by omega) (by omega)).mpr (by omega)), Nat.pow_zero, Nat.mul_one, Nat.mod_eq_of_lt hr]
  | succ d ih =>
    intro n r hn hd hr
    obtain ⟨n, rfl⟩ : ∃ k, n = k + 1 := ⟨n - 1, by omega⟩
    have c0 : ¬ iZ (p2 + ((d + 1 : Nat) : Int)) ≤ iZ p2 := fun q => by have := (iZ_le (by omega) (by omega) (by omega) (by omega)).mp q; omega
    have unf : F_Md_rest_L176 m1 m2 e1 (iZ p2) mi1 na1 na2 fa1 fa2 a1 (lN m) j (n + 1) (lN r) (iZ (p2 + ((d + 1 : Nat) : Int))) = F_Md_rest_L176 m1 m2 e1 (iZ p2) mi1 na1 na2 fa1 fa2 a1 (lN m) j n (((2 : Int64) * lN r) - ((2 : Int64) * lN r) / lN m * lN m) (iZ (p2 + ((d + 1 : Nat) : Int)) + Int32.ofInt (-1)) := by
      show (if iZ (p2 + ((d + 1 : Nat) : Int)) ≤ iZ p2 then j (lN r) _ else _) = _
      rw [if_neg c0]
      show gz_ (lN m = 0) _ = _
      unfold gz_
      rw [if_neg hz]
      simp only [lt_]
    have ez : iZ (p2 + ((d + 1 : Nat) : Int)) + Int32.ofInt (-1) = iZ (p2 + d) := by
      rw [show Int32.ofInt (-1) = iZ (-1) from rfl, iZ_add]
      congr 1
      omega
    have e2 : (2 : Int64) * lN r = lN (2 * r) := lN_mul 2 r
    rw [unf, ez, e2, pk_lRem (by omega) h0 (by omega), ih n _ (by omega) (by omega) (Nat.mod_lt _ h0)]
    have := rem_step r 1 d m
    rw [Nat.pow_one, Nat.mul_comm r 2, Nat.add_comm 1 d] at this
    rw [this]
set_option maxHeartbeats 4000000 in
theorem v_rest_fin {sgl : Int32} {f te w : Nat} {lp : Int} (hM : mSg sgl f te w lp) {n : Nat} (hn : 10000 < n) {m1 m2 s1 : Nat} {p1 p2 : Int} (h1 : m1 < 2 ^ (f + 1)) (h2 : m2 < 2 ^ (f + 1)) (n2 : m2 ≠ 0) (hno : p1 < p2 → 2 ^ f ≤ m2) (r1 : -3000 ≤ p1) (r2 : p1 ≤ 3000) (r3 : -3000 ≤ p2) (r4 : p2 ≤ 3000) (hs1 : s1 ≤ 1) :
    F_Md_rest n (lN m1) (lN m2) (iZ p1) (iZ p2) (nI s1) 0 0 0 0 sgl = some (lN (remR f te w lp s1 m1 p1 m2 p2)) := by
  have hF := mSg_fmt hM
  have hb := fmt_b hF
  have hinf := fmt_inf hF
  have hpf := p2_pos f
  have hps := p2_s f
  have hp53 : 2 ^ (f + 1) ≤ 2 ^ 53 := p2_le (by omega)
  have z0 : ((0 : Int32) = 0) = True := by decide
  have k2 : (lN m2 = (0 : Int64)) = False := eq_false (fun z => n2 ((lN_z (by omega)).mp z))
  have hround : ∀ (m : Nat) (p : Int), m < 2 ^ (f + 1) → -3000 ≤ p → p ≤ 3000 → (F_Md_round n (nI s1) (lN m) (iZ p) (0 : Int32) sgl).bind (fun x => some x) = some (lN (mg f (te * 2 ^ f) lp m p + s1 * 2 ^ w)) := by
    intro m p hm q1 q2
    have := v_round hM (n := n) (by omega) (nI s1) (e := p) (m := m) (l := 0) (by omega) (by omega) (by omega) (by omega) (fun z => by omega)
    rw [show (0 : Int32) = nI 0 from rfl, this]
    simp only [Option.bind_some]
    have hle := mg_le f (te * 2 ^ f) lp m p
    rw [Nat.add_zero, mg_two, v_sgnM hM (by omega) hs1]
  unfold F_Md_rest
  simp only [lt_, z0, k2, not_true_eq_false, not_false_eq_true, if_true, if_false]
  unfold remR
  by_cases hm1 : m1 = 0
  · have k1 : (lN m1 = (0 : Int64)) = True := eq_true ((lN_z (by omega)).mpr hm1)
    simp only [k1, not_true_eq_false, if_false]
    rw [hround m1 p1 h1 r1 r2, hm1, Nat.zero_mul, Nat.zero_mod, mg_0, mg_0]
    split <;> rfl
  · have k1 : (lN m1 = (0 : Int64)) = False := eq_false (fun z => hm1 ((lN_z (by omega)).mp z))
    simp only [k1, not_false_eq_true, if_true]
    have c12 : iZ p2 ≤ iZ p1 ↔ p2 ≤ p1 := iZ_le (by omega) (by omega) (by omega) (by omega)
    by_cases hp : p2 ≤ p1
    · rw [if_pos (c12.mpr hp), if_neg (show ¬ p1 < p2 by omega)]
      unfold gz_
      rw [if_neg (show ¬ False from id), pk_lRem (by omega) (by omega) (by omega)]
      obtain ⟨d, hd⟩ : ∃ d : Nat, p1 = p2 + d := ⟨(p1 - p2).toNat, by omega⟩
      have := mrem_L (lN m1) (lN m2) (iZ p1) r3 r4 (nI s1) 0 0 0 0 sgl (fun y4 y5 => (F_Md_round n (nI s1) y4 y5 (0 : Int32) sgl).bind fun x6 => some x6) (m := m2) (by omega) (by omega) d n (m1 % m2) (by omega) (by omega) (Nat.mod_lt _ (by omega))
      rw [← hd] at this
      rw [this]
      have e := rem_step m1 0 d m2
      rw [Nat.pow_zero, Nat.mul_one, Nat.zero_add] at e
      have hlt := Nat.mod_lt (m1 * 2 ^ d) (show 0 < m2 by omega)
      rw [e, show (p1 - p2).toNat = d by omega]
      exact hround _ p2 (by omega) r3 r4
    · rw [if_neg (fun z => hp (c12.mp z)), if_pos (show p1 < p2 by omega)]
      have l2 := bl_le (Nat.lt_of_lt_of_le h2 hp53)
      have l1 := bl_pos n2
      rw [v_length (by omega) (by omega)]
      simp only [Option.bind_some]
      have e60 : nI (bl m2) + iZ p2 - iZ p1 = iZ (bl m2 + p2 - p1) := by rw [← iZ_nI, iZ_add, iZ_sub]
      have c60 : (60 : Int32) < iZ (bl m2 + p2 - p1) ↔ 60 < bl m2 + p2 - p1 := iZ_lt (a := 60) (by omega) (by omega) (by omega) (by omega)
      rw [e60]
      by_cases h60 : 60 < (bl m2 : Int) + p2 - p1
      · rw [if_pos (c60.mpr h60)]
        exact hround m1 p1 h1 r1 r2
      · rw [if_neg (fun z => h60 (c60.mp z))]
        have ed : iZ p2 - iZ p1 = nI (p2 - p1).toNat := by
          rw [iZ_sub, ← iZ_nI]
          congr 1
          omega
        rw [ed, wb_shl m2 (by omega)]
        have hlt := bl_lt m2
        have hd1 : 2 ^ 1 ≤ 2 ^ (p2 - p1).toNat := p2_le (by omega)
        have hb2 : m2 * 2 ^ (p2 - p1).toNat < 2 ^ 60 := by
          have h3 : m2 * 2 ^ (p2 - p1).toNat < 2 ^ bl m2 * 2 ^ (p2 - p1).toNat := Nat.mul_lt_mul_of_pos_right hlt (p2_pos _)
          rw [← Nat.pow_add] at h3
          exact Nat.lt_of_lt_of_le h3 (p2_le (by omega))
        have hb1 : 2 ^ f * 2 ^ 1 ≤ m2 * 2 ^ (p2 - p1).toNat := Nat.mul_le_mul (hno (by omega)) hd1
        have cl : lN (m2 * 2 ^ (p2 - p1).toNat) ≤ lN m1 ↔ m2 * 2 ^ (p2 - p1).toNat ≤ m1 := pk_lLE (by omega) (by omega)
        rw [if_neg (fun z => by have := cl.mp z; omega)]
        exact hround m1 p1 h1 r1 r2
set_option maxHeartbeats 4000000 in
theorem v_remainder_fin {K : rK} {f te w : Nat} {lp : Int} (hK : kS K f te w lp) {n : Nat} (hn : 10000 < n) {a b : Nat} (ha : a < 2 ^ 64) (hb : b < 2 ^ 64) (fa : dG w a < te * 2 ^ f) (fb : dG w b < te * 2 ^ f) (nb : dG w b ≠ 0) :
    F_Real_remainder n K (lN a) (lN b) = some (lN (remR f te w lp (dS w a) (dM f w a) (dP f w lp a) (dM f w b) (dP f w lp b))) := by
  have hF := kS_fmt hK
  have hbb := fmt_b hF
  have hi := inf_lt hF
  have hinf := fmt_inf hF
  have hpf := p2_pos f
  obtain ⟨-, g1, g2, g3⟩ := fin_b hF fa
  obtain ⟨-, l1, l2, l3⟩ := fin_b hF fb
  have sa := dS_le w a
  have hp53 : 2 ^ (f + 1) ≤ 2 ^ 53 := p2_le (by omega)
  have ma := dM_lt f w a
  have mb := dM_lt f w b
  have zb : dM f w b ≠ 0 := fun z => nb ((dM_0 (by omega) b).mp z)
  have z0 : ((0 : Int32) = 0) = True := by decide
  unfold F_Real_remainder
  simp only [lt_]
  rw [v_isInfinite hK ha, v_isZero hK hb, v_magnitude hK ha, v_magnitude hK hb, v_isNegative hK ha, v_significand hK ha, v_significand hK hb, v_power hK ha, v_power hK hb, if_neg (show ¬ dG w a = te * 2 ^ f by omega), if_neg nb]
  simp only [z0, not_true_eq_false, if_true, if_false]
  have cg : lN (dG w b) ≤ lN (dG w a) ↔ dG w b ≤ dG w a := pk_lLE (by omega) (by omega)
  have hid := mg_id hF fa
  unfold remR
  by_cases ho : dG w b ≤ dG w a
  · obtain ⟨o1, o2⟩ := ord_b hF ho
    rw [if_pos (cg.mpr ho), if_neg (show ¬ dP f w lp a < dP f w lp b by omega)]
    have hz : ¬ lN (dM f w b) = 0 := fun z => zb ((lN_z (by omega)).mp z)
    unfold gz_
    rw [if_neg hz, pk_lRem (by omega) (by omega) (by omega), iZ_sub]
    obtain ⟨k, rfl⟩ : ∃ k, n = k + 1 := ⟨n - 1, by omega⟩
    have := crem_L K (lN a) (lN b) (fun y4 => (F_Real_rounded (k + 1) K (nI (dS w a)) (iZ (dP f w lp b)) y4).bind fun x5 => some x5) (m := dM f w b) (by omega) (by omega) k (dM f w a % dM f w b) (dP f w lp a - dP f w lp b) (Nat.mod_lt _ (by omega)) (by omega) (by omega) (by omega)
    rw [this]
    have e := rem_step (dM f w a) 0 (dP f w lp a - dP f w lp b).toNat (dM f w b)
    rw [Nat.pow_zero, Nat.mul_one, Nat.zero_add] at e
    have hlt := Nat.mod_lt (dM f w a * 2 ^ (dP f w lp a - dP f w lp b).toNat) (show 0 < dM f w b by omega)
    rw [e, v_rounded hK (by omega) _ (by omega) (by omega) (by omega)]
    simp only [Option.bind_some]
    have hle := mg_le f (te * 2 ^ f) lp (dM f w a * 2 ^ (dP f w lp a - dP f w lp b).toNat % dM f w b) (dP f w lp b)
    rw [v_signed hK (by omega) sa]
  · rw [if_neg (fun z => ho (cg.mp z)), v_signed hK (by omega) sa]
    obtain ⟨o1, o2⟩ := ord_b hF (g := b) (l := a) (by omega)
    by_cases hp : dP f w lp a < dP f w lp b
    · rw [if_pos hp, hid]
    · have ep : dP f w lp a = dP f w lp b := by omega
      have hne : dM f w a ≠ dM f w b := by
        intro q
        have h1 := mg_id hF fb
        rw [← q, ← ep, hid] at h1
        omega
      have := o2 ep
      rw [if_neg hp, ep, show (dP f w lp b - dP f w lp b).toNat = 0 by omega, Nat.pow_zero, Nat.mul_one, Nat.mod_eq_of_lt (by omega), ← ep, hid]
