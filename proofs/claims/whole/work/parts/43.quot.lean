/-! Quotients. -/
def quoR (f te w : Nat) (lp : Int) (s1 m1 : Nat) (p1 : Int) (s2 m2 : Nat) (p2 : Int) : Nat :=
  mg f (te * 2 ^ f) lp (2 * (m1 * 2 ^ (61 - bl m1) * 2 ^ 61 / (m2 * 2 ^ (61 - bl m2))) + (if m1 * 2 ^ (61 - bl m1) * 2 ^ 61 % (m2 * 2 ^ (61 - bl m2)) = 0 then 0 else 1)) (p1 - (61 - bl m1 : Nat) - p2 + (61 - bl m2 : Nat) - 61 - 1) + (s1 + s2) % 2 * 2 ^ w
/-- the reference's loop: one binary place a turn -/
theorem over_L (m1 m2 : Int64) (e1 e2 mi1 mi2 na1 na2 fa1 fa2 a1 x1 x3 x5 : Int32) (j : Int64 → Int64 → Option Int64) {R : Nat} (hR : R < 2 ^ 61) :
    ∀ (d n k left q : Nat), k + d = 62 → d < n → left < 2 * R → ∃ left' q' : Nat, F_Md_over_L179 m1 m2 e1 e2 mi1 mi2 na1 na2 fa1 fa2 a1 x1 x3 x5 (lN R) j n (lN left) (lN q) (nI k) = j (lN left') (lN q') ∧ left' + 2 * q' * R = (left + 2 * q * R) * 2 ^ d ∧ left' < 2 * R ∧ (0 < d → left' % 2 = 0) := by
  intro d
  induction d with
  | zero =>
    intro n k left q hk hn hl
    obtain ⟨n, rfl⟩ : ∃ i, n = i + 1 := ⟨n - 1, by omega⟩
    refine ⟨left, q, ?_, by simp, hl, fun z => by omega⟩
    show (if (62 : Int32) ≤ nI k then j (lN left) (lN q) else _) = _
    exact if_pos (nI_le (a := 62) (by omega) (by omega))
  | succ d ih =>
    intro n k left q hk hn hl
    obtain ⟨n, rfl⟩ : ∃ i, n = i + 1 := ⟨n - 1, by omega⟩
    have hc : ¬ (62 : Int32) ≤ nI k := nI_ge (b := 62) (by omega) (by omega)
    have hlt : lN left < lN R ↔ left < R := pk_lLT (by omega) (by omega)
    have sh : ∀ x : Nat, lN x <<< (((1 : Int32)).toInt64 &&& 63) = lN (2 * x) := by
      intro x
      have := wb_shl x (k := 1) (by decide)
      rw [Nat.pow_one, Nat.mul_comm] at this
      exact this
    have hk1 : nI k + Int32.ofInt 1 = nI (k + 1) := nI_1 k
    have unf : F_Md_over_L179 m1 m2 e1 e2 mi1 mi2 na1 na2 fa1 fa2 a1 x1 x3 x5 (lN R) j (n + 1) (lN left) (lN q) (nI k) = F_Md_over_L179 m1 m2 e1 e2 mi1 mi2 na1 na2 fa1 fa2 a1 x1 x3 x5 (lN R) j n ((if lN left < lN R then lN left else lN left - lN R) <<< (((1 : Int32)).toInt64 &&& 63)) (if lN left < lN R then lN q <<< (((1 : Int32)).toInt64 &&& 63) else (lN q <<< (((1 : Int32)).toInt64 &&& 63)) + (1 : Int64)) (nI k + Int32.ofInt 1) := by
      show (if (62 : Int32) ≤ nI k then j (lN left) (lN q) else _) = _
      rw [if_neg hc]
      rfl
    rw [unf, hk1]
    by_cases h : left < R
    · rw [if_pos (hlt.mpr h), if_pos (hlt.mpr h), sh, sh]
      obtain ⟨l', q', g1, g2, g3, g4⟩ := ih n (k + 1) (2 * left) (2 * q) (by omega) (by omega) (by omega)
      refine ⟨l', q', g1, ?_, g3, fun _ => ?_⟩
      · have e : 2 * left + 2 * (2 * q) * R = (left + 2 * q * R) * 2 := by
          have e1 : 2 * (2 * q) * R = 2 * (2 * q * R) := Nat.mul_assoc _ _ _
          omega
        rw [g2, e, p2_s, Nat.mul_assoc]
      · rcases Nat.eq_zero_or_pos d with z | z
        · subst z
          rw [Nat.pow_zero, Nat.mul_one] at g2
          have : 2 * q' * R % 2 = 0 := by rw [Nat.mul_assoc]; omega
          have : 2 * (2 * q) * R % 2 = 0 := by rw [Nat.mul_assoc]; omega
          omega
        · exact g4 z
    · rw [if_neg (fun z => h (hlt.mp z)), if_neg (fun z => h (hlt.mp z)), lN_sub (by omega), sh, sh, lN_1]
      obtain ⟨l', q', g1, g2, g3, g4⟩ := ih n (k + 1) (2 * (left - R)) (2 * q + 1) (by omega) (by omega) (by omega)
      refine ⟨l', q', g1, ?_, g3, fun _ => ?_⟩
      · have e : 2 * (left - R) + 2 * (2 * q + 1) * R = (left + 2 * q * R) * 2 := by
          have e1 : 2 * (2 * q + 1) * R = 2 * (2 * q * R) + 2 * R := by rw [Nat.mul_assoc, Nat.add_mul, Nat.one_mul, Nat.mul_add]
          omega
        rw [g2, e, p2_s, Nat.mul_assoc]
      · rcases Nat.eq_zero_or_pos d with z | z
        · subst z
          rw [Nat.pow_zero, Nat.mul_one] at g2
          have : 2 * q' * R % 2 = 0 := by rw [Nat.mul_assoc]; omega
          have : 2 * (2 * q + 1) * R % 2 = 0 := by rw [Nat.mul_assoc]; omega
          omega
        · exact g4 z
theorem div_of {x q r b : Nat} (h : x = q * b + r) (hr : r < b) : x / b = q ∧ x % b = r := by
  subst h
  rw [Nat.mul_comm, Nat.mul_add_div (by omega), Nat.div_eq_of_lt hr, Nat.mul_add_mod, Nat.mod_eq_of_lt hr]
  exact ⟨rfl, rfl⟩
set_option maxHeartbeats 4000000 in
theorem v_over_fin {sgl : Int32} {f te w : Nat} {lp : Int} (hM : mSg sgl f te w lp) {n : Nat} (hn : 64 < n) {m1 m2 s1 s2 : Nat} {p1 p2 : Int} (h1 : m1 < 2 ^ (f + 1)) (h2 : m2 < 2 ^ (f + 1)) (n1 : m1 ≠ 0) (n2 : m2 ≠ 0) (r1 : -3000 ≤ p1) (r2 : p1 ≤ 3000) (r3 : -3000 ≤ p2) (r4 : p2 ≤ 3000) (hs1 : s1 ≤ 1) (hs2 : s2 ≤ 1) :
    F_Md_over n (lN m1) (lN m2) (iZ p1) (iZ p2) (nI s1) (nI s2) 0 0 0 0 sgl = some (lN (quoR f te w lp s1 m1 p1 s2 m2 p2)) := by
  have hF := mSg_fmt hM
  have hb := fmt_b hF
  have hinf := fmt_inf hF
  have hpf := p2_pos f
  have hp53 : 2 ^ (f + 1) ≤ 2 ^ 53 := p2_le (by omega)
  have z0 : ((0 : Int32) = 0) = True := by decide
  have k1 : (lN m1 = (0 : Int64)) = False := eq_false (fun z => n1 ((lN_z (by omega)).mp z))
  have k2 : (lN m2 = (0 : Int64)) = False := eq_false (fun z => n2 ((lN_z (by omega)).mp z))
  have cS : nI s1 = nI s2 ↔ s1 = s2 := nI_eq (by omega) (by omega)
  have eS : (if nI s1 = nI s2 then (0 : Int32) else (1 : Int32)) = nI ((s1 + s2) % 2) := by
    by_cases h : s1 = s2
    · rw [if_pos (cS.mpr h), show (s1 + s2) % 2 = 0 by omega]; rfl
    · rw [if_neg (fun z => h (cS.mp z)), show (s1 + s2) % 2 = 1 by omega]; rfl
  unfold F_Md_over
  simp only [lt_, z0, k1, k2, not_true_eq_false, not_false_eq_true, if_true, if_false]
  rw [eS]
  have hsx : (s1 + s2) % 2 ≤ 1 := by omega
  unfold quoR
  generalize (s1 + s2) % 2 = sx at *
  have l1 := bl_pos n1
  have l2 := bl_pos n2
  have l3 := bl_le (Nat.lt_of_lt_of_le h1 hp53)
  have l4 := bl_le (Nat.lt_of_lt_of_le h2 hp53)
  rw [v_length (by omega) hn, v_length (by omega) hn]
  simp only [Option.bind_some]
  have e1 : (61 : Int32) - nI (bl m1) = nI (61 - bl m1) := pk_sub (a := 61) (b := bl m1) (by omega)
  have e2 : (61 : Int32) - nI (bl m2) = nI (61 - bl m2) := pk_sub (a := 61) (b := bl m2) (by omega)
  rw [e1, e2, wb_shl m1 (by omega), wb_shl m2 (by omega)]
  have b1 : bl (m1 * 2 ^ (61 - bl m1)) = 61 := by rw [bl_mul n1]; omega
  have b2 : bl (m2 * 2 ^ (61 - bl m2)) = 61 := by rw [bl_mul n2]; omega
  have q1 : m1 * 2 ^ (61 - bl m1) ≠ 0 := Nat.mul_ne_zero n1 (Nat.ne_of_gt (p2_pos _))
  have q2 : m2 * 2 ^ (61 - bl m2) ≠ 0 := Nat.mul_ne_zero n2 (Nat.ne_of_gt (p2_pos _))
  have u1 := bl_lt (m1 * 2 ^ (61 - bl m1))
  have u2 := bl_lt (m2 * 2 ^ (61 - bl m2))
  have v1 := bl_ge q1
  have v2 := bl_ge q2
  rw [b1] at u1 v1
  rw [b2] at u2 v2
  generalize hk1 : 61 - bl m1 = t1 at *
  generalize hk2 : 61 - bl m2 = t2 at *
  generalize m1 * 2 ^ t1 = L at *
  generalize m2 * 2 ^ t2 = R at *
  obtain ⟨left, q, g1, g2, g3, g4⟩ := over_L (lN m1) (lN m2) (iZ p1) (iZ p2) (nI s1) (nI s2) 0 0 0 0 sgl (nI sx) (nI t1) (nI t2) (fun y8 y9 => (F_Md_round n (nI sx) y9 ((((iZ p1 - nI t1) - iZ p2) + nI t2) - (61 : Int32)) (if y8 = (0 : Int64) then (0 : Int32) else (1 : Int32)) sgl).bind fun x11 => some x11) u2 62 n 0 L 0 (by omega) (by omega) (by omega)
  rw [Nat.mul_zero, Nat.zero_mul, Nat.add_zero] at g2
  have g5 := g4 (by decide)
  obtain ⟨rem, hrem⟩ : ∃ r, left = 2 * r := ⟨left / 2, by omega⟩
  have e62 : L * 2 ^ 62 = 2 * (L * 2 ^ 61) := by rw [show 2 ^ 62 = 2 * 2 ^ 61 from rfl, Nat.mul_left_comm]
  have hdq : L * 2 ^ 61 = q * R + rem := by
    have h9 : 2 * q * R = 2 * (q * R) := Nat.mul_assoc _ _ _
    rw [hrem, h9, e62, ← Nat.mul_add] at g2
    have := Nat.eq_of_mul_eq_mul_left (by decide) g2
    rw [← this, Nat.add_comm]
  obtain ⟨d1, d2⟩ := div_of hdq (by omega)
  rw [d1, d2]
  have g1' := g1
  rw [show lN 0 = (0 : Int64) from rfl, show nI 0 = (0 : Int32) from rfl] at g1'
  refine g1'.trans ?_
  have ep : iZ p1 - nI t1 - iZ p2 + nI t2 - (61 : Int32) = iZ (p1 - t1 - p2 + t2 - 61) := by
    rw [← iZ_nI, ← iZ_nI, show (61 : Int32) = iZ 61 from rfl, iZ_sub, iZ_sub, iZ_add, iZ_sub]
  have cl : lN left = (0 : Int64) ↔ rem = 0 := by rw [lN_z (by omega)]; omega
  have el : (if lN left = (0 : Int64) then (0 : Int32) else (1 : Int32)) = nI (if rem = 0 then 0 else 1) := by
    by_cases z : rem = 0
    · rw [if_pos (cl.mpr z), if_pos z]; rfl
    · rw [if_neg (fun y => z (cl.mp y)), if_neg z]; rfl
  have hqlo : 2 ^ 59 ≤ q := by
    rcases Nat.lt_or_ge q (2 ^ 59) with z | z
    · exfalso
      have h3 : (q + 1) * R ≤ 2 ^ 59 * R := Nat.mul_le_mul_right _ z
      have h4 : 2 ^ 59 * R ≤ 2 ^ 59 * 2 ^ 61 := Nat.mul_le_mul_left _ (by omega)
      have h5 : 2 ^ 60 * 2 ^ 61 ≤ L * 2 ^ 61 := Nat.mul_le_mul_right _ v1
      rw [Nat.add_mul, Nat.one_mul] at h3
      omega
    · exact z
  have hqhi : q < 2 ^ 63 := by
    rcases Nat.lt_or_ge q (2 ^ 63) with z | z
    · exact z
    · exfalso
      have h3 : 2 ^ 63 * R ≤ q * R := Nat.mul_le_mul_right _ z
      have h4 : 2 ^ 63 * 2 ^ 60 ≤ 2 ^ 63 * R := Nat.mul_le_mul_left _ v2
      have h5 : L * 2 ^ 61 ≤ 2 ^ 61 * 2 ^ 61 := Nat.mul_le_mul_right _ (by omega)
      omega
  have hbq := bl_gt hqlo
  show (F_Md_round n (nI sx) (lN q) (iZ p1 - nI t1 - iZ p2 + nI t2 - (61 : Int32)) (if lN left = (0 : Int64) then (0 : Int32) else (1 : Int32)) sgl).bind (fun x11 => some x11) = _
  rw [ep, el, v_round hM hn _ (by omega) (by omega) hqhi (by split <;> omega) (fun _ => by omega)]
  simp only [Option.bind_some]
  have hle := mg_le f (te * 2 ^ f) lp (2 * q + if rem = 0 then 0 else 1) (p1 - t1 - p2 + t2 - 61 - 1)
  rw [v_sgnM hM (by omega) hsx]
