/-! The fewest digits (class): in step with the reference. -/
theorem ten_lN : ∀ e : Nat, e ≤ 18 → 10 ^ e < 2 ^ 60 := p10
theorem few_L {f w : Nat} {lp : Int} {x W first last : Nat} {p tens : Int} {ex : Int32} (e0 : Nat) (he0 : 16 ≤ e0) (he1 : e0 ≤ 17) (hp : p = (e0 : Int) + 1 - tens) (ht1 : -380 < tens) (ht2 : tens < 380) (hW : W < 2 ^ 61) (hf0 : first < 2 ^ 62) (hl0 : last < 2 ^ 62)
    (hWv : W = tM (dM f w x) (dP f w lp x) / tD 1 (-tens)) (hex : ex = if tM (dM f w x) (dP f w lp x) % tD 1 (-tens) ≠ 0 then 0 else 1) (hq : -1300 < dP f w lp x)
    (hfi : ∀ z : Nat, first ≤ z ↔ (hw f w lp (x - 1) < tD z (-tens) ∨ (hw f w lp (x - 1) = tD z (-tens) ∧ x % 2 = 0)))
    (hla : ∀ z : Nat, z ≤ last ↔ (tD z (-tens) < hw f w lp x ∨ (tD z (-tens) = hw f w lp x ∧ x % 2 = 0)))
    (hlo : hw f w lp (x - 1) < tM (dM f w x) (dP f w lp x)) (hhi : tM (dM f w x) (dP f w lp x) < hw f w lp x) {D : Nat} {K : Int} (N : Nat) (j109) :
    ∀ (t nn n : Nat), 2 ≤ nn → nn + t ≤ 18 → t < n → spK f w lp x p t nn = some (D, K) →
    F_SD_fewestDigits_L22 (lN W) ex (lN first) (lN last) j109 (fun y => some y) (fun y => some y) (fun (y4 : Int64) (y5 : Int64) => (F_SD_nearer N (lN W) ex y5 y4).bind fun x6 => some x6) n (lN (10 ^ (e0 + 2 - nn))) (nI nn) = some (lN (D * 10 ^ (K + tens).toNat)) := by
  intro t
  induction t with
  | zero => intro nn n _ _ _ h; exact absurd h (by intro z; cases z)
  | succ t ih =>
    intro nn n h2 h18 hn h
    obtain ⟨n, rfl⟩ : ∃ k, n = k + 1 := ⟨n - 1, by omega⟩
    simp only [spK, lt_] at h
    have hk : p - nn + 1 = ((e0 + 2 - nn : Nat) : Int) - tens := by omega
    rw [hk] at h
    have hE : e0 + 2 - nn = (e0 + 1 - nn) + 1 := by omega
    have hE2 : e0 + 2 - nn ≤ 17 := by omega
    obtain ⟨E, hEE⟩ : ∃ E, E = e0 + 2 - nn := ⟨_, rfl⟩
    rw [← hEE] at h hE2 ⊢
    have hE1 : 1 ≤ E := by omega
    have hU : tD 1 ((E : Int) - tens) = 10 ^ E * tD 1 (-tens) := by
      have := tD_ten (k := -tens) (j := E) (by omega)
      rw [show -tens + (E : Int) = (E : Int) - tens by omega] at this
      exact this
    have hUd : ∀ d, tD d ((E : Int) - tens) = tD (d * 10 ^ E) (-tens) := by
      intro d
      rw [tD_mul, hU, tD_mul (d * 10 ^ E), Nat.mul_assoc]
    have hd : tM (dM f w x) (dP f w lp x) / tD 1 ((E : Int) - tens) = W / 10 ^ E := by
      rw [hU, Nat.mul_comm, ← Nat.div_div_eq_div_mul, ← hWv]
    rw [hd] at h
    have h10 : 0 < 10 ^ E := Nat.pow_pos (by decide)
    have hp10 := p10 E (by omega)
    have hmod := Nat.div_add_mod W (10 ^ E)
    have hmlt := Nat.mod_lt W h10
    rw [Nat.mul_comm] at hmod
    have hv := fl_D (v := tM (dM f w x) (dP f w lp x)) (k := -tens)
    rw [← hWv] at hv
    have mono : ∀ a b, a ≤ b → tD a (-tens) ≤ tD b (-tens) := fun a b hab => by
      rw [tD_mul a, tD_mul b]; exact Nat.mul_le_mul_right _ hab
    -- what is read
    have rd : isR f w lp x (W / 10 ^ E) ((E : Int) - tens) ↔ first ≤ W / 10 ^ E * 10 ^ E := by
      unfold isR
      rw [hUd, hfi]
      constructor
      · exact fun z => z.1
      · intro z
        refine ⟨z, Or.inl ?_⟩
        have := mono (W / 10 ^ E * 10 ^ E) W (by omega)
        omega
    have ru : isR f w lp x (W / 10 ^ E + 1) ((E : Int) - tens) ↔ W / 10 ^ E * 10 ^ E + 10 ^ E ≤ last := by
      unfold isR
      rw [hUd, hla, Nat.add_mul, Nat.one_mul]
      constructor
      · exact fun z => z.2
      · intro z
        refine ⟨Or.inl ?_, z⟩
        have := mono (W + 1) (W / 10 ^ E * 10 ^ E + 10 ^ E) (by omega)
        omega
    -- the class's step
    have hx9 : lN W / lN (10 ^ E) * lN (10 ^ E) = lN (W / 10 ^ E * 10 ^ E) := by rw [pk_lDiv (by omega) h10 (by omega), lN_mul]
    have hx10 : lN (W / 10 ^ E * 10 ^ E) + lN (10 ^ E) = lN (W / 10 ^ E * 10 ^ E + 10 ^ E) := lN_add _ _
    have c1 : lN (W / 10 ^ E * 10 ^ E) < lN first ↔ W / 10 ^ E * 10 ^ E < first := pk_lLT (by omega) (by omega)
    have c2 : lN last < lN (W / 10 ^ E * 10 ^ E + 10 ^ E) ↔ last < W / 10 ^ E * 10 ^ E + 10 ^ E := pk_lLT (by omega) (by omega)
    have nz : ¬ lN (10 ^ E) = 0 := fun z => by have := (lN_z (by omega)).mp z; omega
    have stp : ∀ n, F_SD_fewestDigits_L22 (lN W) ex (lN first) (lN last) j109 (fun y => some y) (fun y => some y) (fun (y4 : Int64) (y5 : Int64) => (F_SD_nearer N (lN W) ex y5 y4).bind fun x6 => some x6) (n + 1) (lN (10 ^ E)) (nI nn) =
        (if (17 : Int32) < nI nn then (j109 ()) else (gz_ (lN (10 ^ E) = 0) <| if lN W / lN (10 ^ E) * lN (10 ^ E) < lN first then (if lN W / lN (10 ^ E) * lN (10 ^ E) < lN first then (if lN last < lN W / lN (10 ^ E) * lN (10 ^ E) + lN (10 ^ E) then F_SD_fewestDigits_L22 (lN W) ex (lN first) (lN last) j109 (fun y => some y) (fun y => some y) (fun (y4 : Int64) (y5 : Int64) => (F_SD_nearer N (lN W) ex y5 y4).bind fun x6 => some x6) n (if (1 : Int64) < lN (10 ^ E) / 10 then lN (10 ^ E) / 10 else 1) (nI nn + 1) else some (lN W / lN (10 ^ E) * lN (10 ^ E) + lN (10 ^ E))) else some (lN W / lN (10 ^ E) * lN (10 ^ E))) else (if lN last < lN W / lN (10 ^ E) * lN (10 ^ E) + lN (10 ^ E) then (if lN W / lN (10 ^ E) * lN (10 ^ E) < lN first then (if lN last < lN W / lN (10 ^ E) * lN (10 ^ E) + lN (10 ^ E) then F_SD_fewestDigits_L22 (lN W) ex (lN first) (lN last) j109 (fun y => some y) (fun y => some y) (fun (y4 : Int64) (y5 : Int64) => (F_SD_nearer N (lN W) ex y5 y4).bind fun x6 => some x6) n (if (1 : Int64) < lN (10 ^ E) / 10 then lN (10 ^ E) / 10 else 1) (nI nn + 1) else some (lN W / lN (10 ^ E) * lN (10 ^ E) + lN (10 ^ E))) else some (lN W / lN (10 ^ E) * lN (10 ^ E))) else ((F_SD_nearer N (lN W) ex (lN W / lN (10 ^ E) * lN (10 ^ E)) (lN (10 ^ E))).bind fun x6 => some x6)))) := fun _ => rfl
    rw [stp, if_neg (show ¬ (17 : Int32) < nI nn from nI_nlt (a := 17) (by omega) (by decide)), gzf nz, hx9, hx10]
    have eK : ∀ d : Nat, d * 10 ^ (((E : Int) - tens) + tens).toNat = d * 10 ^ E := by
      intro d
      rw [show (((E : Int) - tens) + tens).toNat = E by omega]
    by_cases r1 : isR f w lp x (W / 10 ^ E) ((E : Int) - tens)
    · have q1 := rd.mp r1
      rw [if_neg (show ¬ lN (W / 10 ^ E * 10 ^ E) < lN first from fun z => by have := c1.mp z; omega)]
      by_cases r2 : isR f w lp x (W / 10 ^ E + 1) ((E : Int) - tens)
      · have q2 := ru.mp r2
        rw [if_neg (show ¬ lN last < lN (W / 10 ^ E * 10 ^ E + 10 ^ E) from fun z => by have := c2.mp z; omega)]
        rw [if_pos r1, if_pos r2] at h
        injection h with h
        injection h with hD hK
        subst hK
        rw [eK, ← hD]
        -- the nearer
        have hhalf : 10 ^ E = 2 * (10 ^ E / 2) := by
          obtain ⟨E', rfl⟩ : ∃ E', E = E' + 1 := ⟨E - 1, by omega⟩
          rw [Nat.pow_succ]
          omega
        have hmid : lN (W / 10 ^ E * 10 ^ E) + lN (10 ^ E) / 2 = lN (W / 10 ^ E * 10 ^ E + 10 ^ E / 2) := by
          rw [show (2 : Int64) = lN 2 from rfl, pk_lDiv (by omega) (by decide) (by decide), lN_add]
        have hpar : lN (W / 10 ^ E * 10 ^ E) / lN (10 ^ E) = lN (W / 10 ^ E) := by
          rw [pk_lDiv (by omega) h10 (by omega), Nat.mul_div_cancel _ h10]
        have hpar2 : lN (W / 10 ^ E) - lN (W / 10 ^ E) / 2 * 2 = lN (W / 10 ^ E % 2) := by
          rw [show (2 : Int64) = lN 2 from rfl]
          exact pk_lRem (by have := Nat.div_le_self W (10 ^ E); omega) (by decide) (by decide)
        have c3 : lN W < lN (W / 10 ^ E * 10 ^ E + 10 ^ E / 2) ↔ W < W / 10 ^ E * 10 ^ E + 10 ^ E / 2 := pk_lLT (by omega) (by omega)
        have c4 : lN W = lN (W / 10 ^ E * 10 ^ E + 10 ^ E / 2) ↔ W = W / 10 ^ E * 10 ^ E + 10 ^ E / 2 := pk_lEQ (by omega) (by omega)
        have c5 : lN (W / 10 ^ E % 2) = 0 ↔ W / 10 ^ E % 2 = 0 := lN_z (by omega)
        have tT : tie (dM f w x) (dP f w lp x) (W / 10 ^ E) ((E : Int) - tens) ↔ (W < W / 10 ^ E * 10 ^ E + 10 ^ E / 2 ∨ (W = W / 10 ^ E * 10 ^ E + 10 ^ E / 2 ∧ ¬ ex = 0 ∧ W / 10 ^ E % 2 = 0)) := by
          unfold tie
          have e1 : tM (dM f w x) (dP f w lp x + 1) = 2 * tM (dM f w x) (dP f w lp x) := by
            have := tM_two (m := dM f w x) (q := dP f w lp x) (j := 1) (by omega)
            rw [show dP f w lp x + ((1 : Nat) : Int) = dP f w lp x + 1 from rfl] at this
            rw [this, tM_mul, tM_mul (dM f w x), Nat.pow_one, Nat.mul_assoc]
          have e2 : tD (2 * (W / 10 ^ E) + 1) ((E : Int) - tens) = 2 * tD (W / 10 ^ E * 10 ^ E + 10 ^ E / 2) (-tens) := by
            rw [hUd, tD_mul, tD_mul (_ + _), ← Nat.mul_assoc]
            congr 1
            rw [Nat.add_mul, Nat.mul_add, Nat.one_mul, ← hhalf, Nat.mul_assoc]
          rw [e1, e2]
          generalize W / 10 ^ E * 10 ^ E + 10 ^ E / 2 = mid at *
          have eV : tM (dM f w x) (dP f w lp x) = W * tD 1 (-tens) + tM (dM f w x) (dP f w lp x) % tD 1 (-tens) := by
            have := Nat.div_add_mod (tM (dM f w x) (dP f w lp x)) (tD 1 (-tens))
            rw [← hWv, Nat.mul_comm] at this
            exact this.symm
          have hr := Nat.mod_lt (tM (dM f w x) (dP f w lp x)) (tD_pos (-tens))
          rw [tD_mul mid]
          rcases Nat.lt_trichotomy W mid with z | z | z
          · have a := Nat.mul_le_mul_right (tD 1 (-tens)) (show W + 1 ≤ mid by omega)
            rw [Nat.add_mul, Nat.one_mul] at a
            exact iff_of_true (Or.inl (by omega)) (Or.inl z)
          · subst z
            by_cases y : tM (dM f w x) (dP f w lp x) % tD 1 (-tens) = 0
            · rw [if_neg (fun q => q y)] at hex
              rw [y, Nat.add_zero] at eV
              constructor
              · rintro (a | ⟨a, b⟩)
                · omega
                · exact Or.inr ⟨rfl, by rw [hex]; decide, b⟩
              · rintro (a | ⟨a, b, cc⟩)
                · omega
                · exact Or.inr ⟨by rw [eV], cc⟩
            · rw [if_pos y] at hex
              refine iff_of_false ?_ ?_
              · rintro (a | ⟨a, b⟩) <;> omega
              · rintro (a | ⟨a, b, cc⟩)
                · omega
                · exact b hex
          · have a := Nat.mul_le_mul_right (tD 1 (-tens)) (show mid + 1 ≤ W by omega)
            rw [Nat.add_mul, Nat.one_mul] at a
            have ht := tD_pos (-tens)
            refine iff_of_false ?_ ?_
            · rintro (a | ⟨a, b⟩) <;> omega
            · rintro (a | ⟨a, b, cc⟩) <;> omega
        unfold F_SD_nearer
        simp only [lt_]
        rw [hmid, hpar, hpar2, gzf nz, hx10]
        have l1 : ¬ (1 : Int32) = 0 := by decide
        by_cases ht : tie (dM f w x) (dP f w lp x) (W / 10 ^ E) ((E : Int) - tens)
        · rw [if_pos ht]
          rcases tT.mp ht with a | ⟨a, b, cc⟩
          · rw [if_pos (c3.mpr a), if_neg l1]
            rfl
          · rw [if_neg (fun z => by have := c3.mp z; omega), if_neg (fun z => z (c4.mpr a)), if_neg b, if_neg (fun z => z (c5.mpr cc)), if_neg l1]
            rfl
        · rw [if_neg ht, Nat.add_mul, Nat.one_mul]
          have nT := fun z => ht (tT.mpr z)
          rw [if_neg (fun z => nT (Or.inl (c3.mp z)))]
          by_cases a : W = W / 10 ^ E * 10 ^ E + 10 ^ E / 2
          · rw [if_neg (fun z => z (c4.mpr a))]
            by_cases b : ex = 0
            · rw [if_pos b, if_pos trivial]
              rfl
            · rw [if_neg b, if_pos (fun z => nT (Or.inr ⟨a, b, c5.mp z⟩)), if_pos trivial]
              rfl
          · rw [if_pos (fun z => a (c4.mp z)), if_pos trivial]
            rfl
      · have q2 : last < W / 10 ^ E * 10 ^ E + 10 ^ E := Nat.lt_of_not_le (fun z => r2 (ru.mpr z))
        rw [if_pos (c2.mpr q2), if_neg (show ¬ lN (W / 10 ^ E * 10 ^ E) < lN first from fun z => by have := c1.mp z; omega)]
        rw [if_pos r1, if_neg r2] at h
        injection h with h
        injection h with hD hK
        subst hK
        rw [eK, ← hD]
    · have q1 : W / 10 ^ E * 10 ^ E < first := Nat.lt_of_not_le (fun z => r1 (rd.mpr z))
      rw [if_pos (c1.mpr q1), if_pos (c1.mpr q1)]
      by_cases r2 : isR f w lp x (W / 10 ^ E + 1) ((E : Int) - tens)
      · have q2 := ru.mp r2
        rw [if_neg (show ¬ lN last < lN (W / 10 ^ E * 10 ^ E + 10 ^ E) from fun z => by have := c2.mp z; omega)]
        rw [if_neg r1, if_pos r2] at h
        injection h with h
        injection h with hD hK
        subst hK
        rw [eK, ← hD, Nat.add_mul, Nat.one_mul]
      · have q2 : last < W / 10 ^ E * 10 ^ E + 10 ^ E := Nat.lt_of_not_le (fun z => r2 (ru.mpr z))
        rw [if_pos (c2.mpr q2)]
        rw [if_neg r1, if_neg r2] at h
        by_cases ht0 : t = 0
        · subst ht0
          exact absurd h (by intro z; cases z)
        · have e1 : lN (10 ^ E) / 10 = lN (10 ^ (E - 1)) := by
            rw [show (10 : Int64) = lN 10 from rfl, pk_lDiv (by omega) (by decide) (by decide)]
            congr 1
            obtain ⟨E', rfl⟩ : ∃ E', E = E' + 1 := ⟨E - 1, by omega⟩
            rw [Nat.pow_succ, Nat.mul_div_cancel _ (by decide), Nat.add_sub_cancel]
          have e2 : 1 < 10 ^ (E - 1) := Nat.one_lt_pow (by omega) (by decide)
          have e3 := p10 (E - 1) (by omega)
          rw [e1, if_pos (show (1 : Int64) < lN (10 ^ (E - 1)) from (pk_lLT (a := 1) (by decide) (by omega)).mpr e2), nI_1]
          have := ih (nn + 1) n (by omega) (by omega) (by omega) h
          rw [show e0 + 2 - (nn + 1) = E - 1 by omega] at this
          exact this
