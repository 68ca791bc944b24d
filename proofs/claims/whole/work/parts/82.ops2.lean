/-! minus, compare, cast: both sides alike. -/
theorem xor_top (u w : Nat) : (u ^^^ 2 ^ w) % 2 ^ (w + 1) = u % 2 ^ w + (1 - u / 2 ^ w % 2) * 2 ^ w := by
  have hlo : u % 2 ^ w < 2 ^ w := Nat.mod_lt _ (p2_pos w)
  rw [show u % 2 ^ w + (1 - u / 2 ^ w % 2) * 2 ^ w = 2 ^ w * (1 - u / 2 ^ w % 2) + u % 2 ^ w by rw [Nat.add_comm, Nat.mul_comm]]
  apply Nat.eq_of_testBit_eq
  intro j
  rw [Nat.testBit_mod_two_pow, Nat.testBit_xor, Nat.testBit_two_pow, Nat.testBit_two_pow_mul_add _ hlo]
  by_cases h1 : j < w
  · rw [if_pos h1, Nat.testBit_mod_two_pow]
    simp [show j < w + 1 by omega, h1, show ¬ w = j by omega]
  · rw [if_neg h1]
    by_cases h2 : j = w
    · subst h2
      rw [Nat.sub_self, Nat.testBit_zero]
      have hb : u.testBit j = decide (u / 2 ^ j % 2 = 1) := Nat.testBit_eq_decide_div_mod_eq
      rw [hb]
      rcases Nat.mod_two_eq_zero_or_one (u / 2 ^ j) with h | h <;> simp [h]
    · have : (1 - u / 2 ^ w % 2).testBit (j - w) = false := Nat.testBit_lt_two_pow (Nat.lt_of_lt_of_le (show 1 - u / 2 ^ w % 2 < 2 ^ 1 by omega) (p2_le (by omega)))
      rw [this]
      simp [show ¬ j < w + 1 by omega]
theorem Int32_5 {t : Int32} (h : ¬ t ≤ 4) : (4 : Int32) < t := Int32.not_le.mp h
theorem t_minus (a : Int64) (t : Int32) (n : Nat) (thr : Int32) (m1 m2 : Int64) (e1 e2 mi1 mi2 na1 na2 fa1 fa2 : Int32) :
    ∃ (r : Nat ⊕ Int64) (v : Int64) (thr' : Int32) (st : Int64 × Int64 × Int32 × Int32 × Int32 × Int32 × Int32 × Int32 × Int32 × Int32), F_PB_minus n a t = some r ∧ F_Md_minus thr m1 m2 e1 e2 mi1 mi2 na1 na2 fa1 fa2 a t = (v, thr', st) ∧ agr r v thr' := by
  unfold F_PB_minus F_Md_minus
  simp only [lt_]
  by_cases a1 : t < 3 ∨ 6 < t
  · rw [if_neg (fun z => z ((isArith_v t).mpr a1))]
    refine ⟨.inl 1, 0, 1, (m1, m2, e1, e2, mi1, mi2, na1, na2, fa1, fa2), rfl, ?_, Or.inl ⟨1, Or.inl rfl, rfl, rfl⟩⟩
    by_cases t1 : t < 3
    · rw [if_pos t1]; rfl
    · rw [if_neg t1, if_neg (fun z => Int32.not_lt.mpr z (a1.resolve_left t1))]; rfl
  · rw [if_pos (fun z => a1 ((isArith_v t).mp z))]
    have t1 : ¬ t < 3 := fun z => a1 (Or.inl z)
    have t2 : ¬ (6 : Int32) < t := fun z => a1 (Or.inr z)
    rw [if_neg t1, if_pos (Int32.not_lt.mp t2)]
    by_cases q : t ≤ 4
    · rw [if_neg (fun z => (isWhole_v t).mp z q), if_neg (Int32.not_lt.mpr q), cut_eq]
      refine ⟨_, _, _, _, rfl, rfl, Or.inr ⟨?_, rfl⟩⟩
      rcases i34 t1 q with rfl | rfl
      · rw [cut3, cut3, cut3]
        simp
      · rw [cut4, cut4, cut4]
    · rw [if_pos ((isWhole_v t).mpr q), if_pos (Int32_5 q)]
      obtain ⟨f, te, w, lp, hK, hS⟩ := KR_S (i56 q (Int32.not_lt.mp t2))
      obtain ⟨u, hu, rfl⟩ := wb_of a
      rw [v_apart hS hu, if_neg one_ne]
      simp only []
      by_cases hn : te * 2 ^ f < dG w u
      · rw [if_pos hn, if_neg one_ne]
        refine ⟨_, _, _, _, rfl, rfl, Or.inr ⟨?_, rfl⟩⟩
        have : F_Real_negate (KR t) (lN u) = F_Real_nan (KR t) := by
          unfold F_Real_negate
          simp only [lt_]
          rw [v_isNan hK hu, if_pos hn, if_neg one_ne]
        rw [this, v_nanC hK, v_nanM hS]
      · rw [if_neg hn, if_pos rfl]
        refine ⟨_, _, _, _, rfl, rfl, Or.inr ⟨?_, rfl⟩⟩
        rw [v_negate hK hu (by omega)]
        have hx := xor_top u w
        congr 1
        rcases hS with ⟨h1, rfl, rfl, rfl, rfl⟩ | ⟨h1, rfl, rfl, rfl, rfl⟩
        · rw [h1, if_neg one_ne, show (2147483648 : Int64) = lN (2 ^ 31) from rfl, lN_xor]
          have hlt : u ^^^ 2 ^ 31 < 2 ^ 64 := Nat.xor_lt_two_pow hu (by decide)
          have : lN (u ^^^ 2 ^ 31) &&& (4294967295 : Int64) = lN ((u ^^^ 2 ^ 31) % 2 ^ 32) := wb_mask (k := 32) hlt (by decide)
          rw [this, show (32 : Nat) = 31 + 1 from rfl, hx]
          rfl
        · rw [h1, if_pos rfl, show (-9223372036854775808 : Int64) = lN (2 ^ 63) by decide, lN_xor]
          have hlt : u ^^^ 2 ^ 63 < 2 ^ 64 := Nat.xor_lt_two_pow hu (by decide)
          rw [show (63 : Nat) + 1 = 64 from rfl, Nat.mod_eq_of_lt hlt] at hx
          rw [hx]
          rfl
theorem t_compare (a b : Int64) (t : Int32) (n : Nat) (thr : Int32) (m1 m2 : Int64) (e1 e2 mi1 mi2 na1 na2 fa1 fa2 : Int32) :
    ∃ (r : Nat ⊕ Int32) (v : Int32) (thr' : Int32) (st : Int64 × Int64 × Int32 × Int32 × Int32 × Int32 × Int32 × Int32 × Int32 × Int32), F_PB_compare n a b t = some r ∧ F_Md_compare thr m1 m2 e1 e2 mi1 mi2 na1 na2 fa1 fa2 a b t = (v, thr', st) ∧ agr r v thr' := by
  unfold F_PB_compare F_Md_compare
  simp only [lt_]
  by_cases a1 : t < 3 ∨ 6 < t
  · rw [if_neg (fun z => z ((isArith_v t).mpr a1))]
    refine ⟨.inl 1, 0, 1, (m1, m2, e1, e2, mi1, mi2, na1, na2, fa1, fa2), rfl, ?_, Or.inl ⟨1, Or.inl rfl, rfl, rfl⟩⟩
    by_cases t1 : t < 3
    · rw [if_pos t1]; rfl
    · rw [if_neg t1, if_neg (fun z => Int32.not_lt.mpr z (a1.resolve_left t1))]; rfl
  · rw [if_pos (fun z => a1 ((isArith_v t).mp z))]
    have t1 : ¬ t < 3 := fun z => a1 (Or.inl z)
    have t2 : ¬ (6 : Int32) < t := fun z => a1 (Or.inr z)
    rw [if_neg t1, if_pos (Int32.not_lt.mp t2)]
    by_cases q : t ≤ 4
    · rw [if_neg (fun z => (isWhole_v t).mp z q), if_neg (Int32.not_lt.mpr q), cut_eq, cut_eq]
      exact ⟨_, _, _, _, rfl, rfl, Or.inr ⟨rfl, rfl⟩⟩
    · rw [if_pos ((isWhole_v t).mpr q), if_pos (Int32_5 q)]
      obtain ⟨f, te, w, lp, hK, hS⟩ := KR_S (i56 q (Int32.not_lt.mp t2))
      obtain ⟨u, hu, rfl⟩ := wb_of a
      obtain ⟨u', hu', rfl⟩ := wb_of b
      rw [v_apart hS hu, if_neg one_ne]
      simp only []
      rw [v_apart hS hu', if_pos rfl]
      simp only []
      rw [v_isNan hK hu, v_isNan hK hu']
      have hrank : ∀ x : Nat, x < 2 ^ 64 → F_Real_rank (KR t) (lN x) = if nI (dS w x) = 0 then lN (dG w x) else -(lN (dG w x)) := by
        intro x hx
        unfold F_Real_rank
        simp only [lt_]
        rw [v_isNegative hK hx, v_magnitude hK hx]
      have hmask : ∀ x : Nat, x < 2 ^ 64 → lN x &&& (if (if ¬ t = 5 then (0 : Int32) else 1) = 0 then (9223372036854775807 : Int64) else (2147483647 : Int64)) = lN (dG w x) := by
        intro x hx
        have := (write_bits hS hx).1
        rw [← this]
        split <;> rfl
      rw [hrank u hu, hrank u' hu', hmask u hu, hmask u' hu']
      by_cases hn : te * 2 ^ f < dG w u
      · rw [if_pos hn, if_pos one_ne, if_pos one_ne]
        exact ⟨_, _, _, _, rfl, rfl, Or.inr ⟨rfl, rfl⟩⟩
      · rw [if_neg hn, if_neg (show ¬ ¬ (0 : Int32) = 0 by decide), if_neg (show ¬ ¬ (0 : Int32) = 0 by decide)]
        by_cases hn2 : te * 2 ^ f < dG w u'
        · rw [if_pos hn2, if_neg one_ne, if_neg one_ne]
          exact ⟨_, _, _, _, rfl, rfl, Or.inr ⟨rfl, rfl⟩⟩
        · rw [if_neg hn2, if_pos rfl, if_pos rfl]
          exact ⟨_, _, _, _, rfl, rfl, Or.inr ⟨rfl, rfl⟩⟩
theorem t_cast (a : Int64) (t s : Int32) {n : Nat} (hn : 10000 < n) (thr : Int32) (m1 m2 : Int64) (e1 e2 mi1 mi2 na1 na2 fa1 fa2 : Int32) :
    ∃ (r : Nat ⊕ Int64) (v : Int64) (thr' : Int32) (st : Int64 × Int64 × Int32 × Int32 × Int32 × Int32 × Int32 × Int32 × Int32 × Int32), F_PB_cast n a t s = some r ∧ F_Md_cast n thr m1 m2 e1 e2 mi1 mi2 na1 na2 fa1 fa2 a t s = some (v, thr', st) ∧ agr r v thr' := by
  have bad : ∃ (r : Nat ⊕ Int64) (v : Int64) (thr' : Int32) (st : Int64 × Int64 × Int32 × Int32 × Int32 × Int32 × Int32 × Int32 × Int32 × Int32), some (Sum.inl 1 : Nat ⊕ Int64) = some r ∧ some ((F_Md_fails thr 1).1, (F_Md_fails thr 1).2, m1, m2, e1, e2, mi1, mi2, na1, na2, fa1, fa2) = some (v, thr', st) ∧ agr r v thr' := ⟨_, _, _, _, rfl, rfl, Or.inl ⟨1, Or.inl rfl, rfl, rfl⟩⟩
  unfold F_PB_cast F_Md_cast
  simp only [lt_]
  by_cases c1 : t < 0
  · rw [if_pos c1, if_pos c1]; exact bad
  rw [if_neg c1, if_neg c1]
  by_cases c2 : (6 : Int32) < t
  · rw [if_pos c2, if_pos c2]; exact bad
  rw [if_neg c2, if_neg c2]
  by_cases c3 : s < 0
  · rw [if_pos c3, if_pos c3]; exact bad
  rw [if_neg c3, if_neg c3]
  by_cases c4 : ¬ s ≤ 6
  · rw [if_neg c4, if_neg c4]; exact bad
  have c4 : s ≤ 6 := Decidable.not_not.mp c4
  rw [if_pos c4, if_pos c4]
  by_cases q : t ≤ 4
  · -- from a whole number
    rw [if_neg (fun z => (isWhole_v t).mp z q), if_neg (Int32.not_lt.mpr q), cut_eq]
    by_cases p : s ≤ 4
    · rw [if_neg (fun z => (isWhole_v s).mp z p), if_neg (Int32.not_lt.mpr p), cut_eq]
      exact ⟨_, _, _, _, rfl, rfl, Or.inr ⟨rfl, rfl⟩⟩
    · rw [if_pos ((isWhole_v s).mpr p), if_pos (Int32_5 p)]
      obtain ⟨f, te, w, lp, hK, hS⟩ := KR_S (i56 p c4)
      obtain ⟨r, h1, h2, h3, h4⟩ := fromWhole_eq hK hS hn (F_Md_cut a t)
      rw [h1]
      by_cases m : F_Md_cut a t = (-9223372036854775808 : Int64)
      · rw [if_neg (fun y => y m), h2 m]
        exact ⟨_, _, _, _, rfl, rfl, Or.inr ⟨rfl, rfl⟩⟩
      · rw [if_pos m]
        by_cases z : F_Md_cut a t = 0
        · rw [if_neg (fun y => y z)]
          exact ⟨_, _, _, _, rfl, rfl, Or.inr ⟨by rw [h3 z], rfl⟩⟩
        · rw [if_pos z, h4 m]
          exact ⟨_, _, _, _, rfl, rfl, Or.inr ⟨rfl, rfl⟩⟩
  · rw [if_pos ((isWhole_v t).mpr q), if_pos (Int32_5 q)]
    obtain ⟨f, te, w, lp, hK, hS⟩ := KR_S (i56 q (Int32.not_lt.mp c2))
    obtain ⟨u, hu, rfl⟩ := wb_of a
    rw [v_apart hS hu, if_neg one_ne]
    simp only []
    by_cases p : s ≤ 4
    · rw [if_neg (fun z => (isWhole_v s).mp z p), if_pos p]
      obtain ⟨x, w1, w2⟩ := wholeFromReal_eq hK hn hu s
      rw [w2]
      by_cases s4 : s = 4
      · rw [if_pos s4, if_neg (show ¬ ¬ s = 4 from fun y => y s4)]
        rw [if_pos s4] at w1
        rw [w1]
        exact ⟨_, _, _, _, rfl, rfl, Or.inr ⟨rfl, rfl⟩⟩
      · rw [if_neg s4, if_pos (show ¬ s = 4 from s4)]
        rw [if_neg s4] at w1
        rw [w1]
        exact ⟨_, _, _, _, rfl, rfl, Or.inr ⟨rfl, rfl⟩⟩
    · rw [if_pos ((isWhole_v s).mpr p), if_neg p]
      obtain ⟨f0, te0, w0, lp0, hK0, hS0⟩ := KR_S (i56 p c4)
      obtain ⟨r, h1, h2, h3, h4⟩ := fromReal_eq hK0 hS0 hK hn hu
      rw [h1]
      by_cases n1 : te * 2 ^ f < dG w u
      · rw [if_pos n1, if_neg one_ne]
        exact ⟨_, _, _, _, rfl, rfl, Or.inr ⟨by rw [h2 n1], rfl⟩⟩
      · rw [if_neg n1, if_pos rfl]
        by_cases n2 : dG w u = te * 2 ^ f
        · rw [if_pos n2, if_neg one_ne]
          exact ⟨_, _, _, _, rfl, rfl, Or.inr ⟨by rw [h3 n2], rfl⟩⟩
        · rw [if_neg n2, if_pos rfl, h4 (by omega)]
          exact ⟨_, _, _, _, rfl, rfl, Or.inr ⟨rfl, rfl⟩⟩
