/-! binary, minus, cast, compare: both sides alike. -/
def agr {α : Type} (r : Nat ⊕ α) (v : α) (thr : Int32) : Prop := (∃ k : Nat, (k = 1 ∨ k = 2) ∧ r = .inl k ∧ thr = nI k) ∨ (r = .inr v ∧ thr = 0)
theorem se_shr (x : Int32) {k : Nat} (hk : k < 32) : x.toInt64 >>> ((nI k).toInt64 &&& 63) = (x >>> (nI k &&& 31)).toInt64 := by
  apply Int64.toInt_inj.mp
  rw [Int32.toInt_toInt64]
  have e1 : (x.toInt64 >>> ((nI k).toInt64 &&& 63)).toInt = x.toInt64.toInt >>> k := by
    have h : (((nI k).toInt64 &&& 63).toBitVec.smod 64).toNat = k := (by decide +kernel : ∀ j : Nat, j < 32 → (((nI j).toInt64 &&& 63).toBitVec.smod 64).toNat = j) k hk
    have := BitVec.toInt_sshiftRight (x := x.toInt64.toBitVec) (n := (((nI k).toInt64 &&& 63).toBitVec.smod 64).toNat)
    rw [h] at this
    refine Eq.trans ?_ this
    show (x.toInt64.toBitVec.sshiftRight (((nI k).toInt64 &&& 63).toBitVec.smod 64).toNat).toInt = _
    rw [h]
  have e2 : (x >>> (nI k &&& 31)).toInt = x.toInt >>> k := by
    have h : ((nI k &&& 31).toBitVec.smod 32).toNat = k := (by decide +kernel : ∀ j : Nat, j < 32 → ((nI j &&& 31).toBitVec.smod 32).toNat = j) k hk
    have := BitVec.toInt_sshiftRight (x := x.toBitVec) (n := ((nI k &&& 31).toBitVec.smod 32).toNat)
    rw [h] at this
    refine Eq.trans ?_ this
    show (x.toBitVec.sshiftRight ((nI k &&& 31).toBitVec.smod 32).toNat).toInt = _
    rw [h]
  rw [e1, e2, Int32.toInt_toInt64]
theorem se_ushr (x : Int32) {k : Nat} (hk : k < 32) : (((x.toInt64 &&& (4294967295 : Int64)).toUInt64 >>> ((nI k).toInt64.toUInt64 &&& Int64.toUInt64 63)).toInt64).toInt32 = (x.toUInt32 >>> ((nI k).toUInt32 &&& Int32.toUInt32 31)).toInt32 := by
  obtain ⟨n, hn, rfl⟩ := wb_of32 x
  have e1 : (nI n).toInt64 &&& (4294967295 : Int64) = lN n := by
    obtain ⟨m, hm, e⟩ := wb_of (nI n).toInt64
    rw [e]
    have h1 : lN m &&& (4294967295 : Int64) = lN (m % 2 ^ 32) := wb_mask (k := 32) hm (by decide)
    have h2 : nI n = nI m := by have := congrArg Int64.toInt32 e; rw [se_id, lN_i] at this; exact this
    have h3 : n = m % 2 ^ 32 := by
      have := congrArg (fun z : Int32 => z.toBitVec.toNat) h2
      have q1 : (nI n).toBitVec.toNat = n % 2 ^ 32 := BitVec.toNat_ofNat ..
      have q2 : (nI m).toBitVec.toNat = m % 2 ^ 32 := BitVec.toNat_ofNat ..
      have this : (nI n).toBitVec.toNat = (nI m).toBitVec.toNat := this
      rw [q1, q2] at this
      omega
    rw [h1, ← h3]
  rw [e1, wb_shr (by omega) (by omega), lN_i]
  exact (pk_ushrN hn (nI k) k ((by decide +kernel : ∀ j : Nat, j < 32 → (((nI j).toUInt32 &&& Int32.toUInt32 31).toBitVec % 32).toNat = j) k hk)).symm
theorem cut3 (v : Int64) : F_Md_cut v 3 = v.toInt32.toInt64 := by
  unfold F_Md_cut
  rw [if_neg (by decide), if_neg (by decide), if_neg (by decide), if_pos rfl]
theorem cut4 (v : Int64) : F_Md_cut v 4 = v := by
  unfold F_Md_cut
  rw [if_neg (by decide), if_neg (by decide), if_neg (by decide), if_neg (by decide)]
theorem i34 {a : Int32} (h1 : ¬ a < 3) (h2 : a ≤ 4) : a = 3 ∨ a = 4 := by
  have e4 : (4 : Int32).toInt = 4 := by decide
  have e3 : (3 : Int32).toInt = 3 := by decide
  rw [Int32.lt_iff_toInt_lt, e3] at h1
  rw [Int32.le_iff_toInt_le, e4] at h2
  rw [← Int32.toInt_inj, ← Int32.toInt_inj, e3, e4]
  omega
/-- whole operators -/
theorem w_eq {t : Int32} (ht : t = 3 ∨ t = 4) (n : Nat) (op : Int32) (a b : Int64) (hz : ¬ ((op = 3 ∨ op = 4) ∧ F_Md_cut b t = 0)) : ∃ v : Int64, F_PB_wholeResult n op (F_Md_cut a t) (F_Md_cut b t) t = some (.inr v) ∧ F_Md_whole n op (F_Md_cut a t) (F_Md_cut b t) t = some (F_Md_cut v t) := by
  have hz3 : op = 3 → ¬ F_Md_cut b t = 0 := fun h q => hz ⟨Or.inl h, q⟩
  have hz4 : op = 4 → ¬ F_Md_cut b t = 0 := fun h q => hz ⟨Or.inr h, q⟩
  have hcut : ∀ v, F_Md_cut (F_Md_cut v t) t = F_Md_cut v t := by
    intro v
    rcases ht with rfl | rfl
    · rw [cut3, cut3, se_id]
    · rw [cut4, cut4]
  have hbit : F_Md_cut (F_Md_cut a t &&& F_Md_cut b t) t = (F_Md_cut a t &&& F_Md_cut b t) ∧ F_Md_cut (F_Md_cut a t ||| F_Md_cut b t) t = (F_Md_cut a t ||| F_Md_cut b t) ∧ F_Md_cut (F_Md_cut a t ^^^ F_Md_cut b t) t = (F_Md_cut a t ^^^ F_Md_cut b t) := by
    rcases ht with rfl | rfl
    · rw [cut3, cut3, cut3, cut3, cut3]
      exact ⟨se_and _ _, se_or _ _, se_xor _ _⟩
    · rw [cut4, cut4, cut4, cut4, cut4]
      exact ⟨rfl, rfl, rfl⟩
  -- shifts
  have hsh : ∀ (S : Int64), S = (if ¬ t = (3 : Int32) then F_PB_shiftedLong op (F_Md_cut a t) (F_Md_cut b t).toInt32 else F_PB_shiftedInt op (F_Md_cut a t).toInt32 (F_Md_cut b t).toInt32) →
      (if op = (8 : Int32) then (some (F_Md_cut (F_Md_cut a t <<< (((F_Md_cut b t).toInt32 &&& (if (if ¬ t = (4 : Int32) then (0 : Int32) else (1 : Int32)) = 0 then (31 : Int32) else (63 : Int32))).toInt64 &&& 63)) t)) else if op = (9 : Int32) then (some (F_Md_cut a t >>> (((F_Md_cut b t).toInt32 &&& (if (if ¬ t = (4 : Int32) then (0 : Int32) else (1 : Int32)) = 0 then (31 : Int32) else (63 : Int32))).toInt64 &&& 63))) else some (if (if ¬ t = (4 : Int32) then (0 : Int32) else (1 : Int32)) = 0 then F_Md_cut (((F_Md_cut a t &&& (4294967295 : Int64)).toUInt64 >>> (((F_Md_cut b t).toInt32 &&& (if (if ¬ t = (4 : Int32) then (0 : Int32) else (1 : Int32)) = 0 then (31 : Int32) else (63 : Int32))).toInt64.toUInt64 &&& Int64.toUInt64 63)).toInt64) t else ((F_Md_cut a t).toUInt64 >>> (((F_Md_cut b t).toInt32 &&& (if (if ¬ t = (4 : Int32) then (0 : Int32) else (1 : Int32)) = 0 then (31 : Int32) else (63 : Int32))).toInt64.toUInt64 &&& Int64.toUInt64 63)).toInt64)) = some (F_Md_cut S t) := by
    intro S hS
    rcases ht with rfl | rfl
    · rw [if_neg (show ¬ ¬ (3 : Int32) = 3 by decide)] at hS
      rw [if_pos (show ¬ (3 : Int32) = 4 by decide), if_pos rfl, if_pos rfl, hS, cut3 a, cut3 b, se_id, se_id]
      obtain ⟨k, hk, ek⟩ := pl31 b.toInt32
      rw [ek]
      unfold F_PB_shiftedInt
      rw [ek]
      by_cases q8 : op = 8
      · rw [if_pos q8, if_pos q8, cut3, cut3, se_id, se_shl _ hk]
      · rw [if_neg q8, if_neg q8]
        by_cases q9 : op = 9
        · rw [if_pos q9, if_pos q9, cut3, se_id, se_shr _ hk]
        · rw [if_neg q9, if_neg q9, cut3, cut3, se_id, se_ushr _ hk]
    · rw [if_pos (show ¬ (4 : Int32) = 3 by decide)] at hS
      rw [if_neg (show ¬ ¬ (4 : Int32) = 4 by decide), if_neg one_ne, if_neg one_ne, hS]
      simp only [cut4]
      unfold F_PB_shiftedLong
      by_cases q8 : op = 8
      · rw [if_pos q8, if_pos q8]
      · rw [if_neg q8, if_neg q8]
        by_cases q9 : op = 9
        · rw [if_pos q9, if_pos q9]
        · rw [if_neg q9, if_neg q9]
  unfold F_PB_wholeResult F_Md_whole
  simp only [lt_]
  by_cases q0 : op = 0
  · subst q0
    rw [if_neg (by decide), if_pos (by decide), if_pos rfl, if_pos rfl]
    exact ⟨_, rfl, rfl⟩
  by_cases q1 : op = 1
  · subst q1
    rw [if_neg (by decide), if_pos (by decide), if_neg (by decide), if_pos rfl, if_neg (by decide), if_pos rfl]
    exact ⟨_, rfl, rfl⟩
  by_cases q2 : op = 2
  · subst q2
    rw [if_neg (by decide), if_pos (by decide), if_neg (by decide), if_neg (by decide), if_pos rfl, if_neg (by decide), if_neg (by decide), if_pos rfl]
    exact ⟨_, rfl, rfl⟩
  by_cases q3 : op = 3
  · have nz := hz3 q3
    subst q3
    rw [if_pos rfl, if_pos nz, if_neg (by decide), if_neg (by decide), if_neg (by decide), if_pos rfl, if_neg (by decide), if_neg (by decide), if_neg (by decide), if_pos rfl, gzf nz, gzf nz]
    exact ⟨_, rfl, rfl⟩
  by_cases q4 : op = 4
  · have nz := hz4 q4
    subst q4
    rw [if_neg (by decide), if_neg (by decide), if_pos nz, if_neg (by decide), if_neg (by decide), if_neg (by decide), if_neg (by decide), if_pos rfl, if_neg (by decide), if_neg (by decide), if_neg (by decide), if_neg (by decide), if_pos rfl, gzf nz, gzf nz]
    exact ⟨_, rfl, rfl⟩
  rw [if_neg q3, if_pos q4, if_neg q0, if_neg q1, if_neg q2, if_neg q3, if_neg q4, if_neg q0, if_neg q1, if_neg q2, if_neg q3, if_neg q4]
  by_cases q5 : op = 5
  · rw [if_pos q5, if_pos q5]
    exact ⟨_, rfl, by rw [hbit.1]⟩
  by_cases q6 : op = 6
  · rw [if_neg q5, if_neg q5, if_pos q6, if_pos q6]
    exact ⟨_, rfl, by rw [hbit.2.1]⟩
  by_cases q7 : op = 7
  · rw [if_neg q5, if_neg q5, if_neg q6, if_neg q6, if_pos q7, if_pos q7]
    exact ⟨_, rfl, by rw [hbit.2.2]⟩
  rw [if_neg q5, if_neg q5, if_neg q6, if_neg q6, if_neg q7, if_neg q7]
  exact ⟨_, rfl, hsh _ rfl⟩
theorem isArith_v (a : Int32) : F_PB_isArithmetic a = 0 ↔ (a < 3 ∨ 6 < a) := by
  unfold F_PB_isArithmetic
  simp only [lt_]
  by_cases h : a < 3
  · rw [if_pos h]; exact iff_of_true rfl (Or.inl h)
  · rw [if_neg h]
    by_cases h2 : (6 : Int32) < a
    · rw [if_pos h2]; exact iff_of_true rfl (Or.inr h2)
    · rw [if_neg h2]; exact iff_of_false (by decide) (fun z => z.elim h h2)
theorem t_binary (op : Int32) (a b : Int64) (t : Int32) {n : Nat} (hn : 10000 < n) (thr : Int32) (m1 m2 : Int64) (e1 e2 mi1 mi2 na1 na2 fa1 fa2 : Int32) :
    ∃ (r : Nat ⊕ Int64) (v : Int64) (thr' : Int32) (st : Int64 × Int64 × Int32 × Int32 × Int32 × Int32 × Int32 × Int32 × Int32 × Int32), F_PB_binary n op a b t = some r ∧ F_Md_binary n thr m1 m2 e1 e2 mi1 mi2 na1 na2 fa1 fa2 op a b t = some (v, thr', st) ∧ agr r v thr' := by
  have bad : ∃ (r : Nat ⊕ Int64) (v : Int64) (thr' : Int32) (st : Int64 × Int64 × Int32 × Int32 × Int32 × Int32 × Int32 × Int32 × Int32 × Int32), some (Sum.inl 1 : Nat ⊕ Int64) = some r ∧ some ((F_Md_fails thr 1).1, (F_Md_fails thr 1).2, m1, m2, e1, e2, mi1, mi2, na1, na2, fa1, fa2) = some (v, thr', st) ∧ agr r v thr' := ⟨_, _, _, _, rfl, rfl, Or.inl ⟨1, Or.inl rfl, rfl, rfl⟩⟩
  unfold F_PB_binary F_Md_binary
  simp only [lt_]
  by_cases a1 : t < 3 ∨ 6 < t
  · rw [if_pos ((isArith_v t).mpr a1)]
    by_cases o1 : op < 0
    · rw [if_pos o1]; exact bad
    · rw [if_neg o1]
      by_cases o2 : (10 : Int32) < op
      · rw [if_pos o2]; exact bad
      · rw [if_neg o2]
        by_cases t1 : t < 3
        · rw [if_pos t1]; exact bad
        · rw [if_neg t1, if_pos (a1.resolve_left t1)]; exact bad
  · rw [if_neg (fun z => a1 ((isArith_v t).mp z))]
    have t1 : ¬ t < 3 := fun z => a1 (Or.inl z)
    have t2 : ¬ (6 : Int32) < t := fun z => a1 (Or.inr z)
    by_cases o1 : op < 0
    · rw [if_pos o1, if_pos o1]; exact bad
    · rw [if_neg o1, if_neg o1]
      have hlast : F_PB_lastOperator t = if t ≤ 4 then 10 else 4 := by
        unfold F_PB_lastOperator
        simp only [lt_]
        by_cases q : t ≤ 4
        · rw [if_neg (fun z => (isWhole_v t).mp z q), if_pos q]
        · rw [if_pos ((isWhole_v t).mpr q), if_neg q]
      rw [hlast]
      by_cases o2 : (10 : Int32) < op
      · have : ¬ op ≤ (if t ≤ 4 then (10 : Int32) else 4) := by
          intro z
          have e10 : (10 : Int32).toInt = 10 := by decide
          have e4 : (4 : Int32).toInt = 4 := by decide
          rw [Int32.lt_iff_toInt_lt, e10] at o2
          rw [Int32.le_iff_toInt_le] at z
          split at z
          · omega
          · omega
        rw [if_neg this, if_pos o2]; exact bad
      · rw [if_neg o2, if_neg t1, if_neg t2]
        by_cases q : t ≤ 4
        · -- whole
          rw [if_pos q, if_pos (Int32.not_lt.mp o2), if_neg (fun z => (isWhole_v t).mp z q)]
          have h34 := i34 t1 q
          rw [cut_eq, cut_eq]
          have ref : ∀ X : Option (Int64 × Int32 × Int64 × Int64 × Int32 × Int32 × Int32 × Int32 × Int32 × Int32 × Int32 × Int32), (if op ≤ (4 : Int32) then X else X) = X := fun X => by split <;> rfl
          simp only [if_pos q]
          rw [ref]
          by_cases hz : (op = 3 ∨ op = 4) ∧ F_Md_cut b t = 0
          · -- by a whole 0
            have hw : F_PB_wholeResult n op (F_Md_cut a t) (F_Md_cut b t) t = some (.inl 2) := by
              unfold F_PB_wholeResult
              simp only [lt_]
              rcases hz.1 with h | h
              · rw [if_pos h, if_neg (fun y => y hz.2)]
              · subst h
                rw [if_neg (by decide), if_neg (by decide), if_neg (fun y => y hz.2)]
            rw [hw]
            refine ⟨.inl 2, 0, 2, (m1, m2, e1, e2, mi1, mi2, na1, na2, fa1, fa2), rfl, ?_, Or.inl ⟨2, Or.inr rfl, rfl, rfl⟩⟩
            rcases hz.1 with h | h
            · rw [if_pos h, if_neg (fun y => y hz.2)]; rfl
            · subst h
              rw [if_neg (by decide), if_neg (by decide), if_neg (fun y => y hz.2)]; rfl
          · obtain ⟨v, w1, w2⟩ := w_eq h34 n op a b hz
            rw [w1, w2]
            refine ⟨.inr (F_Md_cut v t), F_Md_cut v t, 0, (m1, m2, e1, e2, mi1, mi2, na1, na2, fa1, fa2), by show some (Sum.inr (F_PB_wholeOf v t)) = _; rw [cut_eq], ?_, Or.inr ⟨rfl, rfl⟩⟩
            by_cases q3 : op = 3
            · rw [if_pos q3, if_pos (fun y => hz ⟨Or.inl q3, y⟩)]; rfl
            · rw [if_neg q3]
              by_cases q4 : op = 4
              · rw [if_neg (fun y => y q4), if_pos (fun y => hz ⟨Or.inr q4, y⟩)]; rfl
              · rw [if_pos q4]; rfl
        · rw [if_neg q]
          simp only [if_neg q]
          by_cases o4 : op ≤ 4
          · rw [if_pos o4, if_pos o4, if_pos ((isWhole_v t).mpr q)]
            obtain ⟨f, te, w, lp, hK, hS⟩ := KR_S (i56 q (Int32.not_lt.mp t2))
            obtain ⟨u, hu, rfl⟩ := wb_of a
            obtain ⟨u', hu', rfl⟩ := wb_of b
            obtain ⟨r, h1, st, h2⟩ := broken_eq hK hS hn op hu hu' m1 m2 e1 e2 mi1 mi2 na1 na2 fa1 fa2
            rw [h1, h2]
            exact ⟨.inr r, r, 0, _, rfl, rfl, Or.inr ⟨rfl, rfl⟩⟩
          · rw [if_neg o4, if_neg o4]; exact bad
