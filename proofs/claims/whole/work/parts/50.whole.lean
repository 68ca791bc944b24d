/-! Whole operators: an int reckoned as a long. -/
theorem se_id (x : Int32) : x.toInt64.toInt32 = x := by simp
theorem se_and (x y : Int32) : (x.toInt64 &&& y.toInt64).toInt32.toInt64 = x.toInt64 &&& y.toInt64 := by
  rw [← Int32.toInt64_and, se_id]
theorem se_or (x y : Int32) : (x.toInt64 ||| y.toInt64).toInt32.toInt64 = x.toInt64 ||| y.toInt64 := by
  rw [← Int32.toInt64_or, se_id]
theorem se_xor (x y : Int32) : (x.toInt64 ^^^ y.toInt64).toInt32.toInt64 = x.toInt64 ^^^ y.toInt64 := by
  rw [← Int32.toInt64_xor, se_id]
/-- places: the low five or six bits -/
theorem pl31 (y : Int32) : ∃ k : Nat, k < 32 ∧ y &&& 31 = nI k := by
  obtain ⟨k, h1, h2⟩ := pk_andE y (m := 31) 5 (by decide)
  exact ⟨k, h1, h2⟩
theorem pl63 (y : Int32) : ∃ k : Nat, k < 64 ∧ y &&& 63 = nI k := by
  obtain ⟨k, h1, h2⟩ := pk_andE y (m := 63) 6 (by decide)
  exact ⟨k, h1, h2⟩
theorem nI31 : ∀ k : Nat, k < 32 → nI k &&& 31 = nI k := by decide +kernel
/-- shift left of an int, by way of a long -/
theorem se_shl (x : Int32) {k : Nat} (hk : k < 32) : (x.toInt64 <<< ((nI k).toInt64 &&& 63)).toInt32 = x <<< (nI k &&& 31) := by
  obtain ⟨n, hn, rfl⟩ := wb_of32 x
  obtain ⟨m, hm, e⟩ := wb_of (nI n).toInt64
  rw [e, wb_shl m (by omega), lN_i]
  have h1 : nI n = nI m := by have := congrArg Int64.toInt32 e; rw [se_id, lN_i] at this; exact this
  have hb := pk_shl (nI n) (nI k &&& 31) k (by rw [nI31 k hk]; exact (by decide +kernel : ∀ j : Nat, j < 32 → ((nI j).toBitVec.smod 32).toNat = j) k hk)
  apply Int32.toBitVec_inj.mp
  apply BitVec.eq_of_toNat_eq
  rw [hb, h1]
  have h2 : ∀ j : Nat, (nI j).toBitVec.toNat = j % 2 ^ 32 := fun j => BitVec.toNat_ofNat ..
  rw [h2, h2, Nat.mod_mul_mod]
