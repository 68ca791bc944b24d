theorem pf_lI {a : Nat} (h : a < 2 ^ 63) : (lN a).toInt = (a : Int) := lg_ofNat_toInt h
theorem pf_shr {a d : Nat} {D : Int64} (hD : (D.toBitVec.smod 64).toNat = d) (h : a < 2 ^ 62) : lN a >>> D = lN (a / 2 ^ d) := by
  have hd : a / 2 ^ d ≤ a := Nat.div_le_self _ _
  apply Int64.toInt_inj.mp
  have e : (lN a >>> D).toInt = (lN a).toInt >>> d := by
    rw [← hD]
    exact BitVec.toInt_sshiftRight ..
  rw [e, Int.shiftRight_eq_div_pow, pf_lI (by omega), pf_lI (by omega)]
  rfl
theorem lN_bv (n : Nat) : (lN n).toBitVec = BitVec.ofNat 64 n := rfl
theorem lN_nat {n : Nat} (h : n < 2 ^ 64) : (lN n).toBitVec.toNat = n := by rw [lN_bv, BitVec.toNat_ofNat]; exact Nat.mod_eq_of_lt h
theorem lN_xor (a b : Nat) : lN a ^^^ lN b = lN (a ^^^ b) := by
  apply Int64.toBitVec_inj.mp; rw [Int64.toBitVec_xor, lN_bv, lN_bv, lN_bv]; apply BitVec.eq_of_getLsbD_eq; intro i hi; simp [BitVec.getLsbD_ofNat, Nat.testBit_xor, hi]
theorem lN_ti {m : Nat} (h : m < 2 ^ 64) : (lN m).toInt = if m < 2 ^ 63 then (m : Int) else (m : Int) - 2 ^ 64 := by
  have c := BitVec.toInt_eq_toNat_cond (lN m).toBitVec
  rw [lN_nat h] at c
  show (lN m).toBitVec.toInt = _
  rw [c]
  split <;> split <;> omega
/-! The reference's reading of bits (apart), in the same words. -/
theorem inf_iff {f te w : Nat} {lp : Int} (h : fmt f te w lp) (u : Nat) : (te * 2 ^ f < dG w u ↔ dE f w u = te ∧ dF f u ≠ 0) ∧ (dG w u = te * 2 ^ f ↔ dE f w u = te ∧ dF f u = 0) := by
  have hb := fmt_b h
  have h1 := dG_EF (f := f) (w := w) (by omega) u
  have h2 := dE_le h u
  have h3 := dF_lt f u
  rw [h1]
  rcases Nat.lt_or_ge (dE f w u) te with z | z
  · have : (dE f w u + 1) * 2 ^ f ≤ te * 2 ^ f := Nat.mul_le_mul_right _ z
    rw [Nat.add_mul, Nat.one_mul] at this
    omega
  · have : dE f w u = te := by omega
    rw [this]
    omega
theorem low32 {f te w : Nat} {lp : Int} (h : fmt f te w lp) {sgl : Int32} (hM : mSg sgl f te w lp) (u : Nat) : dE f w (if sgl = 0 then u else u % 2 ^ 32) = dE f w u ∧ dF f (if sgl = 0 then u else u % 2 ^ 32) = dF f u ∧ dS w (if sgl = 0 then u else u % 2 ^ 32) = dS w u := by
  rcases hM with ⟨rfl, rfl, rfl, rfl, rfl⟩ | ⟨rfl, rfl, rfl, rfl, rfl⟩
  · rw [if_neg (by decide)]
    unfold dE dF dS
    refine ⟨?_, ?_, ?_⟩
    · rw [Nat.mod_mod_of_dvd _ (Nat.pow_dvd_pow 2 (by decide : 31 ≤ 32))]
    · rw [Nat.mod_mod_of_dvd _ (Nat.pow_dvd_pow 2 (by decide : 23 ≤ 32))]
    · omega
  · rw [if_pos rfl]
    exact ⟨rfl, rfl, rfl⟩
theorem v_apart {sgl : Int32} {f te w : Nat} {lp : Int} (hM : mSg sgl f te w lp) {u : Nat} (hu : u < 2 ^ 64) (m1 m2 : Int64) (e1 e2 mi1 mi2 na1 na2 fa1 fa2 : Int32) (first : Int32) :
    F_Md_apart m1 m2 e1 e2 mi1 mi2 na1 na2 fa1 fa2 (lN u) sgl first = if first = 0 then (m1, lN (dM f w u), e1, iZ (dP f w lp u), mi1, nI (dS w u), na1, (if te * 2 ^ f < dG w u then 1 else 0), fa1, (if dG w u = te * 2 ^ f then 1 else 0)) else (lN (dM f w u), m2, iZ (dP f w lp u), e2, nI (dS w u), mi2, (if te * 2 ^ f < dG w u then 1 else 0), na2, (if dG w u = te * 2 ^ f then 1 else 0), fa2) := by
  have hF := mSg_fmt hM
  have hb := fmt_b hF
  have hl := low32 hF hM u
  have he := dE_le hF u
  have hi := inf_iff hF u
  have h3 := dF_lt f u
  have hp53 : 2 ^ (f + 1) ≤ 2 ^ 53 := p2_le (by omega)
  have hps := p2_s f
  have hK : kS (nI f, nI te, iZ lp, lN (2 ^ w), lN (te * 2 ^ f)) f te w lp := ⟨rfl, hF⟩
  have g1 : (if sgl = 0 then (52 : Int32) else (23 : Int32)) = nI f := by rcases hM with ⟨rfl, rfl, rfl, rfl, rfl⟩ | ⟨rfl, rfl, rfl, rfl, rfl⟩ <;> rfl
  have g2 : (if sgl = 0 then lN u else lN u &&& (4294967295 : Int64)) = lN (if sgl = 0 then u else u % 2 ^ 32) := by
    by_cases h : sgl = 0
    · rw [if_pos h, if_pos h]
    · rw [if_neg h, if_neg h]
      exact wb_mask (k := 32) hu (by decide)
  have g3 : (if sgl = 0 then (2047 : Int32) else (255 : Int32)) = nI te := by rcases hM with ⟨rfl, rfl, rfl, rfl, rfl⟩ | ⟨rfl, rfl, rfl, rfl, rfl⟩ <;> rfl
  have g11 : (if sgl = 0 then (1075 : Int32) else (150 : Int32)) = iZ (1 - lp) := by rcases hM with ⟨rfl, rfl, rfl, rfl, rfl⟩ | ⟨rfl, rfl, rfl, rfl, rfl⟩ <;> rfl
  have hu' : (if sgl = 0 then u else u % 2 ^ 32) < 2 ^ 64 := by split <;> omega
  have g8 : (if sgl = 0 then if (0 : Int64) ≤ lN (if sgl = 0 then u else u % 2 ^ 32) then (0 : Int32) else (1 : Int32) else if (lN (if sgl = 0 then u else u % 2 ^ 32)) >>> (((31 : Int32)).toInt64 &&& 63) = (0 : Int64) then (0 : Int32) else (1 : Int32)) = nI (dS w u) := by
    rcases hM with ⟨rfl, rfl, rfl, rfl, rfl⟩ | ⟨rfl, rfl, rfl, rfl, rfl⟩
    · have hz : ((1 : Int32) = 0) = False := by decide
      simp only [hz, if_false]
      have hsr : lN (u % 2 ^ 32) >>> (((31 : Int32)).toInt64 &&& 63) = lN (u % 2 ^ 32 / 2 ^ 31) := pf_shr (by decide) (by omega)
      rw [hsr]
      unfold dS
      by_cases z : u / 2 ^ 31 % 2 = 0
      · rw [z, if_pos ((lN_z (by omega)).mpr (by omega))]
        rfl
      · rw [show u / 2 ^ 31 % 2 = 1 by omega, if_neg (fun q => by have := (lN_z (by omega)).mp q; omega)]
        rfl
    · rw [if_pos rfl, if_pos rfl]
      unfold dS
      have ht := lN_ti hu
      by_cases z : u < 2 ^ 63
      · rw [if_pos z] at ht
        rw [if_pos (Int64.le_iff_toInt_le.mpr (by rw [ht]; show (0 : Int) ≤ _; omega)), show u / 2 ^ 63 % 2 = 0 by omega]
        rfl
      · rw [if_neg z] at ht
        rw [if_neg (fun q => by have q2 := Int64.le_iff_toInt_le.mp q; rw [ht] at q2; have q3 : (0 : Int) ≤ (u : Int) - 2 ^ 64 := q2; omega), show u / 2 ^ 63 % 2 = 1 by omega]
        rfl
  have g4 : (((lN (if sgl = 0 then u else u % 2 ^ 32)).toUInt64 >>> ((nI f).toInt64.toUInt64 &&& Int64.toUInt64 63)).toInt64).toInt32 &&& nI te = nI (dE f w u) := by
    have := v_exponent hK hu'
    rw [hl.1] at this
    exact this
  have g5 : lN (if sgl = 0 then u else u % 2 ^ 32) &&& (((1 : Int64) <<< ((nI f).toInt64 &&& 63)) - (1 : Int64)) = lN (dF f u) := by
    have := v_fraction hK hu'
    rw [hl.2.1] at this
    exact this
  unfold F_Md_apart
  simp only [lt_]
  rw [g1, g2, g3, g11, g4, g5, g8]
  have c7 : nI (dE f w u) = nI te ↔ dE f w u = te := nI_eq (by omega) (by omega)
  have c5 : lN (dF f u) = (0 : Int64) ↔ dF f u = 0 := lN_z (by omega)
  have c4 : nI (dE f w u) = 0 ↔ dE f w u = 0 := nI_z (by omega)
  have g9 : (if ¬ nI (dE f w u) = 0 then lN (dF f u) ||| ((1 : Int64) <<< ((nI f).toInt64 &&& 63)) else lN (dF f u)) = lN (dM f w u) := by
    unfold dM
    by_cases h : dE f w u = 0
    · rw [if_neg (not_not_intro (c4.mpr h)), if_pos h]
    · rw [if_pos (fun z => h (c4.mp z)), if_neg h, lN_shl1 (by omega)]
      have := g_or' (k := f) (p := 2 ^ f) (a := dF f u) (b := 1) rfl h3 (by omega)
      rw [Nat.one_mul] at this
      exact this
  have g12 : (if ¬ nI (dE f w u) = 0 then nI (dE f w u) else (1 : Int32)) - iZ (1 - lp) = iZ (dP f w lp u) := by
    unfold dP
    by_cases h : dE f w u = 0
    · rw [if_neg (not_not_intro (c4.mpr h)), show (1 : Int32) = iZ 1 from rfl, iZ_sub]
      congr 1
      omega
    · rw [if_pos (fun z => h (c4.mp z)), ← iZ_nI, iZ_sub]
      congr 1
      omega
  have gn : (if (if ¬ nI (dE f w u) = nI te then (0 : Int32) else (1 : Int32)) = 0 then (0 : Int32) else if lN (dF f u) = (0 : Int64) then (0 : Int32) else (1 : Int32)) = if te * 2 ^ f < dG w u then 1 else 0 := by
    simp only [c7, c5]
    by_cases a : dE f w u = te
    · by_cases b : dF f u = 0
      · rw [if_neg (not_not_intro a), if_neg (by decide), if_pos b, if_neg (fun z => (hi.1.mp z).2 b)]
      · rw [if_neg (not_not_intro a), if_neg (by decide), if_neg b, if_pos (hi.1.mpr ⟨a, b⟩)]
    · rw [if_pos a, if_pos rfl, if_neg (fun z => a (hi.1.mp z).1)]
  have gf : (if (if ¬ nI (dE f w u) = nI te then (0 : Int32) else (1 : Int32)) = 0 then (0 : Int32) else if ¬ lN (dF f u) = (0 : Int64) then (0 : Int32) else (1 : Int32)) = if dG w u = te * 2 ^ f then 1 else 0 := by
    simp only [c7, c5]
    by_cases a : dE f w u = te
    · by_cases b : dF f u = 0
      · rw [if_neg (not_not_intro a), if_neg (by decide), if_neg (not_not_intro b), if_pos (hi.2.mpr ⟨a, b⟩)]
      · rw [if_neg (not_not_intro a), if_neg (by decide), if_pos b, if_neg (fun z => b (hi.2.mp z).2)]
    · rw [if_pos a, if_pos rfl, if_neg (fun z => a (hi.2.mp z).1)]
  rw [g9, g12, gn, gf]
