/-! Digits and letters. -/
/-- c decimal digits of v, as letters -/
def dgs : Nat → Nat → List Nat
  | 0, _ => []
  | c + 1, v => dgs c (v / 10) ++ [48 + v % 10]
theorem dgs_len : ∀ c v, (dgs c v).length = c := by
  intro c
  induction c with
  | zero => intro v; rfl
  | succ c ih => intro v; show (dgs c (v / 10) ++ [48 + v % 10]).length = _; rw [List.length_append, ih]; rfl
theorem dgs_front : ∀ c v, dgs (c + 1) v = (48 + v / 10 ^ c % 10) :: dgs c v := by
  intro c
  induction c with
  | zero => intro v; show [] ++ [48 + v % 10] = _; rw [Nat.pow_zero, Nat.div_one]; rfl
  | succ c ih =>
    intro v
    show dgs (c + 1) (v / 10) ++ [48 + v % 10] = (48 + v / 10 ^ (c + 1) % 10) :: (dgs c (v / 10) ++ [48 + v % 10])
    rw [ih, Nat.div_div_eq_div_mul, Nat.pow_succ, Nat.mul_comm 10]
    rfl
theorem dgs_mod : ∀ c v, dgs c (v % 10 ^ c) = dgs c v := by
  intro c
  induction c with
  | zero => intro v; rfl
  | succ c ih =>
    intro v
    show dgs c (v % 10 ^ (c + 1) / 10) ++ [48 + v % 10 ^ (c + 1) % 10] = dgs c (v / 10) ++ [48 + v % 10]
    have e1 : v % 10 ^ (c + 1) % 10 = v % 10 := Nat.mod_mod_of_dvd _ ⟨10 ^ c, by rw [Nat.pow_succ, Nat.mul_comm]⟩
    have e2 : v % 10 ^ (c + 1) / 10 = v / 10 % 10 ^ c := by
      rw [Nat.pow_succ, Nat.mul_comm, Nat.mod_mul_right_div_self]
    rw [e1, e2, ih]
theorem dgs_pad (c v : Nat) (hv : v < 10 ^ c) : ∀ z, dgs (z + c) v = List.replicate z 48 ++ dgs c v := by
  intro z
  induction z with
  | zero => rw [Nat.zero_add]; rfl
  | succ z ih =>
    rw [show z + 1 + c = z + c + 1 by omega, dgs_front, ih]
    have : v / 10 ^ (z + c) = 0 := Nat.div_eq_of_lt (Nat.lt_of_lt_of_le hv (Nat.pow_le_pow_right (by decide) (by omega)))
    rw [this]
    rfl
/-- the number of decimal digits -/
def ndg (v : Nat) : Nat := if h : v < 10 then 1 else ndg (v / 10) + 1
termination_by v
decreasing_by omega
theorem ndg_pos (v : Nat) : 0 < ndg v := by unfold ndg; split <;> omega
theorem ndg_lt : ∀ c v, v < 10 ^ c → v < 10 ^ ndg v := by
  intro c
  induction c with
  | zero => intro v h; rw [Nat.pow_zero] at h; obtain rfl : v = 0 := by omega
            exact Nat.pow_pos (by decide)
  | succ c ih =>
    intro v h
    unfold ndg
    split
    · rename_i h1; rw [Nat.pow_one]; exact h1
    · rename_i h1
      have := ih (v / 10) (by rw [Nat.pow_succ] at h; omega)
      rw [Nat.pow_succ]
      omega
theorem ndg_ge : ∀ c v, v < 10 ^ c → 0 < v → 10 ^ (ndg v - 1) ≤ v := by
  intro c
  induction c with
  | zero => intro v h h0; rw [Nat.pow_zero] at h; omega
  | succ c ih =>
    intro v h h0
    unfold ndg
    split
    · rename_i h1; exact h0
    · rename_i h1
      have h2 := ih (v / 10) (by rw [Nat.pow_succ] at h; omega) (by omega)
      have h3 := ndg_pos (v / 10)
      rw [Nat.add_sub_cancel]
      have : 10 ^ ndg (v / 10) = 10 ^ (ndg (v / 10) - 1) * 10 := by rw [← Nat.pow_succ]; congr 1; omega
      omega
theorem ndg_uniq {v c : Nat} (h0 : 0 < c) (h1 : c = 1 ∨ 10 ^ (c - 1) ≤ v) (h2 : v < 10 ^ c) : ndg v = c := by
  have a := ndg_lt c v h2
  by_cases hv : 0 < v
  · have b := ndg_ge c v h2 hv
    have p := ndg_pos v
    have l1 : ndg v - 1 < c := (Nat.pow_lt_pow_iff_right (show 1 < 10 by decide)).mp (Nat.lt_of_le_of_lt b h2)
    rcases h1 with h1 | h1
    · omega
    · have l2 : c - 1 < ndg v := (Nat.pow_lt_pow_iff_right (show 1 < 10 by decide)).mp (Nat.lt_of_le_of_lt h1 a)
      omega
  · obtain rfl : v = 0 := by omega
    have : ndg 0 = 1 := by unfold ndg; rfl
    rcases h1 with h1 | h1
    · omega
    · have := Nat.pow_pos (n := c - 1) (show 0 < 10 by decide)
      omega
theorem gD_l {L M : List Nat} {i : Nat} (h : i < L.length) : (L ++ M).getD i 0 = L.getD i 0 := by
  rw [List.getD_eq_getElem?_getD, List.getD_eq_getElem?_getD, List.getElem?_append_left h]
theorem gD_r {L M : List Nat} {i : Nat} (h : L.length ≤ i) : (L ++ M).getD i 0 = M.getD (i - L.length) 0 := by
  rw [List.getD_eq_getElem?_getD, List.getD_eq_getElem?_getD, List.getElem?_append_right h]
theorem gD_e {L : List Nat} {i : Nat} (h : i < L.length) : L.getD i 0 = L[i] := by
  rw [List.getD_eq_getElem?_getD, List.getElem?_eq_getElem h]
  rfl
/-- letters in a row -/
def tx (len : Int32) (row : Nat → Int32) (L : List Nat) : Prop := len = nI L.length ∧ ∀ i, i < L.length → row i = nI (L.getD i 0)
theorem tx_app {len : Int32} {row : Nat → Int32} {L : List Nat} {c : Nat} (h : tx len row L) : tx (nI (L.length + 1)) (upd row L.length (nI c)) (L ++ [c]) := by
  refine ⟨by rw [List.length_append]; rfl, fun i hi => ?_⟩
  rw [List.length_append] at hi
  have hi : i < L.length + 1 := hi
  by_cases z : i = L.length
  · subst z
    rw [pk_us, gD_r (Nat.le_refl _), Nat.sub_self]
    rfl
  · rw [pk_un z, h.2 i (by omega), gD_l (by omega)]
theorem nar_c {c : Nat} (h : c < 65536) : vp_nar .char (nI c) = nI c := by
  rw [vp_nar_char]
  apply Int32.toBitVec_inj.mp
  apply BitVec.eq_of_toNat_eq
  rw [pk_tn (by omega)]
  show (nI c).toUInt32.toUInt16.toUInt32.toNat = c
  rw [UInt16.toNat_toUInt32, UInt32.toNat_toUInt16, show (nI c).toUInt32.toNat = c % 2 ^ 32 from rfl]
  omega
theorem v_put {n c : Nat} {len : Int32} {row : Nat → Int32} {L : List Nat} (h : tx len row L) (hL : L.length < 32) (hc : c < 65536) : ∃ (len' : Int32) (row' : Nat → Int32), F_Lt_put_i n len row (nI c) = some (len', row') ∧ tx len' row' (L ++ [c]) := by
  refine ⟨_, _, ?_, tx_app h⟩
  obtain ⟨rfl, -⟩ := h
  unfold F_Lt_put_i
  simp only [lt_]
  rw [if_neg (show ¬ (32 : Int32) ≤ nI L.length from nI_ge (b := 32) hL (by decide)), gzf (nI_in hL (by decide)), nI_clamp (by omega), nar_c hc, nI_1]
/-- the letters of a text -/
theorem sCh_v {bs : List Int32} {k c : Nat} (h : bs.getD k 0 = nI c) (hc : c < 256) : sCh bs k = nI c := by
  unfold sCh
  rw [h]
  exact (by decide +kernel : ∀ c : Nat, c < 256 → ((((nI c) &&& 255).toUInt32 % 65536).toInt32) = nI c) c hc
theorem puts_L {n : Nat} {bs : List Int32} {C : List Nat} (hC : ∀ k, k < C.length → bs.getD k 0 = nI (C.getD k 0) ∧ C.getD k 0 < 256) : ∀ (j k : Nat) (len : Int32) (row : Nat → Int32) (L : List Nat), k + j = C.length → tx len row L → L.length + j ≤ 32 → ∃ (len' : Int32) (row' : Nat → Int32), F_Lt_puts n bs j k len row = some (len', row') ∧ tx len' row' (L ++ C.drop k) := by
  intro j
  induction j with
  | zero =>
    intro k len row L hk h _
    refine ⟨len, row, rfl, ?_⟩
    rw [List.drop_of_length_le (by omega), List.append_nil]
    exact h
  | succ j ih =>
    intro k len row L hk h hL
    obtain ⟨h1, h2⟩ := hC k (by omega)
    obtain ⟨l1, r1, e1, t1⟩ := v_put (n := n) h (by omega) (show C.getD k 0 < 65536 by omega)
    obtain ⟨l2, r2, e2, t2⟩ := ih (k + 1) l1 r1 (L ++ [C.getD k 0]) (by omega) t1 (by rw [List.length_append]; show _ + 1 + j ≤ 32; omega)
    refine ⟨l2, r2, ?_, ?_⟩
    · show (F_Lt_put_i n len row (sCh bs k)).bind _ = _
      rw [sCh_v h1 h2, e1]
      exact e2
    · have : C.drop k = C.getD k 0 :: C.drop (k + 1) := by
        rw [List.drop_eq_getElem_cons (show k < C.length by omega), gD_e (show k < C.length by omega)]
      rw [this]
      rw [List.append_assoc] at t2
      exact t2
theorem v_puts {n : Nat} {bs : List Int32} {C : List Nat} {len : Int32} {row : Nat → Int32} {L : List Nat} (hC : ∀ k, k < C.length → bs.getD k 0 = nI (C.getD k 0) ∧ C.getD k 0 < 256) (hl : bs.length = C.length) (h : tx len row L) (hL : L.length + C.length ≤ 32) : ∃ (len' : Int32) (row' : Nat → Int32), F_Lt_puts n bs bs.length 0 len row = some (len', row') ∧ tx len' row' (L ++ C) := by
  rw [hl]
  exact puts_L hC C.length 0 len row L (by omega) h hL
/-! digits of a negative number, from behind -/
theorem lZ_dn {v : Nat} (hv : v ≤ 2 ^ 63) : lZ (-(v : Int)) / 10 = lZ (-((v / 10 : Nat) : Int)) ∧ ((48 : Int64) - (lZ (-(v : Int)) - lZ (-(v : Int)) / 10 * 10)).toInt32 = nI (48 + v % 10) := by
  have e1 : lZ (-(v : Int)) / 10 = lZ (-((v / 10 : Nat) : Int)) := by
    apply Int64.toInt_inj.mp
    rw [lZ_t (by omega) (by omega), Int64.toInt_div_of_ne_right _ _ (by decide), lZ_t (by omega) (by omega)]
    show Int.tdiv (-(v : Int)) 10 = _
    rw [Int.neg_tdiv]
    rfl
  refine ⟨e1, ?_⟩
  rw [e1, show (10 : Int64) = lZ 10 from rfl, lZ_mul, lZ_sub, show (48 : Int64) = lZ 48 from rfl, lZ_sub, lZ_i]
  rw [show (48 : Int) - (-(v : Int) - -((v / 10 : Nat) : Int) * 10) = ((48 + v % 10 : Nat) : Int) by omega, iZ_nI]
theorem pd_L (j) (a2 : Int32) (B : Nat) (hB : B ≤ 32) : ∀ (c n v : Nat) (row : Nat → Int32), B + c ≤ 32 → v ≤ 2 ^ 63 → c < n → ∃ row' : Nat → Int32, F_Lt_putDigits_L29 a2 j n (lZ (-(v : Int))) (nI (B + c) - 1) (nI B) row = j (nI B) row' ∧ (∀ i, i < B → row' i = row i) ∧ (∀ i, B + c ≤ i → row' i = row i) ∧ (∀ i, i < c → row' (B + i) = nI ((dgs c v).getD i 0)) := by
  intro c
  induction c with
  | zero =>
    intro n v row _ _ hn
    obtain ⟨n, rfl⟩ : ∃ k, n = k + 1 := ⟨n - 1, by omega⟩
    refine ⟨row, if_pos ?_, fun _ _ => rfl, fun _ _ => rfl, fun i hi => by omega⟩
    have h0 : (0 : Int32).toInt = 0 := by decide
    show nI (B + 0) - 1 < nI B
    rw [Nat.add_zero, ← iZ_nI, show (1 : Int32) = iZ 1 from rfl, iZ_sub]
    exact (iZ_lt (by omega) (by omega) (by omega) (by omega)).mpr (by omega)
  | succ c ih =>
    intro n v row hc hv hn
    obtain ⟨n, rfl⟩ : ∃ k, n = k + 1 := ⟨n - 1, by omega⟩
    obtain ⟨d1, d2⟩ := lZ_dn hv
    have hch : ((48 : Int64) - (lZ (-(v : Int)) - lZ (-(v : Int)) / 10 * 10)).toInt32.toUInt32 % 65536 = (nI (48 + v % 10)).toUInt32 := by
      rw [d2]
      apply UInt32.toNat_inj.mp
      rw [UInt32.toNat_mod]
      show (48 + v % 10) % 2 ^ 32 % 65536 = (48 + v % 10) % 2 ^ 32
      omega
    have e : F_Lt_putDigits_L29 a2 j (n + 1) (lZ (-(v : Int))) (nI (B + (c + 1)) - 1) (nI B) row = F_Lt_putDigits_L29 a2 j n (lZ (-((v / 10 : Nat) : Int))) (nI (B + c) - 1) (nI B) (upd row (B + c) (nI (48 + v % 10))) := by
      rw [show B + (c + 1) = (B + c) + 1 by omega, nI_pred]
      show (if nI (B + c) < nI B then j (nI B) row else gz_ (nI (B + c) < 0 ∨ 32 ≤ (nI (B + c)).toNatClampNeg) (F_Lt_putDigits_L29 a2 j n (lZ (-(v : Int)) / 10) (nI (B + c) + -1) (nI B) (upd row (nI (B + c)).toNatClampNeg (vp_nar .char ((((48 : Int64) - (lZ (-(v : Int)) - lZ (-(v : Int)) / 10 * 10)).toInt32.toUInt32 % 65536).toInt32))))) = _
      rw [if_neg (nI_nlt (by omega) (by omega)), gzf (nI_in (by omega) (by decide)), nI_clamp (by omega), hch, d1, Int32.sub_eq_add_neg, show (nI (48 + v % 10)).toUInt32.toInt32 = nI (48 + v % 10) from rfl, nar_c (by omega)]
    rw [e]
    obtain ⟨row', h1, h2, h3, h4⟩ := ih n (v / 10) (upd row (B + c) (nI (48 + v % 10))) (by omega) (by omega) (by omega)
    refine ⟨row', h1, fun i hi => ?_, fun i hi => ?_, fun i hi => ?_⟩
    · rw [h2 i hi, pk_un (by omega)]
    · rw [h3 i (by omega), pk_un (by omega)]
    · show _ = nI ((dgs c (v / 10) ++ [48 + v % 10]).getD i 0)
      by_cases z : i = c
      · subst z
        rw [h3 (B + i) (by omega), pk_us, gD_r (by rw [dgs_len]; omega), dgs_len, Nat.sub_self]
        rfl
      · rw [h4 i (by omega), gD_l (by rw [dgs_len]; omega)]
theorem v_putDigits {n c v : Nat} {len : Int32} {row : Nat → Int32} {L : List Nat} (h : tx len row L) (hL : L.length + c ≤ 32) (hv : v ≤ 2 ^ 63) (hn : 40 < n) : ∃ (len' : Int32) (row' : Nat → Int32), F_Lt_putDigits n len row (lZ (-(v : Int))) (nI c) = some (len', row') ∧ tx len' row' (L ++ dgs c v) := by
  obtain ⟨rfl, hr⟩ := h
  obtain ⟨row', h1, h2, h3, h4⟩ := pd_L (fun (len_4 : Int32) (row_5 : (Nat → Int32)) => lt_ (len_4 + nI c) fun x6 => some (x6, row_5)) (nI c) L.length (by omega) c n v row hL hv (by omega)
  refine ⟨nI (L.length + c), row', ?_, ?_, fun i hi => ?_⟩
  · unfold F_Lt_putDigits
    simp only [lt_] at h1 ⊢
    rw [if_neg (nI_pos (by omega)), show (32 : Int32) - nI L.length = nI (32 - L.length) from pk_sub (a := 32) (by omega), if_pos (nI_le (by omega) (by omega)), nI_add, h1, nI_add]
  · rw [List.length_append, dgs_len]
  · rw [List.length_append, dgs_len] at hi
    by_cases z : i < L.length
    · rw [h2 i z, hr i z, gD_l z]
    · have := h4 (i - L.length) (by omega)
      rw [show L.length + (i - L.length) = i by omega] at this
      rw [this, gD_r (by omega)]
