/-! The reference's sum. -/
def addT (n : Nat) (x9 x10 : Int64) (x11 x12 x13 x14 a1 : Int32) : Option Int64 := lt_ (x11 - x12) fun x15 => lt_ (x9 <<< (((1 : Int32)).toInt64 &&& 63)) fun x16 => lt_ (x10 <<< (((1 : Int32)).toInt64 &&& 63)) fun x17 => lt_ (if x15 ≤ (62 : Int32) then x17 >>> ((x15).toInt64 &&& 63) else (0 : Int64)) fun x18 => lt_ (if (62 : Int32) < x15 then (1 : Int32) else if (x18 <<< ((x15).toInt64 &&& 63)) = x17 then (0 : Int32) else (1 : Int32)) fun x19 => if ¬ x13 = x14 then (lt_ (if x19 = 0 then (0 : Int32) else (1 : Int32)) fun x20 => lt_ ((x16 - x18) - ((x20).toInt64)) fun x21 => lt_ (fun (_ : Unit) => (F_Md_round n x13 x21 (x11 - (1 : Int32)) x19 a1).bind fun x22 => some x22) fun j416 => if ¬ x21 = (0 : Int64) then (j416 ()) else (if ¬ x19 = 0 then (j416 ()) else (some (0 : Int64)))) else ((F_Md_round n x13 (x16 + x18) (x11 - (1 : Int32)) x19 a1).bind fun x23 => some x23)
theorem mg_two (f inf : Nat) (lp : Int) (N : Nat) (e : Int) : mg f inf lp (2 * N) (e - 1) = mg f inf lp N e := by
  have := mg_scale f inf lp N 1 e
  rw [Nat.pow_one, Nat.mul_comm] at this
  exact this
theorem add_mg {f te w : Nat} {lp : Int} (hF : fmt f te w lp) {A B d : Nat} (a1 : 2 ^ 60 ≤ A) (a2 : A < 2 ^ 61) (b2 : B < 2 ^ 61) (ho : d = 0 → B ≤ A) (same : Bool) (inf : Nat) (eb : Int) :
    let mv := 2 * B / 2 ^ d
    let l := if 2 * B % 2 ^ d = 0 then 0 else 1
    let H := if same then 2 * A + mv else 2 * A - mv - l
    mv + l ≤ 2 * A ∧ H < 2 ^ 63 ∧ (l = 1 → 2 ^ 59 ≤ H) ∧ (same = false → l = 0 → (H = 0 ↔ A * 2 ^ d = B)) ∧ (same = false → A * 2 ^ d = B → l = 0) ∧ mg f inf lp (2 * H + l) (eb + d - 2) = mg f inf lp (if same then A * 2 ^ d + B else A * 2 ^ d - B) eb := by
  have hb := fmt_b hF
  have hpd := p2_pos d
  have hdm := Nat.div_add_mod (2 * B) (2 ^ d)
  have hr := Nat.mod_lt (2 * B) hpd
  have hmv := Nat.div_le_self (2 * B) (2 ^ d)
  have hAd : A ≤ A * 2 ^ d := Nat.le_mul_of_pos_right _ hpd
  have hd1 : d = 0 ∨ 2 * A ≤ A * 2 ^ d := by
    rcases Nat.eq_zero_or_pos d with z | z
    · exact Or.inl z
    · refine Or.inr ?_
      rw [Nat.mul_comm 2]
      exact Nat.mul_le_mul_left _ (by have := p2_le (a := 1) (b := d) z; omega)
  have hBA : B ≤ A * 2 ^ d := by
    rcases hd1 with z | z
    · have := ho z; omega
    · omega
  intro mv l H
  have dmv : mv = 2 * B / 2 ^ d := rfl
  have dl : l = if 2 * B % 2 ^ d = 0 then 0 else 1 := rfl
  have dH : H = if same then 2 * A + mv else 2 * A - mv - l := rfl
  clear_value H l mv
  rw [← dmv] at hdm hmv
  have hmv2 : 0 < d → mv ≤ B := by
    intro z
    have h2 : 2 ^ 1 ≤ 2 ^ d := p2_le (by omega)
    rw [dmv]
    apply Nat.div_le_of_le_mul
    calc 2 * B ≤ 2 ^ d * B := Nat.mul_le_mul_right _ (by omega)
      _ = _ := rfl
  by_cases hz : 2 * B % 2 ^ d = 0
  · have hl : l = 0 := by rw [dl]; exact if_pos hz
    have e1 : 2 * B = mv * 2 ^ d := by
      rw [Nat.mul_comm mv]
      omega
    have hmvA : mv ≤ 2 * A := by
      rcases Nat.eq_zero_or_pos d with z | z
      · have := ho z; omega
      · have := hmv2 z; omega
    have hH : H = if same then 2 * A + mv else 2 * A - mv := by
      rw [dH, hl]
      rfl
    have e2 : H * 2 ^ d = 2 * (if same then A * 2 ^ d + B else A * 2 ^ d - B) := by
      rw [hH]
      cases same
      · simp only [Bool.false_eq_true, if_false]
        rw [Nat.sub_mul, ← e1, Nat.mul_assoc]
        omega
      · simp only [if_true]
        rw [Nat.add_mul, ← e1, Nat.mul_assoc]
        omega
    refine ⟨by omega, ?_, by omega, ?_, fun _ _ => hl, ?_⟩
    · rw [hH]; split <;> omega
    · intro hs _
      subst hs
      simp only [Bool.false_eq_true, if_false] at e2
      constructor
      · intro z
        rw [z, Nat.zero_mul] at e2
        omega
      · intro z
        have : H * 2 ^ d = 0 := by omega
        rcases Nat.mul_eq_zero.mp this with q | q
        · exact q
        · omega
    · rw [hl, Nat.add_zero, show eb + (d : Int) - 2 = (eb + d - 1) - 1 by omega, mg_two]
      have h1 := mg_scale f inf lp H d (eb + d - 1)
      rw [e2, show eb + (d : Int) - 1 - d = eb - 1 by omega, mg_two] at h1
      exact h1.symm
  · have hl : l = 1 := by rw [dl]; exact if_neg hz
    have hd2 : 2 ≤ d := by
      rcases (by omega : d = 0 ∨ d = 1 ∨ 2 ≤ d) with z | z | z
      · subst z; omega
      · subst z; omega
      · exact z
    have hmvB := hmv2 (by omega)
    obtain ⟨k, rfl⟩ : ∃ k, d = k + 1 := ⟨d - 1, by omega⟩
    have hp4 : 2 ^ 2 ≤ 2 ^ (k + 1) := p2_le hd2
    have hbig : 2 ^ (62 + k) ≤ 2 * A * 2 ^ (k + 1) := by
      have : 2 ^ 61 * 2 ^ (k + 1) ≤ 2 * A * 2 ^ (k + 1) := Nat.mul_le_mul_right _ (by omega)
      rw [← Nat.pow_add, show 61 + (k + 1) = 62 + k by omega] at this
      exact this
    have h61 : 2 ^ 63 ≤ 2 ^ (62 + k) := p2_le (by omega)
    have hps : 2 ^ (62 + k) = 2 * 2 ^ (61 + k) := by rw [← p2_s]; congr 1; omega
    have e0 : 2 * (if same then A * 2 ^ (k + 1) + B else A * 2 ^ (k + 1) - B) = H * 2 ^ (k + 1) + (if same then 2 * B % 2 ^ (k + 1) else 2 ^ (k + 1) - 2 * B % 2 ^ (k + 1)) := by
      have e1 : mv * 2 ^ (k + 1) = 2 ^ (k + 1) * mv := Nat.mul_comm _ _
      rw [dH, hl]
      cases same
      · simp only [Bool.false_eq_true, if_false]
        rw [Nat.sub_mul, Nat.sub_mul, Nat.one_mul, e1, Nat.mul_assoc]
        have h3 : 2 ^ (k + 1) * mv + 2 ^ (k + 1) ≤ 2 * (A * 2 ^ (k + 1)) := by
          have : (mv + 1) * 2 ^ (k + 1) ≤ 2 * A * 2 ^ (k + 1) := Nat.mul_le_mul_right _ (by omega)
          rw [Nat.add_mul, Nat.one_mul, e1, Nat.mul_assoc] at this
          exact this
        omega
      · simp only [if_true]
        rw [Nat.add_mul, e1, Nat.mul_assoc]
        omega
    have hY : 2 ^ (61 + k) ≤ 2 * (if same then A * 2 ^ (k + 1) + B else A * 2 ^ (k + 1) - B) := by
      rw [Nat.mul_assoc] at hbig
      split <;> omega
    have hHlo : 2 ^ 59 ≤ H := by
      rcases Nat.lt_or_ge H (2 ^ 59) with z | z
      · exfalso
        have h4 : (H + 1) * 2 ^ (k + 1) ≤ 2 ^ 59 * 2 ^ (k + 1) := Nat.mul_le_mul_right _ z
        rw [← Nat.pow_add, Nat.add_mul, Nat.one_mul] at h4
        have h5 : 2 ^ (59 + (k + 1)) < 2 ^ (61 + k) := Nat.pow_lt_pow_right (by decide) (by omega)
        have h6 : (if same then 2 * B % 2 ^ (k + 1) else 2 ^ (k + 1) - 2 * B % 2 ^ (k + 1)) ≤ 2 ^ (k + 1) := by split <;> omega
        omega
      · exact z
    have hbl := bl_gt hY
    refine ⟨by omega, ?_, fun _ => hHlo, fun _ h => by omega, ?_, ?_⟩
    · rw [dH]
      split <;> omega
    · intro hs hAB
      exfalso
      rw [← hAB] at hz
      apply hz
      rw [← Nat.mul_assoc]
      exact Nat.mul_mod_left _ _
    · have hjm := jm_two (H := H) (k := k) (r := if same then 2 * B % 2 ^ (k + 1) else 2 ^ (k + 1) - 2 * B % 2 ^ (k + 1)) (by split <;> omega) (by split <;> omega)
      rw [← e0] at hjm
      have hXk : 2 ^ (k + 1) ≤ 2 * (if same then A * 2 ^ (k + 1) + B else A * 2 ^ (k + 1) - B) := Nat.le_trans (p2_le (by omega)) hY
      have := mg_jam (f := f) (inf := inf) (lp := lp) (e := eb - 1) hjm hXk (by unfold mgS; omega)
      rw [hl, ← mg_two f inf lp _ eb, this]
      congr 1
      omega
theorem add_core {sgl : Int32} {f te w : Nat} {lp : Int} (hM : mSg sgl f te w lp) {n : Nat} (hn : 64 < n) {A B d : Nat} (a1 : 2 ^ 60 ≤ A) (a2 : A < 2 ^ 61) (b1 : 0 < B) (b2 : B < 2 ^ 61) {ea eb : Int} (hd : ea = eb + d) (r1 : -10000 ≤ eb) (r2 : ea ≤ 10000) (ho : d = 0 → B ≤ A) {s o : Nat} (hs : s ≤ 1) (hoo : o ≤ 1) :
    addT n (lN A) (lN B) (iZ ea) (iZ eb) (nI s) (nI o) sgl = some (lN (if s = o then mg f (te * 2 ^ f) lp (A * 2 ^ d + B) eb + s * 2 ^ w else if A * 2 ^ d = B then 0 else mg f (te * 2 ^ f) lp (A * 2 ^ d - B) eb + s * 2 ^ w)) := by
  have hF := mSg_fmt hM
  have hb := fmt_b hF
  have hinf := fmt_inf hF
  have hpf := p2_pos f
  obtain ⟨g1, g2, g3, g4, g5, g6⟩ := add_mg hF (A := A) (B := B) (d := d) a1 a2 b2 ho (decide (s = o)) (te * 2 ^ f) eb
  have hmv := Nat.div_le_self (2 * B) (2 ^ d)
  unfold addT
  simp only [lt_]
  have e15 : iZ ea - iZ eb = nI d := by
    rw [iZ_sub, ← iZ_nI]
    congr 1
    omega
  have e16 : ∀ x : Nat, lN x <<< (((1 : Int32)).toInt64 &&& 63) = lN (2 * x) := by
    intro x
    have := wb_shl x (k := 1) (by decide)
    rw [Nat.pow_one, Nat.mul_comm] at this
    exact this
  have c62 : nI d ≤ (62 : Int32) ↔ d ≤ 62 := nI_leI (b := 62) (by omega) (by decide)
  have c62' : (62 : Int32) < nI d ↔ 62 < d := nI_ltI (a := 62) (by decide) (by omega)
  rw [e15, e16, e16]
  have e18 : (if nI d ≤ (62 : Int32) then lN (2 * B) >>> ((nI d).toInt64 &&& 63) else (0 : Int64)) = lN (2 * B / 2 ^ d) := by
    by_cases h : d ≤ 62
    · rw [if_pos (c62.mpr h), wb_c d (by omega)]
      exact pf_shr (by rw [lN_bv, wb_sm d (by omega), BitVec.toNat_ofNat]; omega) (by omega)
    · rw [if_neg (fun z => h (c62.mp z)), Nat.div_eq_of_lt]
      · rfl
      · have : 2 ^ 62 ≤ 2 ^ d := p2_le (by omega)
        omega
  rw [e18]
  have e19 : (if (62 : Int32) < nI d then (1 : Int32) else if lN (2 * B / 2 ^ d) <<< ((nI d).toInt64 &&& 63) = lN (2 * B) then (0 : Int32) else (1 : Int32)) = nI (if 2 * B % 2 ^ d = 0 then 0 else 1) := by
    have hdm := Nat.div_add_mod (2 * B) (2 ^ d)
    by_cases h : 62 < d
    · have hp : 2 ^ 62 ≤ 2 ^ d := p2_le (by omega)
      rw [if_pos (c62'.mpr h), Nat.mod_eq_of_lt (by omega), if_neg (by omega)]
      rfl
    · rw [if_neg (fun z => h (c62'.mp z)), wb_shl _ (by omega)]
      have hle : 2 * B / 2 ^ d * 2 ^ d ≤ 2 * B := Nat.div_mul_le_self _ _
      have c : lN (2 * B / 2 ^ d * 2 ^ d) = lN (2 * B) ↔ 2 * B % 2 ^ d = 0 := by
        rw [lN_inj (by omega) (by omega), Nat.mul_comm]
        omega
      by_cases z : 2 * B % 2 ^ d = 0
      · rw [if_pos (c.mpr z), if_pos z]
        rfl
      · rw [if_neg (fun q => z (c.mp q)), if_neg z]
        rfl
  rw [e19]
  generalize hl : (if 2 * B % 2 ^ d = 0 then 0 else 1) = l at *
  have hl1 : l ≤ 1 := by rw [← hl]; split <;> omega
  generalize hmvv : 2 * B / 2 ^ d = mv at *
  have cS : nI s = nI o ↔ s = o := nI_eq (by omega) (by omega)
  have cl : nI l = 0 ↔ l = 0 := nI_z (by omega)
  have e11 : iZ ea - (1 : Int32) = iZ (ea - 1) := by
    rw [show (1 : Int32) = iZ 1 from rfl, iZ_sub]
  rw [e11]
  by_cases hso : s = o
  · have hD : decide (s = o) = true := by simp [hso]
    rw [hD] at g2 g3 g4 g5 g6
    simp only [if_true] at g2 g3 g4 g5 g6
    rw [if_neg (not_not_intro (cS.mpr hso)), if_pos hso, lN_add, v_round hM hn _ (by omega) (by omega) g2 hl1 (fun z => by have := bl_gt (g3 z); omega)]
    simp only [Option.bind_some]
    have hle := mg_le f (te * 2 ^ f) lp (A * 2 ^ d + B) eb
    rw [show ea - 1 - 1 = eb + (d : Int) - 2 by omega, g6, v_sgnM hM (by omega) hs]
  · have hD : decide (s = o) = false := by simp [hso]
    rw [hD] at g2 g3 g4 g5 g6
    simp only [Bool.false_eq_true, if_false] at g2 g3 g4 g5 g6
    rw [if_pos (show ¬ nI s = nI o from fun z => hso (cS.mp z)), if_neg hso]
    have e20 : (if nI l = 0 then (0 : Int32) else (1 : Int32)).toInt64 = lN l := by
      rcases (by omega : l = 0 ∨ l = 1) with z | z <;> subst z <;> rfl
    rw [e20, lN_sub (by omega), lN_sub (by omega)]
    have c21 : lN (2 * A - mv - l) = (0 : Int64) ↔ 2 * A - mv - l = 0 := lN_z (by omega)
    have hle := mg_le f (te * 2 ^ f) lp (A * 2 ^ d - B) eb
    have hround : (F_Md_round n (nI s) (lN (2 * A - mv - l)) (iZ (ea - 1)) (nI l) sgl).bind (fun x22 => some x22) = some (lN (mg f (te * 2 ^ f) lp (A * 2 ^ d - B) eb + s * 2 ^ w)) := by
      rw [v_round hM hn _ (by omega) (by omega) g2 hl1 (fun z => by have := bl_gt (g3 z); omega)]
      simp only [Option.bind_some]
      rw [show ea - 1 - 1 = eb + (d : Int) - 2 by omega, g6, v_sgnM hM (by omega) hs]
    by_cases hAB : A * 2 ^ d = B
    · have l0 := g5 trivial hAB
      have h0 := (g4 trivial l0).mpr hAB
      rw [if_neg (not_not_intro (c21.mpr h0)), if_neg (not_not_intro (cl.mpr l0)), if_pos hAB]
      rfl
    · rw [if_neg hAB]
      by_cases hz : 2 * A - mv - l = 0
      · rw [if_neg (not_not_intro (c21.mpr hz))]
        have : ¬ l = 0 := fun z => hAB ((g4 trivial z).mp hz)
        rw [if_pos (show ¬ nI l = 0 from fun z => this (cl.mp z))]
        exact hround
      · rw [if_pos (show ¬ lN (2 * A - mv - l) = 0 from fun z => hz (c21.mp z))]
        exact hround
