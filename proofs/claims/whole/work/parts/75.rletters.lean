/-! Letters (reference). -/
theorem v_lay {n c : Nat} {len : Int32} {row : Nat → Int32} {L : List Nat} (h : tx len row L) (hL : L.length < 40) : ∃ (len' : Int32) (row' : Nat → Int32), F_Rs_lay n len row (nI c) = some (len', row') ∧ tx len' row' (L ++ [c]) := by
  refine ⟨_, _, ?_, tx_app h⟩
  obtain ⟨rfl, -⟩ := h
  unfold F_Rs_lay
  simp only [lt_]
  rw [gzf (nI_in hL (by decide)), nI_clamp (by omega), nI_1]
theorem v_mlay {n c : Nat} {len : Int32} {row : Nat → Int32} {L : List Nat} (h : tx len row L) (hL : L.length < 40) : ∃ (len' : Int32) (row' : Nat → Int32), F_Md_lay n len row (nI c) = some (len', row') ∧ tx len' row' (L ++ [c]) := by
  refine ⟨_, _, ?_, tx_app h⟩
  obtain ⟨rfl, -⟩ := h
  unfold F_Md_lay
  simp only [lt_]
  rw [gzf (nI_in hL (by decide)), nI_clamp (by omega), nI_1]
theorem ld_L19 (a1 : Int64) (a3 y3 : Int32) (j) (many : Nat) (hm : many ≤ 19) (rl : Int32) (w : Nat → Int32) : ∀ (t i e n : Nat), many - i = t → i < 100 → t < n → F_Rs_layDigits_L19 a1 a3 (nI many) y3 j n (lN (10 ^ e)) (nI i) rl w = j (lN (10 ^ (e + t))) rl w := by
  intro t
  induction t with
  | zero =>
    intro i e n hi hi2 hn
    obtain ⟨n, rfl⟩ : ∃ k, n = k + 1 := ⟨n - 1, by omega⟩
    exact if_pos (nI_le (by omega) (by omega))
  | succ t ih =>
    intro i e n hi hi2 hn
    obtain ⟨n, rfl⟩ : ∃ k, n = k + 1 := ⟨n - 1, by omega⟩
    have stp : ∀ n, F_Rs_layDigits_L19 a1 a3 (nI many) y3 j (n + 1) (lN (10 ^ e)) (nI i) rl w = (if nI many ≤ nI i then j (lN (10 ^ e)) rl w else F_Rs_layDigits_L19 a1 a3 (nI many) y3 j n (lN (10 ^ e) * lN 10) (nI i + 1) rl w) := fun _ => rfl
    rw [stp, if_neg (nI_ge (by omega) (by omega)), lN_mul, nI_1, ← Nat.pow_succ, ih (i + 1) (e + 1) n (by omega) (by omega) (by omega), show e + 1 + t = e + (t + 1) by omega]
theorem lN_dig {u : Nat} (hu : u < 2 ^ 63) : ((48 : Int64) + (lN u - lN u / 10 * 10)).toInt32 = nI (48 + u % 10) := by
  have e : lN u - lN u / (10 : Int64) * 10 = lN (u % 10) := pk_lRem (b := 10) hu (by decide) (by decide)
  rw [e, show (48 : Int64) = lN 48 from rfl, lN_add, lN_i]
theorem ld_L3 (j) (v to many : Nat) (hv : v < 2 ^ 62) (hm : many ≤ 19) (hm0 : 0 < many) (hto : to ≤ 30) : ∀ (t k n : Nat) (L : List Nat) (rl : Int32) (w : Nat → Int32), k + t = to → t + 40 < n → tx rl w L → L.length + t ≤ 40 → ∃ (rl' : Int32) (w' : Nat → Int32), F_Rs_layDigits_L3 (lN v) (nI to) (nI many) j n (nI k) rl w = j rl' w' ∧ tx rl' w' (L ++ dgs t (v * 10 ^ to / 10 ^ many)) := by
  intro t
  induction t with
  | zero =>
    intro k n L rl w hk hn h hL
    obtain rfl : k = to := by omega
    obtain ⟨n, rfl⟩ : ∃ k, n = k + 1 := ⟨n - 1, by omega⟩
    refine ⟨rl, w, if_pos (Int32.le_refl _), ?_⟩
    show tx rl w (L ++ [])
    rw [List.append_nil]
    exact h
  | succ t ih =>
    intro k n L rl w hk hn h hL
    obtain ⟨n, rfl⟩ : ∃ k, n = k + 1 := ⟨n - 1, by omega⟩
    have hu : v * 10 ^ to / 10 ^ many / 10 ^ t % 10 = if many ≤ k then 0 else v / 10 ^ (many - 1 - k) % 10 := by
      have e1 : v * 10 ^ to / 10 ^ many / 10 ^ t = v * 10 ^ (k + 1) / 10 ^ many := by
        rw [Nat.div_div_eq_div_mul, show to = (k + 1) + t by omega, Nat.pow_add, ← Nat.mul_assoc, Nat.mul_div_mul_right _ _ (Nat.pow_pos (by decide))]
      rw [e1]
      by_cases q : many ≤ k
      · rw [if_pos q, show k + 1 = (k - many) + 1 + many by omega, Nat.pow_add, ← Nat.mul_assoc, Nat.mul_div_cancel _ (Nat.pow_pos (by decide)), Nat.pow_succ, ← Nat.mul_assoc]
        exact Nat.mul_mod_left _ _
      · have e2 : v * 10 ^ (k + 1) / 10 ^ many = v / 10 ^ (many - 1 - k) := by
          rw [show 10 ^ many = 10 ^ (many - 1 - k) * 10 ^ (k + 1) by rw [← Nat.pow_add]; congr 1; omega, Nat.mul_div_mul_right _ _ (Nat.pow_pos (by decide))]
        rw [if_neg q, e2]
    obtain ⟨l1, r1, e1, t1⟩ := v_lay (n := n) (c := 48 + v * 10 ^ to / 10 ^ many / 10 ^ t % 10) h (by omega)
    obtain ⟨l2, r2, e2, t2⟩ := ih (k + 1) n (L ++ [48 + v * 10 ^ to / 10 ^ many / 10 ^ t % 10]) l1 r1 (by omega) (by omega) t1 (by rw [List.length_append]; show _ + 1 + t ≤ 40; omega)
    refine ⟨l2, r2, ?_, ?_⟩
    · have stp : ∀ n, F_Rs_layDigits_L3 (lN v) (nI to) (nI many) j (n + 1) (nI k) rl w = (if nI to ≤ nI k then j rl w else F_Rs_layDigits_L19 (lN v) (nI to) (nI many) (nI k) (fun (y7 : Int64) (rlaid_8 : Int32) (wri_9 : (Nat → Int32)) => if nI many ≤ nI k then ((F_Rs_lay n rlaid_8 wri_9 (48 : Int32)).bind fun x13 => F_Rs_layDigits_L3 (lN v) (nI to) (nI many) j n (nI k + 1) x13.1 x13.2) else (gz_ (y7 = 0) <| (F_Rs_lay n rlaid_8 wri_9 (((48 : Int64) + ((lN v / y7) - (lN v / y7) / (10 : Int64) * (10 : Int64))).toInt32)).bind fun x13 => F_Rs_layDigits_L3 (lN v) (nI to) (nI many) j n (nI k + 1) x13.1 x13.2)) n (lN (10 ^ 0)) (nI k + 1) rl w) := fun _ => rfl
      rw [stp, if_neg (nI_ge (by omega) (by omega)), nI_1, ld_L19 _ _ _ _ many hm rl w (many - (k + 1)) (k + 1) 0 n rfl (by omega) (by omega), Nat.zero_add]
      rw [hu] at e1
      by_cases q : many ≤ k
      · rw [if_pos (nI_le q (by omega))]
        rw [if_pos q] at e1
        rw [show (48 : Int32) = nI (48 + 0) from rfl, e1]
        exact e2
      · rw [if_neg (nI_ge (by omega) (by omega))]
        rw [if_neg q, show many - 1 - k = many - (k + 1) by omega] at e1
        have h10 : 0 < 10 ^ (many - (k + 1)) := Nat.pow_pos (by decide)
        have hp := p10 (many - (k + 1)) (by omega)
        have nz : ¬ lN (10 ^ (many - (k + 1))) = 0 := fun z => by have := (lN_z (by omega)).mp z; omega
        rw [gzf nz, pk_lDiv (by omega) h10 (by omega), lN_dig (Nat.lt_of_le_of_lt (Nat.div_le_self _ _) (by omega)), e1]
        exact e2
    · rw [dgs_front]
      rw [List.append_assoc] at t2
      exact t2
theorem v_layDigits {n v fr to many : Nat} {L : List Nat} {rl : Int32} {w : Nat → Int32} (h : tx rl w L) (hv : v < 2 ^ 62) (hm : many ≤ 19) (hm0 : 0 < many) (hto : to ≤ 30) (hf : fr ≤ to) (hL : L.length + (to - fr) ≤ 40) (hn : 100 < n) : ∃ (rl' : Int32) (w' : Nat → Int32), F_Rs_layDigits n rl w (lN v) (nI fr) (nI to) (nI many) = some (rl', w') ∧ tx rl' w' (L ++ dgs (to - fr) (v * 10 ^ to / 10 ^ many)) := ld_L3 (fun a b => some (a, b)) v to many hv hm hm0 hto (to - fr) fr n L rl w (by omega) (by omega) h hL
/-! a number's digits -/
theorem ln_L2 (V : Nat) (hV : V < 1000) (j) (rl : Int32) (w : Nat → Int32) : ∀ (t e n : Nat), e + t = ndg V - 1 → t < n → F_Rs_layNumber_L2 (nI V) j n (nI (10 ^ e)) rl w = j (nI (10 ^ (ndg V - 1))) rl w := by
  have n3 := ndg_3 hV
  have a := ndg_lt 3 V hV
  have g := ndg_ge 3 V hV
  intro t
  induction t with
  | zero =>
    intro e n he hn
    obtain ⟨n, rfl⟩ : ∃ k, n = k + 1 := ⟨n - 1, by omega⟩
    have h10 : 0 < 10 ^ e := Nat.pow_pos (by decide)
    have hle : 10 ^ e ≤ 10 ^ 2 := Nat.pow_le_pow_right (by decide) (by omega)
    have nz : ¬ nI (10 ^ e) = 0 := nI_ne0 h10 (by omega)
    have hdv : V / 10 ^ e ≤ 9 := by
      have : V < 10 ^ e * 10 := by rw [← Nat.pow_succ, show e.succ = ndg V by have := ndg_pos V; omega]; exact a
      exact Nat.lt_succ_iff.mp (Nat.div_lt_of_lt_mul this)
    show gz_ (nI (10 ^ e) = 0) (if nI V / nI (10 ^ e) ≤ (9 : Int32) then j (nI (10 ^ e)) rl w else _) = _
    rw [gzf nz, pk_div (by omega) h10 (by omega), if_pos (show nI (V / 10 ^ e) ≤ (9 : Int32) from nI_le (b := 9) hdv (by decide)), show e = ndg V - 1 by omega]
  | succ t ih =>
    intro e n he hn
    obtain ⟨n, rfl⟩ : ∃ k, n = k + 1 := ⟨n - 1, by omega⟩
    have h10 : 0 < 10 ^ e := Nat.pow_pos (by decide)
    have hle : 10 ^ e ≤ 10 ^ 2 := Nat.pow_le_pow_right (by decide) (by omega)
    have nz : ¬ nI (10 ^ e) = 0 := nI_ne0 h10 (by omega)
    have hV0 : 0 < V := by
      by_cases z : 0 < V
      · exact z
      · obtain rfl : V = 0 := by omega
        have : ndg 0 = 1 := by unfold ndg; rfl
        omega
    have hdv : 10 ≤ V / 10 ^ e := by
      refine (Nat.le_div_iff_mul_le h10).mpr ?_
      rw [Nat.mul_comm, ← Nat.pow_succ]
      exact Nat.le_trans (Nat.pow_le_pow_right (by decide) (by omega)) (g hV0)
    have hdl : V / 10 ^ e ≤ V := Nat.div_le_self _ _
    have stp : ∀ n, F_Rs_layNumber_L2 (nI V) j (n + 1) (nI (10 ^ e)) rl w = gz_ (nI (10 ^ e) = 0) (if nI V / nI (10 ^ e) ≤ (9 : Int32) then j (nI (10 ^ e)) rl w else F_Rs_layNumber_L2 (nI V) j n (nI (10 ^ e) * nI 10) rl w) := fun _ => rfl
    rw [stp, gzf nz, pk_div (by omega) h10 (by omega), if_neg (show ¬ nI (V / 10 ^ e) ≤ (9 : Int32) from nI_ge (a := 9) (by omega) (by omega)), pk_mul, ← Nat.pow_succ]
    exact ih (e + 1) n (by omega) (by omega)
theorem ln_L18 (V : Nat) (hV : V < 1000) (j) : ∀ (e n : Nat) (L : List Nat) (rl : Int32) (w : Nat → Int32), e ≤ 5 → e + 1 < n → tx rl w L → L.length + e + 1 ≤ 40 → ∃ (rl' : Int32) (w' : Nat → Int32), F_Rs_layNumber_L18 (nI V) j n (nI (10 ^ e)) rl w = j rl' w' ∧ tx rl' w' (L ++ dgs (e + 1) V) := by
  intro e
  induction e with
  | zero =>
    intro n L rl w he hn h hL
    obtain ⟨n, rfl⟩ : ∃ k, n = k + 1 := ⟨n - 1, by omega⟩
    obtain ⟨n, rfl⟩ : ∃ k, n = k + 1 := ⟨n - 1, by omega⟩
    obtain ⟨l1, r1, e1, t1⟩ := v_lay (n := n + 1) (c := 48 + V / 1 % 10) h (by omega)
    refine ⟨l1, r1, ?_, ?_⟩
    · have stp : ∀ n, F_Rs_layNumber_L18 (nI V) j (n + 1) (nI 1) rl w = (if nI 1 ≤ 0 then j rl w else gz_ (nI 1 = 0) ((F_Rs_lay n rl w (nI 48 + ((nI V / nI 1) - (nI V / nI 1) / nI 10 * nI 10))).bind fun x9 => F_Rs_layNumber_L18 (nI V) j n (nI 1 / nI 10) x9.1 x9.2)) := fun _ => rfl
      show F_Rs_layNumber_L18 (nI V) j (n + 1 + 1) (nI 1) rl w = _
      rw [stp, if_neg (show ¬ nI 1 ≤ 0 by decide), gzf (show ¬ nI 1 = 0 by decide), pk_div (a := V) (d := 1) (by omega) (by decide) (by decide), pk_rem (a := V / 1) (d := 10) (by rw [Nat.div_one]; omega) (by decide) (by decide), nI_add, e1]
      have z0 : ∀ (n : Nat) (a : Int32) (b : Nat → Int32), F_Rs_layNumber_L18 (nI V) j (n + 1) (nI 0) a b = j a b := fun _ _ _ => if_pos (by decide)
      rw [show nI 1 / nI 10 = nI 0 by decide]
      exact z0 n l1 r1
    · show tx l1 r1 (L ++ ([] ++ [48 + V % 10]))
      rw [Nat.div_one] at t1
      exact t1
  | succ e ih =>
    intro n L rl w he hn h hL
    obtain ⟨n, rfl⟩ : ∃ k, n = k + 1 := ⟨n - 1, by omega⟩
    have h10 : 0 < 10 ^ (e + 1) := Nat.pow_pos (by decide)
    have hle : 10 ^ (e + 1) ≤ 10 ^ 5 := Nat.pow_le_pow_right (by decide) (by omega)
    have nz : ¬ nI (10 ^ (e + 1)) = 0 := nI_ne0 h10 (by omega)
    obtain ⟨l1, r1, e1, t1⟩ := v_lay (n := n) (c := 48 + V / 10 ^ (e + 1) % 10) h (by omega)
    obtain ⟨l2, r2, e2, t2⟩ := ih n (L ++ [48 + V / 10 ^ (e + 1) % 10]) l1 r1 (by omega) (by omega) t1 (by rw [List.length_append]; show _ + 1 + e + 1 ≤ 40; omega)
    refine ⟨l2, r2, ?_, ?_⟩
    · have stp : ∀ n x, F_Rs_layNumber_L18 (nI V) j (n + 1) (nI x) rl w = (if nI x ≤ 0 then j rl w else gz_ (nI x = 0) ((F_Rs_lay n rl w (nI 48 + ((nI V / nI x) - (nI V / nI x) / nI 10 * nI 10))).bind fun x9 => F_Rs_layNumber_L18 (nI V) j n (nI x / nI 10) x9.1 x9.2)) := fun _ _ => rfl
      have hdl : V / 10 ^ (e + 1) ≤ V := Nat.div_le_self _ _
      rw [stp, if_neg (nI_nle h10 (by omega)), gzf nz, pk_div (by omega) h10 (by omega), pk_rem (by omega) (by decide) (by decide), nI_add, e1]
      simp only [Option.bind_some]
      rw [pk_div (by omega) (by decide) (by decide), Nat.pow_succ, Nat.mul_div_cancel _ (by decide)]
      exact e2
    · rw [dgs_front]
      rw [List.append_assoc] at t2
      exact t2
theorem v_layNumber {n V : Nat} {L : List Nat} {rl : Int32} {w : Nat → Int32} (h : tx rl w L) (hV : V < 1000) (hL : L.length ≤ 30) (hn : 100 < n) : ∃ (rl' : Int32) (w' : Nat → Int32), F_Rs_layNumber n rl w (nI V) = some (rl', w') ∧ tx rl' w' (L ++ dgs (ndg V) V) := by
  have n3 := ndg_3 hV
  have p := ndg_pos V
  obtain ⟨l1, r1, e1, t1⟩ := ln_L18 V hV (fun a b => some (a, b)) (ndg V - 1) n L rl w (by omega) (by omega) h (by omega)
  rw [show ndg V - 1 + 1 = ndg V by omega] at t1
  refine ⟨l1, r1, ?_, t1⟩
  refine Eq.trans (b := F_Rs_layNumber_L2 (nI V) _ n (nI (10 ^ 0)) rl w) rfl ((ln_L2 V hV _ rl w (ndg V - 1) 0 n (by omega) (by omega)).trans ?_)
  exact e1
/-! words -/
theorem lw_L9 (W : Int64) (C : List Nat) (j) (hC : ∀ t, t < C.length → ((W >>> ((nI (8 * t)).toInt64 &&& 63)) &&& (255 : Int64)).toInt32 = nI (C.getD (C.length - 1 - t) 0)) (hlen : C.length ≤ 8) : ∀ (t n : Nat) (L : List Nat) (rl : Int32) (w : Nat → Int32), t ≤ C.length → t < n → tx rl w L → L.length + t ≤ 40 → ∃ (rl' : Int32) (w' : Nat → Int32), F_Rs_layWord_L9 W j n (iZ (8 * t - 8)) rl w = j rl' w' ∧ tx rl' w' (L ++ C.drop (C.length - t)) := by
  intro t
  induction t with
  | zero =>
    intro n L rl w _ hn h _
    obtain ⟨n, rfl⟩ : ∃ k, n = k + 1 := ⟨n - 1, by omega⟩
    refine ⟨rl, w, if_pos (by decide), ?_⟩
    rw [Nat.sub_zero, List.drop_length, List.append_nil]
    exact h
  | succ t ih =>
    intro n L rl w ht hn h hL
    obtain ⟨n, rfl⟩ : ∃ k, n = k + 1 := ⟨n - 1, by omega⟩
    obtain ⟨l1, r1, e1, t1⟩ := v_lay (n := n) (c := C.getD (C.length - 1 - t) 0) h (by omega)
    obtain ⟨l2, r2, e2, t2⟩ := ih n (L ++ [C.getD (C.length - 1 - t) 0]) l1 r1 (by omega) (by omega) t1 (by rw [List.length_append]; show _ + 1 + t ≤ 40; omega)
    refine ⟨l2, r2, ?_, ?_⟩
    · have stp : ∀ n x, F_Rs_layWord_L9 W j (n + 1) (iZ x) rl w = (if iZ x < 0 then j rl w else (F_Rs_lay n rl w (((W >>> ((iZ x).toInt64 &&& 63)) &&& (255 : Int64)).toInt32)).bind fun x7 => F_Rs_layWord_L9 W j n (iZ x + iZ (-8)) x7.1 x7.2) := fun _ _ => rfl
      have ex : iZ (8 * ((t + 1 : Nat) : Int) - 8) = nI (8 * t) := by
        rw [← iZ_nI]
        congr 1
        omega
      rw [stp, if_neg (show ¬ iZ (8 * ((t + 1 : Nat) : Int) - 8) < 0 by rw [ex]; exact nI_pos (by omega)), iZ_add, ex, hC t (by omega), e1]
      simp only [Option.bind_some]
      rw [show (8 * ((t + 1 : Nat) : Int) - 8 + -8) = 8 * (t : Int) - 8 by omega]
      exact e2
    · have hd : C.drop (C.length - (t + 1)) = C.getD (C.length - 1 - t) 0 :: C.drop (C.length - t) := by
        rw [show C.length - (t + 1) = C.length - 1 - t by omega, List.drop_eq_getElem_cons (show C.length - 1 - t < C.length by omega), gD_e (show C.length - 1 - t < C.length by omega), show C.length - 1 - t + 1 = C.length - t by omega]
      rw [hd]
      rw [List.append_assoc] at t2
      exact t2
theorem v_layWord {n : Nat} {W : Int64} {C : List Nat} {L : List Nat} {rl : Int32} {w : Nat → Int32} {c : Int32} (hc : c = nI C.length) (h : tx rl w L) (hC : ∀ t, t < C.length → ((W >>> ((nI (8 * t)).toInt64 &&& 63)) &&& (255 : Int64)).toInt32 = nI (C.getD (C.length - 1 - t) 0)) (hlen : C.length ≤ 8) (hL : L.length ≤ 30) (hn : 100 < n) : ∃ (rl' : Int32) (w' : Nat → Int32), F_Rs_layWord n rl w W c = some (rl', w') ∧ tx rl' w' (L ++ C) := by
  obtain ⟨l1, r1, e1, t1⟩ := lw_L9 W C (fun a b => some (a, b)) hC hlen C.length n L rl w (Nat.le_refl _) (by omega) h (by omega)
  rw [Nat.sub_self] at t1
  refine ⟨l1, r1, ?_, t1⟩
  unfold F_Rs_layWord
  simp only [lt_]
  rw [hc, show (8 : Int32) = nI 8 from rfl, pk_mul, ← iZ_nI, ← iZ_nI, iZ_sub]
  exact e1
theorem w_nan : ∀ t, t < [78, 97, 78].length → (((5136718 : Int64) >>> ((nI (8 * t)).toInt64 &&& 63)) &&& (255 : Int64)).toInt32 = nI ([78, 97, 78].getD ([78, 97, 78].length - 1 - t) 0) := by decide +kernel
theorem w_inf : ∀ t, t < [73, 110, 102, 105, 110, 105, 116, 121].length → (((5291279215216915577 : Int64) >>> ((nI (8 * t)).toInt64 &&& 63)) &&& (255 : Int64)).toInt32 = nI ([73, 110, 102, 105, 110, 105, 116, 121].getD ([73, 110, 102, 105, 110, 105, 116, 121].length - 1 - t) 0) := by decide +kernel
theorem w_zero : ∀ t, t < [48, 46, 48].length → (((3157552 : Int64) >>> ((nI (8 * t)).toInt64 &&& 63)) &&& (255 : Int64)).toInt32 = nI ([48, 46, 48].getD ([48, 46, 48].length - 1 - t) 0) := by decide +kernel
