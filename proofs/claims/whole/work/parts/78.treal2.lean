/-! The text of a float or double. -/
section TS
variable {K : rK} {sgl : Int32} {f te w : Nat} {lp : Int}
theorem one_ne : ¬ (1 : Int32) = 0 := by decide
theorem t_real {t : Int32} (hK : kS (KR t) f te w lp) (hS : mSg sgl f te w lp) {u n : Nat} (hu : u < 2 ^ 64) (hn : 7000 < n) (row : Nat → Int32) (dig : Int64) (pw used lost : Int32) (lim : Nat → Int64) (rlaid rgone rthr aN bN fN l r tw rp : Int32) (wri ra rb rf rle rri : Nat → Int32) :
    ∃ (L : List Nat) (len' : Int32) (row' : Nat → Int32) (dig' : Int64) (pw' used' lost' : Int32) (lim' : Nat → Int64) (rl' aN' bN' fN' l' r' tw' rp' : Int32) (wri' ra' rb' rf' rle' rri' : Nat → Int32), L.length ≤ 32 ∧
      F_PB_putReal n 0 row dig pw used lost lim (lN u) t = some (len', row', dig', pw', used', lost', lim') ∧ tx len' row' L ∧
      F_Rs_write n rlaid rgone rthr aN bN fN l r tw rp wri ra rb rf rle rri (lN u) sgl = some (rl', rl', 0, 0, aN', bN', fN', l', r', tw', rp', wri', ra', rb', rf', rle', rri') ∧ tx rl' wri' L := by
  have hf := kS_fmt hK
  have hb := fmt_b hf
  have hinf := fmt_inf hf
  have hGlt : dG w u < 2 ^ w := Nat.mod_lt _ (p2_pos w)
  have hw63 : 2 ^ w ≤ 2 ^ 63 := p2_le (by omega)
  have hpf := p2_pos f
  have hte : te * 2 ^ f < 2 ^ 63 := by omega
  have hte2 : te * 2 ^ f - 1 < 2 ^ 63 := by omega
  obtain ⟨g1, g2, g3⟩ := write_bits hS hu
  obtain ⟨k1, k2, k3, k4⟩ := d_G hf u
  have hI : 0 < te * 2 ^ f := Nat.mul_pos (by omega) (p2_pos f)
  have e1 : lN (te * 2 ^ f - 1) + (1 : Int64) = lN (te * 2 ^ f) := by rw [lN_1, Nat.sub_add_cancel hI]
  have c1 : lN (dG w u) ≤ lN (te * 2 ^ f) ↔ dG w u ≤ te * 2 ^ f := pk_lLE (by omega) (by assumption)
  have c2 : lN (dG w u) ≤ lN (te * 2 ^ f - 1) ↔ dG w u ≤ te * 2 ^ f - 1 := pk_lLE (by omega) (by assumption)
  have c3 : lN (dG w u) = 0 ↔ dG w u = 0 := lN_z (by omega)
  have hs01 : dS w u = 0 ∨ dS w u = 1 := by unfold dS; omega
  -- the sign
  unfold F_PB_putReal F_Rs_write
  simp only [lt_]
  rw [g1, g2, g3, e1, v_isNan hK hu, v_isInfinite hK hu, v_isZero hK hu, v_isNegative hK hu, v_significand hK hu, v_power hK hu]
  by_cases q1 : te * 2 ^ f < dG w u
  · -- NaN
    simp only [if_pos q1, if_neg one_ne]
    rw [if_neg (fun y => by have := c1.mp y; omega)]
    obtain ⟨l1, r1, a1, t1⟩ := v_puts (n := n) (bs := [78, 97, 78]) (C := [78, 97, 78]) cNaN rfl (tx_nil row) (by decide)
    have a1 : F_Lt_puts n [78, 97, 78] 3 0 0 row = some (l1, r1) := a1
    obtain ⟨l2, r2, a2, t2⟩ := v_layWord (n := n) (W := 5136718) (C := [78, 97, 78]) (c := 3) rfl (tx_nil wri) w_nan (by decide) (by decide) (by omega)
    rw [a1, a2]
    exact ⟨[] ++ [78, 97, 78], _, _, _, _, _, _, _, _, _, _, _, _, _, _, _, _, _, _, _, _, _, by decide, rfl, t1, rfl, t2⟩
  · simp only [if_neg q1, if_true]
    rw [if_pos (c1.mpr (by omega))]
    -- behind the sign
    have rest : ∀ (S : List Nat) (len : Int32) (row : Nat → Int32) (rl : Int32) (wri : Nat → Int32), S.length ≤ 1 → tx len row S → tx rl wri S → 
        ∃ (L : List Nat) (len' : Int32) (row' : Nat → Int32) (dig' : Int64) (pw' used' lost' : Int32) (lim' : Nat → Int64) (rl' aN' bN' fN' l' r' tw' rp' : Int32) (wri' ra' rb' rf' rle' rri' : Nat → Int32), L.length ≤ 32 ∧
        (if (if dG w u = te * 2 ^ f then (1 : Int32) else 0) = 0 then if (if dG w u = 0 then (1 : Int32) else 0) = 0 then (F_SD_find n dig pw used lost lim (lN (dM f w u)) (iZ (dP f w lp u)) (F_Real_isCloserBelow (KR t) (lN u))).bind fun x15 => (F_Lt_putDecimal n len row (F_SD_digits x15.1) (F_SD_power x15.2.1)).bind fun x18 => some (x18.1, x18.2, x15.1, x15.2.1, x15.2.2.1, x15.2.2.2.1, x15.2.2.2.2) else (F_Lt_puts n [48, 46, 48] 3 0 len row).bind fun x19 => some (x19.1, x19.2, dig, pw, used, lost, lim) else (F_Lt_puts n [73, 110, 102, 105, 110, 105, 116, 121] 8 0 len row).bind fun x20 => some (x20.1, x20.2, dig, pw, used, lost, lim)) = some (len', row', dig', pw', used', lost', lim') ∧ tx len' row' L ∧
        (if lN (dG w u) ≤ lN (te * 2 ^ f - 1) then if ¬ lN (dG w u) = 0 then (F_Rs_layDecimal n rl aN bN fN l r tw rp wri ra rb rf rle rri (lN (dG w u)) sgl).bind fun x35 => some (x35.1, x35.1, (0 : Int32), (0 : Int32), x35.2.1, x35.2.2.1, x35.2.2.2.1, x35.2.2.2.2.1, x35.2.2.2.2.2.1, x35.2.2.2.2.2.2.1, x35.2.2.2.2.2.2.2.1, x35.2.2.2.2.2.2.2.2.1, x35.2.2.2.2.2.2.2.2.2.1, x35.2.2.2.2.2.2.2.2.2.2.1, x35.2.2.2.2.2.2.2.2.2.2.2.1, x35.2.2.2.2.2.2.2.2.2.2.2.2.1, x35.2.2.2.2.2.2.2.2.2.2.2.2.2) else (F_Rs_layWord n rl wri 3157552 3).bind fun x36 => some (x36.1, x36.1, (0 : Int32), (0 : Int32), aN, bN, fN, l, r, tw, rp, x36.2, ra, rb, rf, rle, rri) else (F_Rs_layWord n rl wri 5291279215216915577 8).bind fun x37 => some (x37.1, x37.1, (0 : Int32), (0 : Int32), aN, bN, fN, l, r, tw, rp, x37.2, ra, rb, rf, rle, rri)) = some (rl', rl', 0, 0, aN', bN', fN', l', r', tw', rp', wri', ra', rb', rf', rle', rri') ∧ tx rl' wri' L := by
      intro S len row rl wri hSl hc hr
      by_cases q2 : dG w u = te * 2 ^ f
      · rw [if_pos q2, if_neg one_ne, if_neg (fun y => by have := c2.mp y; omega)]
        obtain ⟨l1, r1, a1, t1⟩ := v_puts (n := n) (bs := [73, 110, 102, 105, 110, 105, 116, 121]) (C := [73, 110, 102, 105, 110, 105, 116, 121]) cInf rfl hc (by show _ + 8 ≤ 32; omega)
        have a1 : F_Lt_puts n [73, 110, 102, 105, 110, 105, 116, 121] 8 0 len row = some (l1, r1) := a1
        obtain ⟨l2, r2, a2, t2⟩ := v_layWord (n := n) (W := 5291279215216915577) (C := [73, 110, 102, 105, 110, 105, 116, 121]) (c := 8) rfl hr w_inf (by decide) (by omega) (by omega)
        rw [a1, a2]
        exact ⟨S ++ [73, 110, 102, 105, 110, 105, 116, 121], _, _, _, _, _, _, _, _, _, _, _, _, _, _, _, _, _, _, _, _, _, by rw [List.length_append]; show _ + 8 ≤ 32; omega, rfl, t1, rfl, t2⟩
      · rw [if_neg q2, if_pos rfl, if_pos (c2.mpr (by omega))]
        by_cases q3 : dG w u = 0
        · rw [if_pos q3, if_neg one_ne, if_neg (fun y => y (c3.mpr q3))]
          obtain ⟨l1, r1, a1, t1⟩ := v_puts (n := n) (bs := [48, 46, 48]) (C := [48, 46, 48]) cZero rfl hc (by show _ + 3 ≤ 32; omega)
          have a1 : F_Lt_puts n [48, 46, 48] 3 0 len row = some (l1, r1) := a1
          obtain ⟨l2, r2, a2, t2⟩ := v_layWord (n := n) (W := 3157552) (C := [48, 46, 48]) (c := 3) rfl hr w_zero (by decide) (by omega) (by omega)
          rw [a1, a2]
          exact ⟨S ++ [48, 46, 48], _, _, _, _, _, _, _, _, _, _, _, _, _, _, _, _, _, _, _, _, _, by rw [List.length_append]; show _ + 3 ≤ 32; omega, rfl, t1, rfl, t2⟩
        · rw [if_neg q3, if_pos rfl, if_pos (fun y => q3 (c3.mp y))]
          have hx : dG w u < te * 2 ^ f := by omega
          have hcb : F_Real_isCloserBelow (KR t) (lN u) = if clo f w (dG w u) then 1 else 0 := by
            rw [v_isCloser hK hu]
            unfold clo
            rw [k3, k4]
          obtain ⟨p, D, Kd, D0, z, u', l', lim', h1, h2, h3, h4, h5, h6, h7, h8, h9, h10, h11, h12, h13⟩ := dec_of hf hx (by omega) (n := n) dig pw used lost lim hcb (by omega)
          rw [k1, k2] at h8
          rw [h8]
          simp only [Option.bind_some]
          obtain ⟨l1, r1, a1, t1⟩ := v_putDecimal (n := n) (K := Kd + z) hc hSl h10 h11 h12 h13 (by omega)
          have a1 : F_Lt_putDecimal n len row (F_SD_digits (lN D0)) (F_SD_power (iZ (Kd + z))) = some (l1, r1) := a1
          rw [a1]
          obtain ⟨w0, w1, w2, w3, w4, w5, w6, w7, x0, x1, x2, x3, x4, x5, a2, t2⟩ := v_layDecimal hS hx (by omega) rl aN bN fN l r tw rp wri ra rb rf rle rri h1 h2 h3 h4 hn h5 h6 h7 h9 hr hSl
          rw [a2]
          have := dl_len (d := D0) (k := Kd + z) h10 h11 h12 h13
          exact ⟨S ++ dl D0 (Kd + z), _, _, _, _, _, _, _, _, _, _, _, _, _, _, _, _, _, _, _, _, _, by rw [List.length_append]; omega, rfl, t1, rfl, t2⟩
    rcases hs01 with h | h
    · rw [h]
      simp only [show nI 0 = (0 : Int32) from rfl, if_true]
      exact rest [] 0 row 0 wri (by decide) (tx_nil row) (tx_nil wri)
    · rw [h]
      simp only [show nI 1 = (1 : Int32) from rfl, if_neg one_ne]
      obtain ⟨l1, r1, a1, t1⟩ := v_put (n := n) (c := 45) (tx_nil row) (by decide) (by decide)
      obtain ⟨l2, r2, a2, t2⟩ := v_lay (n := n) (c := 45) (tx_nil wri) (by decide)
      have a1 : F_Lt_put_i n 0 row 45 = some (l1, r1) := a1
      have a2 : F_Rs_lay n 0 wri 45 = some (l2, r2) := a2
      rw [a1, a2]
      simp only [Option.bind_some]
      exact rest [45] l1 r1 l2 r2 (by decide) t1 t2
end TS
