/-! text and take: both sides alike. -/
def sim (len tk : Int32) (row : Nat → Int32) (laid gone : Int32) (lets : Nat → Int32) : Prop := ∃ (L : List Nat) (g : Nat), tx len row L ∧ tx laid lets L ∧ tk = nI g ∧ gone = nI g ∧ g ≤ L.length ∧ L.length ≤ 32
theorem sim_0 (row lets : Nat → Int32) : sim 0 0 row 0 0 lets := ⟨[], 0, tx_nil row, tx_nil lets, rfl, rfl, Nat.le_refl _, by decide⟩
theorem isWhole_v (a : Int32) : F_PB_isWhole a = 0 ↔ ¬ a ≤ 4 := by
  unfold F_PB_isWhole
  simp only [lt_]
  by_cases h : (4 : Int32) < a
  · rw [if_pos h]; exact iff_of_true rfl (Int32.not_le.mpr h)
  · rw [if_neg h]; exact iff_of_false (by decide) (fun z => z (Int32.not_lt.mp h))
theorem KR_S {a : Int32} (h : a = 5 ∨ a = 6) : ∃ (f te w : Nat) (lp : Int), kS (KR a) f te w lp ∧ mSg (if ¬ a = 5 then 0 else 1) f te w lp := by
  rcases h with rfl | rfl
  · exact ⟨23, 255, 31, -149, by unfold KR; rw [if_pos rfl]; exact kS_F, Or.inl ⟨by decide, rfl, rfl, rfl, rfl⟩⟩
  · exact ⟨52, 2047, 63, -1074, by unfold KR; rw [if_neg (by decide)]; exact kS_D, Or.inr ⟨by decide, rfl, rfl, rfl, rfl⟩⟩
theorem i56 {a : Int32} (h1 : ¬ a ≤ 4) (h2 : a ≤ 6) : a = 5 ∨ a = 6 := by
  have e4 : (4 : Int32).toInt = 4 := by decide
  have e5 : (5 : Int32).toInt = 5 := by decide
  have e6 : (6 : Int32).toInt = 6 := by decide
  rw [Int32.le_iff_toInt_le, e4] at h1
  rw [Int32.le_iff_toInt_le, e6] at h2
  rw [← Int32.toInt_inj, ← Int32.toInt_inj, e5, e6]
  omega
theorem t_text {a2 : Int32} (ha1 : ¬ a2 < 1) (ha2 : a2 ≤ 6) (a1 : Int64) {n : Nat} (hn : 10000 < n) (len tk : Int32) (row : Nat → Int32) (dig : Int64) (pw used lost : Int32) (lim : Nat → Int64) (laid gone thr : Int32) (lets : Nat → Int32) (rlaid rgone rthr aN bN fN l r tw rp : Int32) (wri ra rb rf rle rri : Nat → Int32) :
    ∃ (ans tk' : Int32) (row' : Nat → Int32) (dig' : Int64) (pw' used' lost' : Int32) (lim' : Nat → Int64) (lets' : Nat → Int32) (rlaid' rgone' rthr' aN' bN' fN' l' r' tw' rp' : Int32) (wri' ra' rb' rf' rle' rri' : Nat → Int32),
      F_PB_text n len tk row dig pw used lost lim a1 a2 = some (ans, ans, tk', row', dig', pw', used', lost', lim') ∧
      F_Md_text n laid gone thr lets rlaid rgone rthr aN bN fN l r tw rp wri ra rb rf rle rri a1 a2 = some (ans, ans, 0, 0, lets', rlaid', rgone', rthr', aN', bN', fN', l', r', tw', rp', wri', ra', rb', rf', rle', rri') ∧ sim ans tk' row' ans 0 lets' := by
  unfold F_PB_text F_Md_text
  simp only [lt_, F_Lt_clear, F_Lt_count]
  rw [if_neg ha1, if_neg ha1, if_pos ha2, if_pos ha2]
  by_cases q : a2 ≤ 4
  · -- whole
    rw [if_neg (fun y => (isWhole_v a2).mp y q), if_pos q, cut_eq]
    obtain ⟨z, h1, h2, e⟩ := lZ_of (F_Md_cut a1 a2)
    rw [e]
    have h19 : z.natAbs < 10 ^ 19 := by have : (10 : Nat) ^ 19 = 10000000000000000000 := rfl; omega
    have npos := ndg_pos z.natAbs
    have nle : ndg z.natAbs ≤ 19 := by
      by_cases q : 0 < z.natAbs
      · have := (Nat.pow_lt_pow_iff_right (show 1 < 10 by decide)).mp (Nat.lt_of_le_of_lt (ndg_ge 19 _ h19 q) h19)
        omega
      · have : ndg 0 = 1 := by unfold ndg; rfl
        rw [show z.natAbs = 0 by omega]
        omega
    obtain ⟨l1, r1, a, t1⟩ := v_putWhole (n := n) (z := z) (tx_nil row) h1 h2 (by show 0 + 1 + _ ≤ 32; omega) (by omega)
    rw [a]
    simp only [Option.bind_some]
    have ref : ∀ (S : List Nat) (ld : Int32) (le : Nat → Int32), S.length ≤ 1 → tx ld le S → ∃ (ld' : Int32) (le' : Nat → Int32), F_Md_text_L115 (lZ z) (fun (y43 : Int64) (laid_44 : Int32) (gone_45 : Int32) (thr_46 : Int32) (lets_47 : (Nat → Int32)) (rlaid_48 : Int32) (rgone_49 : Int32) (rthr_50 : Int32) (aN_51 : Int32) (bN_52 : Int32) (fN_53 : Int32) (lN__54 : Int32) (rN_55 : Int32) (twos_56 : Int32) (rpow_57 : Int32) (wri_58 : (Nat → Int32)) (ra_59 : (Nat → Int32)) (rb_60 : (Nat → Int32)) (rfive_61 : (Nat → Int32)) (rleft_62 : (Nat → Int32)) (rright_63 : (Nat → Int32)) => F_Md_text_L150 (lZ z) (fun (laid_64 : Int32) (gone_65 : Int32) (thr_66 : Int32) (lets_67 : (Nat → Int32)) (rlaid_68 : Int32) (rgone_69 : Int32) (rthr_70 : Int32) (aN_71 : Int32) (bN_72 : Int32) (fN_73 : Int32) (lN__74 : Int32) (rN_75 : Int32) (twos_76 : Int32) (rpow_77 : Int32) (wri_78 : (Nat → Int32)) (ra_79 : (Nat → Int32)) (rb_80 : (Nat → Int32)) (rfive_81 : (Nat → Int32)) (rleft_82 : (Nat → Int32)) (rright_83 : (Nat → Int32)) => some (laid_64, laid_64, gone_65, thr_66, lets_67, rlaid_68, rgone_69, rthr_70, aN_71, bN_72, fN_73, lN__74, rN_75, twos_76, rpow_77, wri_78, ra_79, rb_80, rfive_81, rleft_82, rright_83)) n y43 laid_44 gone_45 thr_46 lets_47 rlaid_48 rgone_49 rthr_50 aN_51 bN_52 fN_53 lN__54 rN_55 twos_56 rpow_57 wri_58 ra_59 rb_60 rfive_61 rleft_62 rright_63) n (1 : Int64) ld 0 0 le rlaid rgone rthr aN bN fN l r tw rp wri ra rb rf rle rri = some (ld', ld', 0, 0, le', rlaid, rgone, rthr, aN, bN, fN, l, r, tw, rp, wri, ra, rb, rf, rle, rri) ∧ tx ld' le' (S ++ dgs (ndg z.natAbs) z.natAbs) := by
      intro S ld le hS ht
      obtain ⟨l2, r2, e2, t2⟩ := wt_L150 0 0 rlaid rgone rthr aN bN fN l r tw rp wri ra rb rf rle rri z h1 h2 (fun (laid_64 : Int32) (gone_65 : Int32) (thr_66 : Int32) (lets_67 : (Nat → Int32)) (rlaid_68 : Int32) (rgone_69 : Int32) (rthr_70 : Int32) (aN_71 : Int32) (bN_72 : Int32) (fN_73 : Int32) (lN__74 : Int32) (rN_75 : Int32) (twos_76 : Int32) (rpow_77 : Int32) (wri_78 : (Nat → Int32)) (ra_79 : (Nat → Int32)) (rb_80 : (Nat → Int32)) (rfive_81 : (Nat → Int32)) (rleft_82 : (Nat → Int32)) (rright_83 : (Nat → Int32)) => some (laid_64, laid_64, gone_65, thr_66, lets_67, rlaid_68, rgone_69, rthr_70, aN_71, bN_72, fN_73, lN__74, rN_75, twos_76, rpow_77, wri_78, ra_79, rb_80, rfive_81, rleft_82, rright_83)) (ndg z.natAbs - 1) n S ld le (by omega) (by omega) ht (by omega)
      rw [show ndg z.natAbs - 1 + 1 = ndg z.natAbs by omega] at t2
      refine ⟨l2, r2, ?_, t2⟩
      rw [show (1 : Int64) = lN (10 ^ 0) from rfl, wt_L115 0 0 rlaid rgone rthr aN bN fN l r tw rp wri ra rb rf rle rri z h1 h2 _ ld le (ndg z.natAbs - 1) 0 n (by omega) (by omega)]
      exact e2
    have hlen : (wl z).length ≤ 20 := by
      unfold wl
      rw [List.length_append, dgs_len]
      split
      · show 1 + _ ≤ 20
        omega
      · show 0 + _ ≤ 20
        omega
    have hc : (0 : Int64) ≤ lZ z ↔ 0 ≤ z := lZ_le (a := 0) (by omega) (by omega) h1 h2
    have fin : ∀ (ld : Int32) (le : Nat → Int32), tx ld le (wl z) → l1 = ld ∧ sim l1 0 r1 ld 0 le := by
      intro ld le ht
      refine ⟨t1.1.trans ht.1.symm, wl z, 0, t1, ht, rfl, rfl, Nat.zero_le _, by omega⟩
    by_cases y : 0 ≤ z
    · rw [if_pos (hc.mpr y)]
      obtain ⟨l2, r2, e2, t2⟩ := ref [] 0 lets (by decide) (tx_nil lets)
      rw [e2]
      have ew : wl z = [] ++ dgs (ndg z.natAbs) z.natAbs := by unfold wl; rw [if_neg (by omega)]
      rw [← ew] at t2
      obtain ⟨rfl, hs⟩ := fin l2 r2 t2
      exact ⟨_, _, _, _, _, _, _, _, _, _, _, _, _, _, _, _, _, _, _, _, _, _, _, _, _, rfl, rfl, hs⟩
    · rw [if_neg (fun x => y (hc.mp x))]
      obtain ⟨l0, r0, a0, t0⟩ := v_mlay (n := n) (c := 45) (tx_nil lets) (by decide)
      have a0 : F_Md_lay n 0 lets 45 = some (l0, r0) := a0
      rw [a0]
      simp only [Option.bind_some]
      obtain ⟨l2, r2, e2, t2⟩ := ref [45] l0 r0 (by decide) t0
      rw [e2]
      have ew : wl z = [45] ++ dgs (ndg z.natAbs) z.natAbs := by unfold wl; rw [if_pos (by omega)]
      rw [← ew] at t2
      obtain ⟨rfl, hs⟩ := fin l2 r2 t2
      exact ⟨_, _, _, _, _, _, _, _, _, _, _, _, _, _, _, _, _, _, _, _, _, _, _, _, _, rfl, rfl, hs⟩
  · rw [if_pos ((isWhole_v a2).mpr q), if_neg q]
    obtain ⟨f, te, w, lp, hK, hS⟩ := KR_S (i56 q ha2)
    obtain ⟨u, hu, rfl⟩ := wb_of a1
    obtain ⟨L, len', row', dig', pw', used', lost', lim', rl', aN', bN', fN', l', r', tw', rp', wri', ra', rb', rf', rle', rri', hL, e1, t1, e2, t2⟩ := t_real hK hS hu (show 7000 < n by omega) row dig pw used lost lim rlaid rgone rthr aN bN fN l r tw rp wri ra rb rf rle rri
    rw [e1, e2]
    simp only [Option.bind_some]
    obtain ⟨l3, r3, e3, t3⟩ := ct_L61 0 0 rl' 0 0 aN' bN' fN' l' r' tw' rp' wri' ra' rb' rf' rle' rri' (fun (laid_154 : Int32) (gone_155 : Int32) (thr_156 : Int32) (lets_157 : (Nat → Int32)) (rlaid_158 : Int32) (rgone_159 : Int32) (rthr_160 : Int32) (aN_161 : Int32) (bN_162 : Int32) (fN_163 : Int32) (lN__164 : Int32) (rN_165 : Int32) (twos_166 : Int32) (rpow_167 : Int32) (wri_168 : (Nat → Int32)) (ra_169 : (Nat → Int32)) (rb_170 : (Nat → Int32)) (rfive_171 : (Nat → Int32)) (rleft_172 : (Nat → Int32)) (rright_173 : (Nat → Int32)) => some (laid_154, laid_154, gone_155, thr_156, lets_157, rlaid_158, rgone_159, rthr_160, aN_161, bN_162, fN_163, lN__164, rN_165, twos_166, rpow_167, wri_168, ra_169, rb_170, rfive_171, rleft_172, rright_173)) L t2 (by omega) L.length 0 n 0 lets (by omega) (by omega) (by rw [List.take_zero]; exact tx_nil lets)
    have e3 : F_Md_text_L61 _ n rl' 0 0 0 0 lets rl' 0 0 aN' bN' fN' l' r' tw' rp' wri' ra' rb' rf' rle' rri' = _ := e3
    rw [e3]
    obtain rfl : len' = l3 := t1.1.trans t3.1.symm
    exact ⟨_, _, _, _, _, _, _, _, _, _, _, _, _, _, _, _, _, _, _, _, _, _, _, _, _, rfl, rfl, L, 0, t1, t3, rfl, rfl, Nat.zero_le _, hL⟩
theorem t_text_bad {a2 : Int32} (h : a2 < 1 ∨ ¬ a2 ≤ 6) (a1 : Int64) (n : Nat) (laid gone thr : Int32) (lets : Nat → Int32) (rlaid rgone rthr aN bN fN l r tw rp : Int32) (wri ra rb rf rle rri : Nat → Int32) : F_Md_text n laid gone thr lets rlaid rgone rthr aN bN fN l r tw rp wri ra rb rf rle rri a1 a2 = some (0, laid, gone, 1, lets, rlaid, rgone, rthr, aN, bN, fN, l, r, tw, rp, wri, ra, rb, rf, rle, rri) := by
  unfold F_Md_text
  simp only [lt_, F_Md_fails]
  by_cases q : a2 < 1
  · rw [if_pos q]; rfl
  · rw [if_neg q]
    rcases h with h | h
    · exact absurd h q
    · rw [if_neg h]; rfl
/-! take -/
theorem tk_L (L : List Nat) (hL : L.length ≤ 32) {row lets : Nat → Int32} (h1 : ∀ i, i < L.length → row i = nI (L.getD i 0)) (h2 : ∀ i, i < L.length → lets i = nI (L.getD i 0)) : ∀ (t k n g : Nat) (y : Int64), k + t = 8 → t < n → g ≤ L.length → ∃ (v : Int64) (g' : Nat), F_Lt_next_L5 (nI L.length) row 8 (fun a b => some (a, b)) n y (nI k) (nI g) = some (v, nI g') ∧ F_Md_take_L9 (nI L.length) lets (fun a b c => some (a, b, c)) n y (nI k) (nI g) 0 = some (v, nI g', 0) ∧ g' ≤ L.length := by
  intro t
  induction t with
  | zero =>
    intro k n g y hk hn hg
    obtain ⟨n, rfl⟩ : ∃ k, n = k + 1 := ⟨n - 1, by omega⟩
    obtain rfl : k = 8 := by omega
    exact ⟨y, g, if_pos (by decide), if_pos (by decide), hg⟩
  | succ t ih =>
    intro k n g y hk hn hg
    obtain ⟨n, rfl⟩ : ∃ k, n = k + 1 := ⟨n - 1, by omega⟩
    have s1 : ∀ n, F_Lt_next_L5 (nI L.length) row 8 (fun a b => some (a, b)) (n + 1) y (nI k) (nI g) = (if (8 : Int32) ≤ nI k then some (y, nI g) else if nI L.length ≤ nI g then some (y, nI g) else if (32 : Int32) ≤ nI g then some (y, nI g) else gz_ (nI g < 0 ∨ 32 ≤ (nI g).toNatClampNeg) (F_Lt_next_L5 (nI L.length) row 8 (fun a b => some (a, b)) n ((y <<< (((8 : Int32)).toInt64 &&& 63)) ||| ((row (nI g).toNatClampNeg).toInt64)) (nI k + 1) (nI g + 1))) := fun _ => rfl
    have s2 : ∀ n, F_Md_take_L9 (nI L.length) lets (fun a b c => some (a, b, c)) (n + 1) y (nI k) (nI g) 0 = (if (8 : Int32) ≤ nI k then some (y, nI g, 0) else if nI L.length ≤ nI g then some (y, nI g, 0) else gz_ (nI g < 0 ∨ 40 ≤ (nI g).toNatClampNeg) (F_Md_take_L9 (nI L.length) lets (fun a b c => some (a, b, c)) n ((y <<< (((8 : Int32)).toInt64 &&& 63)) ||| ((lets (nI g).toNatClampNeg).toInt64)) (nI k + 1) (nI g + 1) 0)) := fun _ => rfl
    rw [s1, s2]
    have h8 : ¬ (8 : Int32) ≤ nI k := nI_ge (b := 8) (by omega) (by decide)
    rw [if_neg h8, if_neg h8]
    by_cases q : L.length ≤ g
    · rw [if_pos (nI_le q (by omega)), if_pos (nI_le q (by omega))]
      exact ⟨y, g, rfl, rfl, hg⟩
    · have hq : ¬ nI L.length ≤ nI g := nI_ge (by omega) (by omega)
      rw [if_neg hq, if_neg hq, if_neg (show ¬ (32 : Int32) ≤ nI g from nI_ge (b := 32) (by omega) (by decide)), gzf (nI_in (by omega) (by decide)), gzf (nI_in (by omega) (by decide)), nI_clamp (by omega), h1 g (by omega), h2 g (by omega), nI_1, nI_1]
      exact ih (k + 1) n (g + 1) _ (by omega) (by omega) (by omega)
theorem t_take {len tk : Int32} {row : Nat → Int32} {laid gone : Int32} {lets : Nat → Int32} (h : sim len tk row laid gone lets) (thr : Int32) {n : Nat} (hn : 100 < n) : ∃ (v : Int64) (tk' : Int32), F_PB_take n len tk row = some (v, tk') ∧ F_Md_take n laid gone thr lets = some (v, tk', 0) ∧ sim len tk' row laid tk' lets := by
  obtain ⟨L, g, ⟨rfl, h1⟩, ⟨rfl, h2⟩, rfl, rfl, hg, hL⟩ := h
  obtain ⟨v, g', e1, e2, hg'⟩ := tk_L L hL h1 h2 8 0 n g 0 (by omega) (by omega) hg
  refine ⟨v, nI g', ?_, e2, L, g', ⟨rfl, h1⟩, ⟨rfl, h2⟩, rfl, rfl, hg', hL⟩
  have e1 : F_Lt_next n (nI L.length) (nI g) row 8 = some (v, nI g') := e1
  unfold F_PB_take
  rw [e1]
  rfl
