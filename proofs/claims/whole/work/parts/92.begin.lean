theorem d_law_0 : decode code 0 = .ok (.new 8, 3) := by decide +kernel
theorem d_law_3 : decode code 3 = .ok (.dup, 1) := by decide +kernel
theorem d_law_4 : decode code 4 = .ok (.invokespecial 33, 3) := by decide +kernel
theorem d_law_7 : decode code 7 = .ok (.astore_n 1, 1) := by decide +kernel
theorem d_law_8 : decode code 8 = .ok (.new 34, 3) := by decide +kernel
theorem d_law_11 : decode code 11 = .ok (.dup, 1) := by decide +kernel
theorem d_law_12 : decode code 12 = .ok (.invokespecial 36, 3) := by decide +kernel
theorem d_law_15 : decode code 15 = .ok (.astore_n 2, 1) := by decide +kernel
theorem d_law_16 : decode code 16 = .ok (.iconst 1, 1) := by decide +kernel
theorem d_law_17 : decode code 17 = .ok (.newarray .long, 2) := by decide +kernel
theorem d_law_19 : decode code 19 = .ok (.astore_n 3, 1) := by decide +kernel
theorem d_law_20 : decode code 20 = .ok (.iconst 0, 1) := by decide +kernel
theorem d_law_21 : decode code 21 = .ok (.istore 4, 2) := by decide +kernel
theorem me_0 : (.classLink R_Lw 8 R_PB : Cond) ∈ BIG := List.mem_filter.mpr ⟨by decide +kernel, by rfl⟩
theorem me_1 : (.instantiable R_PB 2 : Cond) ∈ BIG := List.mem_filter.mpr ⟨by decide +kernel, by rfl⟩
theorem me_2 : (.initialized R_PB : Cond) ∈ BIG := List.mem_filter.mpr ⟨by decide +kernel, by rfl⟩
theorem me_3 : (.code y_PB_new b_PB_new 1 none : Cond) ∈ BIG := List.mem_filter.mpr ⟨by decide +kernel, by rfl⟩
theorem me_4 : (.methodLink R_Lw 33 y_PB_new : Cond) ∈ BIG := List.mem_filter.mpr ⟨by decide +kernel, by rfl⟩
theorem me_5 : (.instanceMethod y_PB_new : Cond) ∈ BIG := List.mem_filter.mpr ⟨by decide +kernel, by rfl⟩
theorem me_6 : (.classLink R_Lw 34 R_Md : Cond) ∈ BIG := List.mem_filter.mpr ⟨by decide +kernel, by rfl⟩
theorem me_7 : (.instantiable R_Md 15 : Cond) ∈ BIG := List.mem_filter.mpr ⟨by decide +kernel, by rfl⟩
theorem me_8 : (.initialized R_Md : Cond) ∈ BIG := List.mem_filter.mpr ⟨by decide +kernel, by rfl⟩
theorem me_9 : (.code y_Md_new b_Md_new 1 none : Cond) ∈ BIG := List.mem_filter.mpr ⟨by decide +kernel, by rfl⟩
theorem me_10 : (.methodLink R_Lw 36 y_Md_new : Cond) ∈ BIG := List.mem_filter.mpr ⟨by decide +kernel, by rfl⟩
theorem me_11 : (.instanceMethod y_Md_new : Cond) ∈ BIG := List.mem_filter.mpr ⟨by decide +kernel, by rfl⟩
theorem me_12 : (.arrayClass .long : Cond) ∈ BIG := List.mem_filter.mpr ⟨by decide +kernel, by rfl⟩
set_option maxHeartbeats 8000000 in
set_option maxRecDepth 100000 in
theorem whole_start {p : Program} {e : Env} {s : State} {m : MethodId} {below : List Frame} {meth : Method} {c : Code} (l : Launch) (hst : l.stackTraces = false) {b L : Nat} {xs : Nat → Int32} (hL : L ≤ 3584) (C0 : lw_At p s m meth c b L xs) : W p l e room_1 s m #[Value.ref b] below meth c s.heap [] 0 0 (lw_Z below #[Value.ref b] s) (entryFrame m ([Value.ref b] : List Value).toArray 8) := by
  obtain ⟨hx, hb, hr, hml, hown, hts0, hX, hbl, hlocks, hgv⟩ := C0
  have hown : s.vm.findClass R_Lw = some m.cls := hown
  have hT : ∀ w ∈ BIG, w.before #[Value.ref b] s = true := fun w h => hts0 w (bigIn w h)
  have hts : ∀ w ∈ Cond.initialized R_PB :: BIG, w.before #[Value.ref b] s = true := fun w h => by
    rcases List.mem_cons.mp h with rfl | h
    · exact hT _ mr_6
    · exact hT w h
  obtain ⟨oF, oD, kA, vA, hE⟩ := eE_start hts0 hgv
  obtain ⟨D, cI, cL, cC, hK⟩ := K_start hts0
  generalize hAe : (fun q : Nat => s.heap.size ≤ q) = A at hE
  have hA : ∀ q, s.heap.size ≤ q → A q := fun q h => by rw [← hAe]; exact h
  have hAl : ∀ q, A q → s.heap.size ≤ q := fun q h => by rw [← hAe] at h; exact h
  have hNB : nB s := hE.1.1
  have hS : va_S A s.heap s.heap [] := va_S.rf
  have hl := lv_entry [.ref b] (n := 8) (Nat.le_of_ble_eq_true rfl)
  rw [lg_entry_eq]
  generalize (lg_sl [Value.ref b] ++ List.replicate (8 - (lg_sl [Value.ref b]).length) Slot.unset).toArray = ls at hl ⊢
  have hl : lv_has ls 8 [(0, .ref b)] := hl
  have hP : va_P D cls [] s.heap := fun k q h => by cases h
  have hD : va_D A [] := ⟨(fun i j p q h => nomatch h), (fun k q h => nomatch h)⟩
  refine va_new (ci := 0) (fs := [.null, .null]) (C := R_PB) (T := T_PB) (N := 2) hx hb hT in_PB ty_PB tyok_PB hown (hT _ me_0) (hT _ me_1) (hT _ me_2) hK hP hD hS hA rfl df_PB (Nat.le_of_ble_eq_true rfl) (Nat.le_of_ble_eq_true rfl) d_law_0 (fun x0 H hP hD hS => ?_)
  have hP : va_P D cls [(x0, .inr (0, [.null, .null]))] H := hP
  have hD : va_D A [(x0, .inr (0, [.null, .null]))] := hD
  refine lv_dup hx hb d_law_3 rfl ?_
  refine q_NI (D := D) (A := A) (As := []) (rest := [.ref x0]) (n := 0) (b := x0) hx hb hml hown hts (c_PB_new l D A cI cL cC x0) rfl rfl me_3 me_4 me_5 me_2 rfl (by decide +kernel) ⟨Nat.le_of_ble_eq_true rfl, Nat.le_of_ble_eq_true rfl⟩ hNB hK hP hD hS hA rfl hl.1 rfl (Nat.le_of_ble_eq_true rfl) d_law_4 ⟨Nat.le_of_ble_eq_true rfl, Nat.le_of_ble_eq_true rfl⟩ (fun x H locs hP hD hS => ?_)
  have hP : va_P D cls [(x0, .inr (0, [.ref (x 0), .ref (x 1)])), ((x 0), .inr (1, [.ref ((x 2)), .int 0, .int 0])), (((x 2)), .inl (cC, 32, .inl (fun _ => 0))), ((x 1), .inr (2, [.ref ((x 3)), .long 0, .int 0])), (((x 3)), .inr (3, [.ref (((x 4))), .int 0, .int 0])), ((((x 4))), .inl (cL, 36, .inr (.inl (fun _ => 0))))] H := hP
  have hD : va_D A [(x0, .inr (0, [.ref (x 0), .ref (x 1)])), ((x 0), .inr (1, [.ref ((x 2)), .int 0, .int 0])), (((x 2)), .inl (cC, 32, .inl (fun _ => 0))), ((x 1), .inr (2, [.ref ((x 3)), .long 0, .int 0])), (((x 3)), .inr (3, [.ref (((x 4))), .int 0, .int 0])), ((((x 4))), .inl (cL, 36, .inr (.inl (fun _ => 0))))] := hD
  refine lv_astore_n hx hb d_law_7 rfl hl (by decide) rfl (fun ls hl => ?_)
  have hl : lv_has ls 8 [(1, .ref x0), (0, .ref b)] := hl
  refine va_new (ci := 4) (fs := [.null, .null, .int 0, .int 0, .int 0, .long 0, .long 0, .int 0, .int 0, .int 0, .int 0, .int 0, .int 0, .int 0, .int 0]) (C := R_Md) (T := T_Md) (N := 15) hx hb hT in_Md ty_Md tyok_Md hown (hT _ me_6) (hT _ me_7) (hT _ me_8) hK hP hD hS hA rfl df_Md (Nat.le_of_ble_eq_true rfl) (Nat.le_of_ble_eq_true rfl) d_law_8 (fun y0 H hP hD hS => ?_)
  have hP : va_P D cls [(x0, .inr (0, [.ref (x 0), .ref (x 1)])), ((x 0), .inr (1, [.ref ((x 2)), .int 0, .int 0])), (((x 2)), .inl (cC, 32, .inl (fun _ => 0))), ((x 1), .inr (2, [.ref ((x 3)), .long 0, .int 0])), (((x 3)), .inr (3, [.ref (((x 4))), .int 0, .int 0])), ((((x 4))), .inl (cL, 36, .inr (.inl (fun _ => 0)))), (y0, .inr (4, [.null, .null, .int 0, .int 0, .int 0, .long 0, .long 0, .int 0, .int 0, .int 0, .int 0, .int 0, .int 0, .int 0, .int 0]))] H := hP
  have hD : va_D A [(x0, .inr (0, [.ref (x 0), .ref (x 1)])), ((x 0), .inr (1, [.ref ((x 2)), .int 0, .int 0])), (((x 2)), .inl (cC, 32, .inl (fun _ => 0))), ((x 1), .inr (2, [.ref ((x 3)), .long 0, .int 0])), (((x 3)), .inr (3, [.ref (((x 4))), .int 0, .int 0])), ((((x 4))), .inl (cL, 36, .inr (.inl (fun _ => 0)))), (y0, .inr (4, [.null, .null, .int 0, .int 0, .int 0, .long 0, .long 0, .int 0, .int 0, .int 0, .int 0, .int 0, .int 0, .int 0, .int 0]))] := hD
  refine lv_dup hx hb d_law_11 rfl ?_
  refine q_NI (D := D) (A := A) (As := []) (rest := [.ref y0]) (n := 0) (b := y0) hx hb hml hown hts (c_Md_new l D A cI cL cC _ _ _ _ _ _ y0) rfl rfl me_9 me_10 me_11 me_8 rfl (by decide +kernel) ⟨Nat.le_of_ble_eq_true rfl, Nat.le_of_ble_eq_true rfl⟩ hNB hK hP hD hS hA rfl hl.1 rfl (Nat.le_of_ble_eq_true rfl) d_law_12 ⟨Nat.le_of_ble_eq_true rfl, Nat.le_of_ble_eq_true rfl⟩ (fun y H locs hP hD hS => ?_)
  have hP : va_P D cls [(x0, .inr (0, [.ref (x 0), .ref (x 1)])), ((x 0), .inr (1, [.ref ((x 2)), .int 0, .int 0])), (((x 2)), .inl (cC, 32, .inl (fun _ => 0))), ((x 1), .inr (2, [.ref ((x 3)), .long 0, .int 0])), (((x 3)), .inr (3, [.ref (((x 4))), .int 0, .int 0])), ((((x 4))), .inl (cL, 36, .inr (.inl (fun _ => 0)))), (y0, .inr (4, [.ref (y 0), .ref (y 1), .int 0, .int 0, .int 0, .long 0, .long 0, .int 0, .int 0, .int 0, .int 0, .int 0, .int 0, .int 0, .int 0])), ((y 0), .inr (5, [.ref ((y 2)), .ref ((y 3)), .int 0, .int 0, .int 0, .int 0, .int 0, .int 0, .int 0, .ref ((y 4)), .ref ((y 5)), .ref ((y 6)), .ref ((y 7)), .ref ((y 8)), .ref ((y 9)), .int 0, .int 0, .int 0, .int 0, .int 0, .int 0, .int 0, .int 0, .int 0, .int 0, .int 0])), (((y 2)), .inl (cI, 1200, .inl (fun _ => 0))), (((y 3)), .inl (cI, 40, .inl (fun _ => 0))), (((y 4)), .inl (cI, 520, .inl (fun _ => 0))), (((y 5)), .inl (cI, 520, .inl (fun _ => 0))), (((y 6)), .inl (cI, 520, .inl (fun _ => 0))), (((y 7)), .inl (cI, 520, .inl (fun _ => 0))), (((y 8)), .inl (cI, 520, .inl (fun _ => 0))), (((y 9)), .inl (cI, 520, .inl (fun _ => 0))), ((y 1), .inl (cI, 40, .inl (fun _ => 0)))] H := hP
  have hD : va_D A [(x0, .inr (0, [.ref (x 0), .ref (x 1)])), ((x 0), .inr (1, [.ref ((x 2)), .int 0, .int 0])), (((x 2)), .inl (cC, 32, .inl (fun _ => 0))), ((x 1), .inr (2, [.ref ((x 3)), .long 0, .int 0])), (((x 3)), .inr (3, [.ref (((x 4))), .int 0, .int 0])), ((((x 4))), .inl (cL, 36, .inr (.inl (fun _ => 0)))), (y0, .inr (4, [.ref (y 0), .ref (y 1), .int 0, .int 0, .int 0, .long 0, .long 0, .int 0, .int 0, .int 0, .int 0, .int 0, .int 0, .int 0, .int 0])), ((y 0), .inr (5, [.ref ((y 2)), .ref ((y 3)), .int 0, .int 0, .int 0, .int 0, .int 0, .int 0, .int 0, .ref ((y 4)), .ref ((y 5)), .ref ((y 6)), .ref ((y 7)), .ref ((y 8)), .ref ((y 9)), .int 0, .int 0, .int 0, .int 0, .int 0, .int 0, .int 0, .int 0, .int 0, .int 0, .int 0])), (((y 2)), .inl (cI, 1200, .inl (fun _ => 0))), (((y 3)), .inl (cI, 40, .inl (fun _ => 0))), (((y 4)), .inl (cI, 520, .inl (fun _ => 0))), (((y 5)), .inl (cI, 520, .inl (fun _ => 0))), (((y 6)), .inl (cI, 520, .inl (fun _ => 0))), (((y 7)), .inl (cI, 520, .inl (fun _ => 0))), (((y 8)), .inl (cI, 520, .inl (fun _ => 0))), (((y 9)), .inl (cI, 520, .inl (fun _ => 0))), ((y 1), .inl (cI, 40, .inl (fun _ => 0)))] := hD
  refine lv_astore_n hx hb d_law_15 rfl hl (by decide) rfl (fun ls hl => ?_)
  have hl : lv_has ls 8 [(2, .ref y0), (1, .ref x0), (0, .ref b)] := hl
  refine lv_iconst hx hb d_law_16 ic_1 ?_
  refine q_newL (N := 1) hx hb (hT _ me_12) hK hP hD hS hA (by decide) (by decide) (by decide) (Nat.le_of_ble_eq_true rfl) (Nat.le_of_ble_eq_true rfl) d_law_17 (fun ao H hP hD hS => ?_)
  refine lv_astore_n hx hb d_law_19 rfl hl (by decide) rfl (fun ls hl => ?_)
  have hl : lv_has ls 8 [(3, .ref ao), (2, .ref y0), (1, .ref x0), (0, .ref b)] := hl
  refine lv_iconst hx hb d_law_20 ic_0 ?_
  refine lv_istore hx hb d_law_21 hl (by decide) rfl (fun ls hl => ?_)
  have hl : lv_has ls 8 [(4, .int (0 : Int32)), (3, .ref ao), (2, .ref y0), (1, .ref x0), (0, .ref b)] := hl
  refine va_forget (fun q h => hAl _ (hS.2.2 q h)) ?_
  have hS : va_S A s.heap H [] := ⟨hS.1, hS.2.1, fun _ h => nomatch h⟩
  have hP := hP.sub (ws' := gC cI cL cC (fun k => match k with | 0 => x0 | 1 => x 0 | 2 => x 2 | 3 => x 1 | 4 => x 3 | _ => x 4) ((ao, .inl (cL, 1, .inr (.inl (fun _ => 0)))) :: gM cI cL cC (fun k => match k with | 0 => y0 | 1 => y 1 | 2 => y 0 | 3 => y 2 | 4 => y 3 | 5 => y 4 | 6 => y 5 | 7 => y 6 | 8 => y 7 | 9 => y 8 | _ => y 9) [] (0 : Int32) (0 : Int32) (0 : Int32) (0 : Int64) (0 : Int64) (0 : Int32) (0 : Int32) (0 : Int32) (0 : Int32) (0 : Int32) (0 : Int32) (0 : Int32) (0 : Int32) (fun _ => 0) (0 : Int32) (0 : Int32) (0 : Int32) (0 : Int32) (0 : Int32) (0 : Int32) (0 : Int32) (0 : Int32) (0 : Int32) (0 : Int32) (0 : Int32) (0 : Int32) (0 : Int32) (0 : Int32) (0 : Int32) (0 : Int32) (0 : Int32) (0 : Int32) (fun _ => 0) (fun _ => 0) (fun _ => 0) (fun _ => 0) (fun _ => 0) (fun _ => 0) (fun _ => 0) (fun _ => 0)) (0 : Int32) (0 : Int32) (fun _ => 0) (0 : Int64) (0 : Int32) (0 : Int32) (0 : Int32) (fun _ => 0)) [0, 1, 2, 3, 4, 5, 17, 6, 16, 7, 8, 9, 10, 11, 12, 13, 14, 15] rfl
  have hD := hD.sub (ws' := gC cI cL cC (fun k => match k with | 0 => x0 | 1 => x 0 | 2 => x 2 | 3 => x 1 | 4 => x 3 | _ => x 4) ((ao, .inl (cL, 1, .inr (.inl (fun _ => 0)))) :: gM cI cL cC (fun k => match k with | 0 => y0 | 1 => y 1 | 2 => y 0 | 3 => y 2 | 4 => y 3 | 5 => y 4 | 6 => y 5 | 7 => y 6 | 8 => y 7 | 9 => y 8 | _ => y 9) [] (0 : Int32) (0 : Int32) (0 : Int32) (0 : Int64) (0 : Int64) (0 : Int32) (0 : Int32) (0 : Int32) (0 : Int32) (0 : Int32) (0 : Int32) (0 : Int32) (0 : Int32) (fun _ => 0) (0 : Int32) (0 : Int32) (0 : Int32) (0 : Int32) (0 : Int32) (0 : Int32) (0 : Int32) (0 : Int32) (0 : Int32) (0 : Int32) (0 : Int32) (0 : Int32) (0 : Int32) (0 : Int32) (0 : Int32) (0 : Int32) (0 : Int32) (0 : Int32) (fun _ => 0) (fun _ => 0) (fun _ => 0) (fun _ => 0) (fun _ => 0) (fun _ => 0) (fun _ => 0) (fun _ => 0)) (0 : Int32) (0 : Int32) (fun _ => 0) (0 : Int64) (0 : Int32) (0 : Int32) (0 : Int32) (fun _ => 0)) [0, 1, 2, 3, 4, 5, 17, 6, 16, 7, 8, 9, 10, 11, 12, 13, 14, 15] (by decide) rfl
  refine W.widen (k := 18 + 0) (n := 4521 + 6 * 0) (Nat.le_of_ble_eq_true rfl) (Nat.le_of_ble_eq_true rfl) ?_
  exact law_loop hst hL hx hb hr hml hown hts hAe.symm hX hbl hlocks hE hK (adC := (fun k => match k with | 0 => x0 | 1 => x 0 | 2 => x 2 | 3 => x 1 | 4 => x 3 | _ => x 4)) (adM := (fun k => match k with | 0 => y0 | 1 => y 1 | 2 => y 0 | 3 => y 2 | 4 => y 3 | 5 => y 4 | 6 => y 5 | 7 => y 6 | 8 => y 7 | 9 => y 8 | _ => y 9)) (ao := ao) 600 0 ls H (fun _ => 0) (0 : Int32) (0 : Int32) (fun _ => 0) (0 : Int64) (0 : Int32) (0 : Int32) (0 : Int32) (fun _ => 0) (0 : Int32) (0 : Int32) (0 : Int32) (0 : Int64) (0 : Int64) (0 : Int32) (0 : Int32) (0 : Int32) (0 : Int32) (0 : Int32) (0 : Int32) (0 : Int32) (0 : Int32) (fun _ => 0) (0 : Int32) (0 : Int32) (0 : Int32) (0 : Int32) (0 : Int32) (0 : Int32) (0 : Int32) (0 : Int32) (0 : Int32) (0 : Int32) (0 : Int32) (0 : Int32) (0 : Int32) (0 : Int32) (0 : Int32) (0 : Int32) (0 : Int32) (0 : Int32) (fun _ => 0) (fun _ => 0) (fun _ => 0) (fun _ => 0) (fun _ => 0) (fun _ => 0) (fun _ => 0) (fun _ => 0) (by omega) (by omega) (lv_sub hl [0, 4, 3, 2, 1] rfl) (sim_0 _ _) hP hD hS
