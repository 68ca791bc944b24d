/-! charAt, and the class's put of a text -/
section SN
variable (l : Launch) {o v : Nat} {bs : List Int32}
set_option maxHeartbeats 4000000 in
set_option maxRecDepth 100000 in
theorem c_P_checkIndex {i n : Int32} (h1 : ¬ i < 0) (h2 : i < n) (z : Value) (hz : z = .null ∨ ∃ t : Nat, z = .ref t) : Met l y_P_checkIndex (.code y_P_checkIndex b_P_checkIndex 3 (some .int) :: BIG) ({ frames := 0, cells := 0, slots := 0, locals := 0 } : Room) (va_Pc [.int i, .int n, z] (fun _ => True)) (pQ (.int i)) 0 0 (fun _ => False) := by
  refine sOpen rfl (by rcases hz with rfl | ⟨t, rfl⟩ <;> exact Nat.le_of_ble_eq_true rfl) ?_
  intro p e s m args below meth c Q ls hx hb hml hown hts hT hp hl hret
  have hl : lv_has ls 3 [(0, .int i), (1, .int n), (2, z)] := by rcases hz with rfl | ⟨t, rfl⟩ <;> exact hl
  refine lv_iload_n hx hb d_P_checkIndex_0 rfl (lv_at hl 0 rfl) ?_
  refine lv_if_lt (tgt := 9) hx hb d_P_checkIndex_1 rfl (fun hc => absurd hc h1) (fun hc => ?_)
  refine lv_iload_n hx hb d_P_checkIndex_4 rfl (lv_at hl 0 rfl) ?_
  refine lv_iload_n hx hb d_P_checkIndex_5 rfl (lv_at hl 1 rfl) ?_
  refine lv_icmp_lt (tgt := 16) hx hb d_P_checkIndex_6 rfl (fun hc => ?_) (fun hc => absurd h2 hc)
  refine lv_iload_n hx hb d_P_checkIndex_16 rfl (lv_at hl 0 rfl) ?_
  exact hret 17 ls _ rfl d_P_checkIndex_17 rfl
set_option maxHeartbeats 4000000 in
set_option maxRecDepth 100000 in
theorem c_S_checkIndex {i n : Int32} (h1 : ¬ i < 0) (h2 : i < n) : Met l y_S_checkIndex (.code y_S_checkIndex b_S_checkIndex 2 none :: BIG) ({ frames := 1, cells := 0, slots := 0, locals := 22 } : Room) (va_Pc [.int i, .int n] (sP o v bs)) pQ0 0 0 (fun _ => False) := by
  refine sOpen0 rfl (Nat.le_of_ble_eq_true rfl) ?_
  intro p e s m args below meth c Q ls hx hb hml hown hts hT hp hl hret
  have hl : lv_has ls 2 [(0, .int i), (1, .int n)] := hl
  have h5 : ∃ z : Value, va_Z "jdk/internal/util/Preconditions" "SIOOBE_FORMATTER" "Ljava/util/function/BiFunction;" z (fun _ => False) s s.heap ∧ (z = .null ∨ ∃ t : Nat, z = .ref t) := by
    rcases hp.2.2.2.2.2 with h | ⟨t, h⟩
    · exact ⟨_, h, Or.inl rfl⟩
    · exact ⟨_, h, Or.inr ⟨t, rfl⟩⟩
  obtain ⟨z, hz, hz2⟩ := h5
  refine lv_iload_n hx hb d_S_checkIndex_0 rfl (lv_at hl 0 rfl) ?_
  refine lv_iload_n hx hb d_S_checkIndex_1 rfl (lv_at hl 1 rfl) ?_
  refine va_gets hx hb hz va_S.rf hown (hT _ ms_20) (fun _ h9 => h9) d_S_checkIndex_2 ?_
  refine q_S (As := [.int i, .int n, z]) (rest := []) (n := 3) hx hb hml hown hts (c_P_checkIndex l h1 h2 z hz2) rfl rfl ms_23 ms_21 ms_22 ms_24 (by decide +kernel) ⟨Nat.le_of_ble_eq_true rfl, Nat.le_of_ble_eq_true rfl⟩ (fun _ _ _ _ h => h) (fun _ _ _ => trivial) rfl hl.1 rfl (Nat.le_of_ble_eq_true rfl) d_S_checkIndex_5 ⟨Nat.zero_le _, Nat.zero_le _⟩ ?_
  refine lv_pop hx hb d_S_checkIndex_8 rfl ?_
  exact hret 9 ls d_S_checkIndex_9
theorem sp_255' : (Int16.ofInt 255).toInt32 = 255 := by decide
/-- the letter at a place -/
def sCh (bs : List Int32) (k : Nat) : Int32 := (((bs.getD k 0) &&& 255).toUInt32 % 65536).toInt32
theorem sCh_n (bs : List Int32) (k : Nat) : narrow .char (.int (sCh bs k)) = .int (sCh bs k) := by
  unfold sCh
  rw [pk_char]
  exact (pk_charN (Nat.mod_lt _ (by decide))).1
set_option maxHeartbeats 4000000 in
set_option maxRecDepth 100000 in
theorem c_L_charAt {k : Nat} (hk : k < bs.length) (hbs : bs.length < 100) : Met l y_L_charAt (.code y_L_charAt b_L_charAt 2 (some .char) :: BIG) ({ frames := 2, cells := 0, slots := 0, locals := 43 } : Room) (va_Pc [.ref v, .int (nI k)] (sP o v bs)) (pQ (.int (sCh bs k))) 0 0 (fun _ => False) := by
  refine sOpen rfl (Nat.le_of_ble_eq_true rfl) ?_
  intro p e s m args below meth c Q ls hx hb hml hown hts hT hp hl hret
  have hl : lv_has ls 2 [(0, .ref v), (1, .int (nI k))] := hl
  obtain ⟨h0, h1, h2, h3, h4, h5⟩ := id hp
  refine lv_iload_n hx hb d_L_charAt_0 rfl (lv_at hl 1 rfl) ?_
  refine lv_aload_n hx hb d_L_charAt_1 rfl (lv_at hl 0 rfl) ?_
  refine va_tlen hx hb h3 va_S.rf rfl d_L_charAt_2 ?_
  refine q_S0 (As := [.int (nI k), .int (Int32.ofNat bs.length)]) (rest := []) (n := 2) hx hb hml hown hts (c_S_checkIndex l (o := o) (v := v) (bs := bs) (nI_pos (by omega)) (show nI k < nI bs.length from nI_lt hk (by omega))) rfl rfl ms_19 ms_17 ms_18 ms_8 (by decide +kernel) ⟨Nat.le_of_ble_eq_true rfl, Nat.le_of_ble_eq_true rfl⟩ sP_bl (fun U hU hW => sP_of (A := fun _ => False) hU hW va_S.rf hp) rfl hl.1 rfl (Nat.le_of_ble_eq_true rfl) d_L_charAt_3 ⟨Nat.zero_le _, Nat.zero_le _⟩ ?_
  refine lv_aload_n hx hb d_L_charAt_6 rfl (lv_at hl 0 rfl) ?_
  refine lv_iload_n hx hb d_L_charAt_7 rfl (lv_at hl 1 rfl) ?_
  refine va_tb hx hb h3 va_S.rf (vp_in_nI hk (by omega)) rfl d_L_charAt_8 ?_
  refine lv_sipush hx hb d_L_charAt_9 sp_255' ?_
  refine lv_iand hx hb d_L_charAt_12 ?_
  refine lv_i2c hx hb d_L_charAt_13 rfl ?_
  exact hret 14 ls _ (by rw [nI_clamp (by omega)]; rfl) d_L_charAt_14 (by rw [nI_clamp (by omega)]; exact sCh_n bs k)
set_option maxHeartbeats 4000000 in
set_option maxRecDepth 100000 in
theorem c_S_charAt {k : Nat} (hk : k < bs.length) (hbs : bs.length < 100) : Met l y_S_charAt (.code y_S_charAt b_S_charAt 2 (some .char) :: BIG) ({ frames := 3, cells := 0, slots := 0, locals := 64 } : Room) (va_Pc [.ref o, .int (nI k)] (sP o v bs)) (pQ (.int (sCh bs k))) 0 0 (fun _ => False) := by
  refine sOpen rfl (Nat.le_of_ble_eq_true rfl) ?_
  intro p e s m args below meth c Q ls hx hb hml hown hts hT hp hl hret
  have hl : lv_has ls 2 [(0, .ref o), (1, .int (nI k))] := hl
  obtain ⟨h0, h1, h2, h3, h4, h5⟩ := id hp
  refine lv_aload_n hx hb d_S_charAt_0 rfl (lv_at hl 0 rfl) ?_
  refine q_V (C := "java/lang/String") (b := o) (As := []) (rest := []) (n := 0) hx hb hml hown hts (c_S_isLatin1 l (o := o) (v := v) (bs := bs)) rfl rfl ms_13 ms_10 ms_11 ms_12 ms_8 (by decide +kernel) ⟨Nat.le_of_ble_eq_true rfl, Nat.le_of_ble_eq_true rfl⟩ (sT_rc (A := fun _ => False) va_S.rf hp) sP_bl (fun U hU hW => sP_of (A := fun _ => False) hU hW va_S.rf hp) rfl hl.1 rfl (Nat.le_of_ble_eq_true rfl) d_S_charAt_1 ⟨Nat.zero_le _, Nat.zero_le _⟩ ?_
  refine lv_if_eq (tgt := 16) hx hb d_S_charAt_4 rfl (fun hc => absurd hc (by decide)) (fun hc => ?_)
  refine lv_aload_n hx hb d_S_charAt_7 rfl (lv_at hl 0 rfl) ?_
  refine vk_getf hx hb h2 va_S.rf hown (hT _ ms_6) (fun _ h9 => h9) d_S_charAt_8 ?_
  refine lv_iload_n hx hb d_S_charAt_11 rfl (lv_at hl 1 rfl) ?_
  refine q_S (As := [.ref v, .int (nI k)]) (rest := []) (n := 2) hx hb hml hown hts (c_L_charAt l (o := o) (v := v) (bs := bs) hk hbs) rfl rfl ms_16 ms_14 ms_15 ms_9 (by decide +kernel) ⟨Nat.le_of_ble_eq_true rfl, Nat.le_of_ble_eq_true rfl⟩ sP_bl (fun U hU hW => sP_of (A := fun _ => False) hU hW va_S.rf hp) rfl hl.1 rfl (Nat.le_of_ble_eq_true rfl) d_S_charAt_12 ⟨Nat.zero_le _, Nat.zero_le _⟩ ?_
  exact hret 15 ls _ rfl d_S_charAt_15 (sCh_n bs k)
end SN
