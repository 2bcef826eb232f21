/-! THE JDK's own methods on the class's texts: length(), charAt(i) -/
theorem tx_fact : ∀ k, k < 10 → ∀ j, j < 6 → ((((((tx_byt.getD k []).getD j 0) &&& 255).toUInt32 % 65536).toInt32 == (tx_byt.getD k []).getD j 0) && (narrow .char (.int ((tx_byt.getD k []).getD j 0)) == .int ((tx_byt.getD k []).getD j 0))) = true := by decide +kernel
theorem tx_len6 : ∀ k, k < 10 → tx_len.getD k 0 ≤ 6 := by decide +kernel
theorem tx_shr : ∀ k, k < 10 → nI (tx_len.getD k 0) >>> ((0 : Int32) &&& 31) = nI (tx_len.getD k 0) := by decide +kernel
set_option maxRecDepth 100000 in
set_option maxHeartbeats 4000000 in
theorem c_J3ck (G : GT) (i n : Int32) (v3 : Value) (hv : v3.category = 1) (h0 : ¬ i < 0) (h1 : i < n) : ConP G yJ3_checkIndex_8e157 cJ3_checkIndex_8e157 3 (some .int) rm_0 [.int i, .int n, v3] (some (.int i)) := by
  refine conP_of (by decide +kernel) (by simp [lg_sl, hv, show (Value.int i).category = 1 from rfl, show (Value.int n).category = 1 from rfl]) (fun {p e s m below meth c} C hr {ls} hl => ?_)
  have hx := C.1
  have hb := C.2.1
  have hl : lv_has ls 3 [(0, .int i), (1, .int n), (2, v3)] := hl
  refine lv_iload_n hx hb dJ3_checkIndex_8e157_0 rfl (lv_at hl 0 rfl) ?_
  refine lv_if_lt (tgt := 9) hx hb dJ3_checkIndex_8e157_1 (by decide) (fun q => absurd q h0) (fun q => ?_)
  refine lv_iload_n hx hb dJ3_checkIndex_8e157_4 rfl (lv_at hl 0 rfl) ?_
  refine lv_iload_n hx hb dJ3_checkIndex_8e157_5 rfl (lv_at hl 1 rfl) ?_
  refine lv_icmp_lt (tgt := 16) hx hb dJ3_checkIndex_8e157_6 (by decide) (fun q => ?_) (fun q => absurd h1 q)
  refine lv_iload_n hx hb dJ3_checkIndex_8e157_16 rfl (lv_at hl 0 rfl) ?_
  exact r_iretP C hr rfl dJ3_checkIndex_8e157_17
set_option maxRecDepth 100000 in
set_option maxHeartbeats 4000000 in
theorem c_J0ck (G : GT) (i n : Int32) (h0 : ¬ i < 0) (h1 : i < n) : ConP G yJ0_checkIndex_df160 cJ0_checkIndex_df160 2 none rm_J0ck [.int i, .int n] none := by
  refine conP_of (by decide +kernel) (Nat.le_of_ble_eq_true rfl) (fun {p e s m below meth c} C hr {ls} hl => ?_)
  have hx := C.1
  have hb := C.2.1
  have hl : lv_has ls 2 [(0, .int i), (1, .int n)] := hl
  have hE := C.2.2.2.2.2.2.1
  refine lv_iload_n hx hb dJ0_checkIndex_df160_0 rfl (lv_at hl 0 rfl) ?_
  refine lv_iload_n hx hb dJ0_checkIndex_df160_1 rfl (lv_at hl 1 rfl) ?_
  obtain ⟨v3, hv3, hZ⟩ : ∃ v3 : Value, v3.category = 1 ∧ va_Z "jdk/internal/util/Preconditions" "SIOOBE_FORMATTER" "Ljava/util/function/BiFunction;" v3 (gA G) s s.heap := by
    rcases hE.2.2.1 with h | ⟨t, h⟩
    · exact ⟨_, rfl, h⟩
    · exact ⟨_, rfl, h⟩
  refine va_gets hx hb hZ va_S.rf C.2.2.2.1 (C.2.2.2.2.1 _ wj_fmt) (fun _ h => h) dJ0_checkIndex_df160_2 ?_
  refine r_callSi (rest := []) C va_S.rf hl (c_J3ck G i n v3 hv3 h0 h1) cs_J0_1059 rfl rfl (Nat.le_of_ble_eq_true rfl) ⟨rfl, rfl, Nat.le_of_ble_eq_true rfl, Nat.le_of_ble_eq_true rfl⟩ dJ0_checkIndex_df160_5 ?_
  refine lv_pop hx hb dJ0_checkIndex_df160_8 rfl ?_
  exact r_vretP C hr dJ0_checkIndex_df160_9
set_option maxRecDepth 100000 in
set_option maxHeartbeats 4000000 in
theorem c_J1ch (G : GT) (k : Nat) (i : Int32) (hk : k < 10) (hi : vp_in i (tx_len.getD k 0)) : ConP G yJ1_charAt_3b067 cJ1_charAt_3b067 2 (some .char) rm_J1ch [.ref (gV G k), .int i] (some (.int ((tx_byt.getD k []).getD i.toNatClampNeg 0))) := by
  refine conP_of (by decide +kernel) (Nat.le_of_ble_eq_true rfl) (fun {p e s m below meth c} C hr {ls} hl => ?_)
  have hx := C.1
  have hb := C.2.1
  have hl : lv_has ls 2 [(0, .ref (gV G k)), (1, .int i)] := hl
  have hE := C.2.2.2.2.2.2.1
  have hT := (hE.1.1 k hk).2.2.2
  have h6 := tx_len6 k hk
  obtain ⟨j, hj, rfl⟩ := vp_in_of hi (by omega)
  refine lv_iload_n hx hb dJ1_charAt_3b067_0 rfl (lv_at hl 1 rfl) ?_
  refine lv_aload_n hx hb dJ1_charAt_3b067_1 rfl (lv_at hl 0 rfl) ?_
  refine va_tlen (v := nI (tx_len.getD k 0)) hx hb hT va_S.rf rfl dJ1_charAt_3b067_2 ?_
  refine r_callSv (rest := []) C va_S.rf hl (c_J0ck G (nI j) (nI (tx_len.getD k 0)) (nI_pos (by omega)) (nI_lt hj (by omega))) cs_J1_9 rfl rfl (Nat.le_of_ble_eq_true rfl) ⟨rfl, rfl, Nat.le_of_ble_eq_true rfl, Nat.le_of_ble_eq_true rfl⟩ dJ1_charAt_3b067_3 ?_
  refine lv_aload_n hx hb dJ1_charAt_3b067_6 rfl (lv_at hl 0 rfl) ?_
  refine lv_iload_n hx hb dJ1_charAt_3b067_7 rfl (lv_at hl 1 rfl) ?_
  refine va_tb hx hb hT va_S.rf hi rfl dJ1_charAt_3b067_8 ?_
  refine lv_sipush (v := 255) hx hb dJ1_charAt_3b067_9 rfl ?_
  refine lv_iand hx hb dJ1_charAt_3b067_12 ?_
  have hf := tx_fact k hk j (by omega)
  rw [Bool.and_eq_true, beq_iff_eq, beq_iff_eq] at hf
  rw [nI_clamp (by omega)]
  refine lv_i2c hx hb dJ1_charAt_3b067_13 hf.1 ?_
  exact r_iretP C hr hf.2 dJ1_charAt_3b067_14
set_option maxRecDepth 100000 in
set_option maxHeartbeats 4000000 in
theorem c_J0coder (G : GT) (k : Nat) (hk : k < 10) : ConP G yJ0_coder_7d493 cJ0_coder_7d493 1 (some .byte) rm_0 [.ref (gK G k)] (some (.int 0)) := by
  refine conP_of (by decide +kernel) (Nat.le_of_ble_eq_true rfl) (fun {p e s m below meth c} C hr {ls} hl => ?_)
  have hx := C.1
  have hb := C.2.1
  have hl : lv_has ls 1 [(0, .ref (gK G k))] := hl
  have hE := C.2.2.2.2.2.2.1
  refine va_gets hx hb hE.2.1 va_S.rf C.2.2.2.1 (C.2.2.2.2.1 _ wj_compact) (fun _ h => h) dJ0_coder_7d493_0 ?_
  refine lv_if_eq (tgt := 13) hx hb dJ0_coder_7d493_3 (by decide) (fun q => absurd q (by decide)) (fun q => ?_)
  refine lv_aload_n hx hb dJ0_coder_7d493_6 rfl (lv_at hl 0 rfl) ?_
  refine vk_getf hx hb (hE.1.1 k hk).2.1 va_S.rf C.2.2.2.1 (C.2.2.2.2.1 _ wj_coder) (fun _ h => h) dJ0_coder_7d493_7 ?_
  refine lv_goto (tgt := 14) hx hb dJ0_coder_7d493_10 (by decide) ?_
  exact r_iretP C hr (by decide +kernel) dJ0_coder_7d493_14
set_option maxRecDepth 100000 in
set_option maxHeartbeats 4000000 in
theorem c_J0latin (G : GT) (k : Nat) (hk : k < 10) : ConP G yJ0_isLatin1_aae02 cJ0_isLatin1_aae02 1 (some .boolean) rm_0 [.ref (gK G k)] (some (.int 1)) := by
  refine conP_of (by decide +kernel) (Nat.le_of_ble_eq_true rfl) (fun {p e s m below meth c} C hr {ls} hl => ?_)
  have hx := C.1
  have hb := C.2.1
  have hl : lv_has ls 1 [(0, .ref (gK G k))] := hl
  have hE := C.2.2.2.2.2.2.1
  refine va_gets hx hb hE.2.1 va_S.rf C.2.2.2.1 (C.2.2.2.2.1 _ wj_compact) (fun _ h => h) dJ0_isLatin1_aae02_0 ?_
  refine lv_if_eq (tgt := 17) hx hb dJ0_isLatin1_aae02_3 (by decide) (fun q => absurd q (by decide)) (fun q => ?_)
  refine lv_aload_n hx hb dJ0_isLatin1_aae02_6 rfl (lv_at hl 0 rfl) ?_
  refine vk_getf hx hb (hE.1.1 k hk).2.1 va_S.rf C.2.2.2.1 (C.2.2.2.2.1 _ wj_coder) (fun _ h => h) dJ0_isLatin1_aae02_7 ?_
  refine lv_if_ne (tgt := 17) hx hb dJ0_isLatin1_aae02_10 (by decide) (fun q => absurd rfl q) (fun q => ?_)
  refine lv_iconst (v := 1) hx hb dJ0_isLatin1_aae02_13 rfl ?_
  refine lv_goto (tgt := 18) hx hb dJ0_isLatin1_aae02_14 (by decide) ?_
  exact r_iretP C hr (by decide +kernel) dJ0_isLatin1_aae02_18
set_option maxRecDepth 100000 in
set_option maxHeartbeats 4000000 in
theorem c_Tlength (G : GT) (k : Nat) (r : Int32) (h : txlen k = some r) : ConP G yJ0_length_8abf5 cJ0_length_8abf5 1 (some .int) rm_Tlength [.ref (gK G k)] (some (.int r)) := by
  have hk := txok_length h
  have h := (gd_o h).2
  cases h
  refine conP_of (by decide +kernel) (Nat.le_of_ble_eq_true rfl) (fun {p e s m below meth c} C hr {ls} hl => ?_)
  have hx := C.1
  have hb := C.2.1
  have hl : lv_has ls 1 [(0, .ref (gK G k))] := hl
  have hE := C.2.2.2.2.2.2.1
  refine lv_aload_n hx hb dJ0_length_8abf5_0 rfl (lv_at hl 0 rfl) ?_
  refine vk_getf hx hb (hE.1.1 k hk).2.2.1 va_S.rf C.2.2.2.1 (C.2.2.2.2.1 _ wj_value) (fun _ h => h) dJ0_length_8abf5_1 ?_
  refine va_tlen (v := nI (tx_len.getD k 0)) hx hb (hE.1.1 k hk).2.2.2 va_S.rf rfl dJ0_length_8abf5_4 ?_
  refine lv_aload_n hx hb dJ0_length_8abf5_5 rfl (lv_at hl 0 rfl) ?_
  refine r_callTi (rest := [.int (nI (tx_len.getD k 0))]) C va_S.rf hl hk rfl (c_J0coder G k hk) cs_J0_335 rfl rfl (Nat.le_of_ble_eq_true rfl) ⟨rfl, rfl, Nat.le_of_ble_eq_true rfl, Nat.le_of_ble_eq_true rfl⟩ dJ0_length_8abf5_6 ?_
  refine lv_ishr hx hb dJ0_length_8abf5_9 ?_
  rw [tx_shr k hk]
  exact r_iretP C hr rfl dJ0_length_8abf5_10
set_option maxRecDepth 100000 in
set_option maxHeartbeats 4000000 in
theorem c_TcharAt (G : GT) (k : Nat) (i r : Int32) (h : txat k i = some r) : ConP G yJ0_charAt_5068e cJ0_charAt_5068e 2 (some .char) rm_TcharAt [.ref (gK G k), .int i] (some (.int r)) := by
  have hk := txok_charAt h
  have hi := (gd_o h).1
  rw [Bool.and_eq_true] at hi
  have hi := inb_vp hi.2
  have h := (gd_o h).2
  cases h
  have h6 := tx_len6 k hk
  refine conP_of (by decide +kernel) (Nat.le_of_ble_eq_true rfl) (fun {p e s m below meth c} C hr {ls} hl => ?_)
  have hx := C.1
  have hb := C.2.1
  have hl : lv_has ls 2 [(0, .ref (gK G k)), (1, .int i)] := hl
  have hE := C.2.2.2.2.2.2.1
  refine lv_aload_n hx hb dJ0_charAt_5068e_0 rfl (lv_at hl 0 rfl) ?_
  refine r_callTi (rest := []) C va_S.rf hl hk rfl (c_J0latin G k hk) cs_J0_492 rfl rfl (Nat.le_of_ble_eq_true rfl) ⟨rfl, rfl, Nat.le_of_ble_eq_true rfl, Nat.le_of_ble_eq_true rfl⟩ dJ0_charAt_5068e_1 ?_
  refine lv_if_eq (tgt := 16) hx hb dJ0_charAt_5068e_4 (by decide) (fun q => absurd q (by decide)) (fun q => ?_)
  refine lv_aload_n hx hb dJ0_charAt_5068e_7 rfl (lv_at hl 0 rfl) ?_
  refine vk_getf hx hb (hE.1.1 k hk).2.2.1 va_S.rf C.2.2.2.1 (C.2.2.2.2.1 _ wj_value) (fun _ h => h) dJ0_charAt_5068e_8 ?_
  refine lv_iload_n hx hb dJ0_charAt_5068e_11 rfl (lv_at hl 1 rfl) ?_
  refine r_callSi (rest := []) C va_S.rf hl (c_J1ch G k i hk hi) cs_J0_495 rfl rfl (Nat.le_of_ble_eq_true rfl) ⟨rfl, rfl, Nat.le_of_ble_eq_true rfl, Nat.le_of_ble_eq_true rfl⟩ dJ0_charAt_5068e_12 ?_
  obtain ⟨j, hj, rfl⟩ := vp_in_of hi (by omega)
  have hf := tx_fact k hk j (by omega)
  rw [Bool.and_eq_true, beq_iff_eq, beq_iff_eq] at hf
  rw [nI_clamp (by omega)]
  exact r_iretP C hr hf.2 dJ0_charAt_5068e_15
