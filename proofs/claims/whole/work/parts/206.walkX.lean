/-! WALKS (X 6): each method comes back with what its plain function says -/
set_option maxRecDepth 100000 in
set_option maxHeartbeats 4000000 in
theorem c_X3_writeNumber (G : GT) (s0 : ST) (v1 : Int32) (s' : ST) (h : X3_writeNumber s0 v1 = some s') : Con G yX3_writeNumber cX3_writeNumber 2 none rm_X3_writeNumber [.ref (gad G 29), .int v1] (wX G s0) none (wX G s') := by
  unfold X3_writeNumber at h
  refine con_of (by decide +kernel) (Nat.le_of_ble_eq_true rfl) (fun {p e s m below meth c} C hr {H locs ls} B hl => ?_)
  have hx := C.1
  have hb := C.2.1
  have hl : lv_has ls 2 [(0, .ref (gad G 29)), (1, .int v1)] := hl
  refine lv_aload_n hx hb dX3_writeNumber_0 rfl (lv_at hl 0 rfl) ?_
  refine lv_bipush (v := (32 : Int32)) hx hb dX3_writeNumber_1 rfl ?_
  obtain ⟨s2, q1, h⟩ := bd_o h
  refine r_callVv (rest := []) C B hl (c_X3_writeSign G s0 (32 : Int32) s2 q1) cs_X3_83 (cX_29 G s0) rfl rfl rfl (Nat.le_of_ble_eq_true rfl) ⟨rfl, rfl, Nat.le_of_ble_eq_true rfl, Nat.le_of_ble_eq_true rfl⟩ dX3_writeNumber_3 (fun H locs B => ?_)
  refine lv_iload_n hx hb dX3_writeNumber_6 rfl (lv_at hl 1 rfl) ?_
  refine lv_bipush (v := (10 : Int32)) hx hb dX3_writeNumber_7 rfl ?_
  refine lv_icmp_lt (tgt := 24) hx hb dX3_writeNumber_9 (by decide) (fun q3 => ?_) (fun q3 => ?_)
  · have h := ip h q3
    refine lv_aload_n hx hb dX3_writeNumber_24 rfl (lv_at hl 0 rfl) ?_
    refine lv_bipush (v := (48 : Int32)) hx hb dX3_writeNumber_25 rfl ?_
    refine lv_iload_n hx hb dX3_writeNumber_27 rfl (lv_at hl 1 rfl) ?_
    refine lv_bipush (v := (10 : Int32)) hx hb dX3_writeNumber_28 rfl ?_
    refine lv_irem hx hb dX3_writeNumber_30 (by decide) ?_
    refine lv_iadd hx hb dX3_writeNumber_31 ?_
    refine lv_i2c hx hb dX3_writeNumber_32 rfl ?_
    obtain ⟨s5, q4, h⟩ := bd_o h
    refine r_callVv (rest := []) C B hl (c_X3_writeSign G s2 ((((48 : Int32) + (v1 - v1 / (10 : Int32) * (10 : Int32)))).toUInt32 % 65536).toInt32 s5 q4) cs_X3_83 (cX_29 G s2) rfl rfl rfl (Nat.le_of_ble_eq_true rfl) ⟨rfl, rfl, Nat.le_of_ble_eq_true rfl, Nat.le_of_ble_eq_true rfl⟩ dX3_writeNumber_33 (fun H locs B => ?_)
    obtain rfl := ret1 h
    exact r_vret C B hr dX3_writeNumber_36
  · have h := ig h q3
    refine lv_aload_n hx hb dX3_writeNumber_12 rfl (lv_at hl 0 rfl) ?_
    refine lv_bipush (v := (48 : Int32)) hx hb dX3_writeNumber_13 rfl ?_
    refine lv_iload_n hx hb dX3_writeNumber_15 rfl (lv_at hl 1 rfl) ?_
    refine lv_bipush (v := (10 : Int32)) hx hb dX3_writeNumber_16 rfl ?_
    refine lv_idiv hx hb dX3_writeNumber_18 (by decide) ?_
    refine lv_iadd hx hb dX3_writeNumber_19 ?_
    refine lv_i2c hx hb dX3_writeNumber_20 rfl ?_
    obtain ⟨s7, q6, h⟩ := bd_o h
    refine r_callVv (rest := []) C B hl (c_X3_writeSign G s2 ((((48 : Int32) + (v1 / (10 : Int32)))).toUInt32 % 65536).toInt32 s7 q6) cs_X3_83 (cX_29 G s2) rfl rfl rfl (Nat.le_of_ble_eq_true rfl) ⟨rfl, rfl, Nat.le_of_ble_eq_true rfl, Nat.le_of_ble_eq_true rfl⟩ dX3_writeNumber_21 (fun H locs B => ?_)
    refine lv_aload_n hx hb dX3_writeNumber_24 rfl (lv_at hl 0 rfl) ?_
    refine lv_bipush (v := (48 : Int32)) hx hb dX3_writeNumber_25 rfl ?_
    refine lv_iload_n hx hb dX3_writeNumber_27 rfl (lv_at hl 1 rfl) ?_
    refine lv_bipush (v := (10 : Int32)) hx hb dX3_writeNumber_28 rfl ?_
    refine lv_irem hx hb dX3_writeNumber_30 (by decide) ?_
    refine lv_iadd hx hb dX3_writeNumber_31 ?_
    refine lv_i2c hx hb dX3_writeNumber_32 rfl ?_
    obtain ⟨s9, q8, h⟩ := bd_o h
    refine r_callVv (rest := []) C B hl (c_X3_writeSign G s7 ((((48 : Int32) + (v1 - v1 / (10 : Int32) * (10 : Int32)))).toUInt32 % 65536).toInt32 s9 q8) cs_X3_83 (cX_29 G s7) rfl rfl rfl (Nat.le_of_ble_eq_true rfl) ⟨rfl, rfl, Nat.le_of_ble_eq_true rfl, Nat.le_of_ble_eq_true rfl⟩ dX3_writeNumber_33 (fun H locs B => ?_)
    obtain rfl := ret1 h
    exact r_vret C B hr dX3_writeNumber_36
def rm_X3_writeRoads_a1 : Room := { frames := 5, cells := 0, slots := 0, locals := 107 }
set_option maxRecDepth 100000 in
set_option maxHeartbeats 4000000 in
theorem l_X3_writeRoads_a1_L2 {G : GT} {p : Program} {e : Env} {s : State} {m : MethodId} {args : Array Value} {below : List Frame} {meth : Method} {c : Code} {Q : State → Prop} (C : CT G p s m meth c args cX3_writeRoads 4 RX3) (hr : meth.sig.returnType = none) (n : Nat) (v2 : Int32) : ∀ (k : Nat) (v3 : Int32) (s0 : ST) (e1 : ST), X3_writeRoads_a1_L2 n v2 k v3 s0 = some e1 → Kn G p e rm_X3_writeRoads_a1 s m args below meth c Q 4 58 [(0, .ref (gad G 29)), (1, .ref (gad G 1)), (2, .int v2)] (wX G e1) → Kn G p e rm_X3_writeRoads_a1 s m args below meth c Q 4 12 [(0, .ref (gad G 29)), (1, .ref (gad G 1)), (2, .int v2), (3, .int v3)] (wX G s0) := by
  have hx := C.1
  have hb := C.2.1
  intro k
  induction k with
  | zero =>
    intro v3 s0 e1 h
    exact nso h
  | succ k ih =>
    intro v3 s0 e1 h hk H locs ls B hl
    have h : X3_writeRoads_a1_L2_b n v2 (X3_writeRoads_a1_L2 n v2 k) v3 s0 = some e1 := h
    unfold X3_writeRoads_a1_L2_b at h
    refine lv_iload_n hx hb dX3_writeRoads_12 rfl (lv_at hl 3 rfl) ?_
    refine lv_aload_n hx hb dX3_writeRoads_13 rfl (lv_at hl 1 rfl) ?_
    refine r_get C B fo_X3_33 (cX_1 G s0) rfl dX3_writeRoads_14 ?_
    refine lv_icmp_ge (tgt := 58) hx hb dX3_writeRoads_17 (by decide) (fun q2 => ?_) (fun q2 => ?_)
    · have h := ip h q2
      obtain rfl := ret1 h
      exact hk H locs ls B (lv_sub hl [0, 1, 2] rfl)
    · have h := ig h q2
      refine lv_aload_n hx hb dX3_writeRoads_20 rfl (lv_at hl 1 rfl) ?_
      refine r_get C B fo_X3_65 (cX_1 G s0) rfl dX3_writeRoads_21 ?_
      refine lv_iload_n hx hb dX3_writeRoads_24 rfl (lv_at hl 2 rfl) ?_
      obtain ⟨q3, h⟩ := gd_o h
      refine r_iald C B (cX_2 G s0) (inb_vp q3) dX3_writeRoads_25 ?_
      refine lv_iload_n hx hb dX3_writeRoads_26 rfl (lv_at hl 3 rfl) ?_
      obtain ⟨r4, q5, h⟩ := bd_o h
      refine r_callSNi (rest := []) C B.2.2 hl (c_X6_has G (s0.2.1 0 (v2).toNatClampNeg) v3 r4 q5) cs_X3_68 rfl rfl (Nat.le_of_ble_eq_true rfl) ⟨rfl, rfl, Nat.le_of_ble_eq_true rfl, Nat.le_of_ble_eq_true rfl⟩ dX3_writeRoads_27 ?_
      refine lv_if_ne (tgt := 36) hx hb dX3_writeRoads_30 (by decide) (fun q6 => ?_) (fun q6 => ?_)
      · have h := ig h q6
        refine lv_aload_n hx hb dX3_writeRoads_36 rfl (lv_at hl 0 rfl) ?_
        refine r_ldcs (k := 6) (tx := ";road") C (by decide +kernel) dX3_writeRoads_37 ?_
        obtain ⟨s8, q7, h⟩ := bd_o h
        refine r_callVv (rest := []) C B hl (c_X3_write G n s0 6 s8 q7) cs_X3_29 (cX_29 G s0) rfl rfl rfl (Nat.le_of_ble_eq_true rfl) ⟨rfl, rfl, Nat.le_of_ble_eq_true rfl, Nat.le_of_ble_eq_true rfl⟩ dX3_writeRoads_39 (fun H locs B => ?_)
        refine lv_aload_n hx hb dX3_writeRoads_42 rfl (lv_at hl 0 rfl) ?_
        refine lv_iload_n hx hb dX3_writeRoads_43 rfl (lv_at hl 2 rfl) ?_
        obtain ⟨s10, q9, h⟩ := bd_o h
        refine r_callVv (rest := []) C B hl (c_X3_writeNumber G s8 v2 s10 q9) cs_X3_35 (cX_29 G s8) rfl rfl rfl (Nat.le_of_ble_eq_true rfl) ⟨rfl, rfl, Nat.le_of_ble_eq_true rfl, Nat.le_of_ble_eq_true rfl⟩ dX3_writeRoads_44 (fun H locs B => ?_)
        refine lv_aload_n hx hb dX3_writeRoads_47 rfl (lv_at hl 0 rfl) ?_
        refine lv_iload_n hx hb dX3_writeRoads_48 rfl (lv_at hl 3 rfl) ?_
        obtain ⟨s12, q11, h⟩ := bd_o h
        refine r_callVv (rest := []) C B hl (c_X3_writeNumber G s10 v3 s12 q11) cs_X3_35 (cX_29 G s10) rfl rfl rfl (Nat.le_of_ble_eq_true rfl) ⟨rfl, rfl, Nat.le_of_ble_eq_true rfl, Nat.le_of_ble_eq_true rfl⟩ dX3_writeRoads_49 (fun H locs B => ?_)
        obtain ⟨v3_13, q14, h⟩ := nm_o h
        refine lv_iinc (v := v3_13) (lv' := [(3, .int v3_13), (0, .ref (gad G 29)), (1, .ref (gad G 1)), (2, .int v2)]) hx hb dX3_writeRoads_52 hl (k := 3) rfl q14.symm (by decide) rfl (fun ls hl => ?_)
        refine lv_goto (tgt := 12) hx hb dX3_writeRoads_55 (by decide) ?_
        exact ih v3_13 s12 e1 h hk H locs ls B (lv_sub hl [1, 2, 3, 0] rfl)
      · have h := ip h q6
        refine lv_goto (tgt := 52) hx hb dX3_writeRoads_33 (by decide) ?_
        obtain ⟨v3_15, q16, h⟩ := nm_o h
        refine lv_iinc (v := v3_15) (lv' := [(3, .int v3_15), (0, .ref (gad G 29)), (1, .ref (gad G 1)), (2, .int v2)]) hx hb dX3_writeRoads_52 hl (k := 3) rfl q16.symm (by decide) rfl (fun ls hl => ?_)
        refine lv_goto (tgt := 12) hx hb dX3_writeRoads_55 (by decide) ?_
        exact ih v3_15 s0 e1 h hk H locs ls B (lv_sub hl [1, 2, 3, 0] rfl)
set_option maxRecDepth 100000 in
set_option maxHeartbeats 4000000 in
theorem l_X3_writeRoads_a1_L1 {G : GT} {p : Program} {e : Env} {s : State} {m : MethodId} {args : Array Value} {below : List Frame} {meth : Method} {c : Code} {Q : State → Prop} (C : CT G p s m meth c args cX3_writeRoads 4 RX3) (hr : meth.sig.returnType = none) (n : Nat) : ∀ (k : Nat) (v2 : Int32) (s0 : ST) (e1 : ST), X3_writeRoads_a1_L1 n k v2 s0 = some e1 → Kn G p e rm_X3_writeRoads_a1 s m args below meth c Q 4 64 [] (wX G e1) → Kn G p e rm_X3_writeRoads_a1 s m args below meth c Q 4 2 [(0, .ref (gad G 29)), (1, .ref (gad G 1)), (2, .int v2)] (wX G s0) := by
  have hx := C.1
  have hb := C.2.1
  intro k
  induction k with
  | zero =>
    intro v2 s0 e1 h
    exact nso h
  | succ k ih =>
    intro v2 s0 e1 h hk H locs ls B hl
    have h : X3_writeRoads_a1_L1_b n (X3_writeRoads_a1_L1 n k) v2 s0 = some e1 := h
    unfold X3_writeRoads_a1_L1_b at h
    refine lv_iload_n hx hb dX3_writeRoads_2 rfl (lv_at hl 2 rfl) ?_
    refine lv_aload_n hx hb dX3_writeRoads_3 rfl (lv_at hl 1 rfl) ?_
    refine r_get C B fo_X3_33 (cX_1 G s0) rfl dX3_writeRoads_4 ?_
    refine lv_icmp_ge (tgt := 64) hx hb dX3_writeRoads_7 (by decide) (fun q1 => ?_) (fun q1 => ?_)
    · have h := ip h q1
      obtain rfl := ret1 h
      exact hk H locs ls B (lv_sub hl [] rfl)
    · have h := ig h q1
      refine lv_iconst (v := (0 : Int32)) hx hb dX3_writeRoads_10 rfl ?_
      refine lv_istore_n (lv' := [(3, .int (0 : Int32)), (0, .ref (gad G 29)), (1, .ref (gad G 1)), (2, .int v2)]) hx hb dX3_writeRoads_11 rfl hl (by decide) rfl (fun ls hl => ?_)
      obtain ⟨e17, q18, h⟩ := bd_o h
      refine l_X3_writeRoads_a1_L2 C hr n v2 n (0 : Int32) s0 e17 q18 ?_ H locs ls B (lv_sub hl [1, 2, 3, 0] rfl)
      intro H locs ls B hl
      obtain ⟨v2_19, q20, h⟩ := nm_o h
      refine lv_iinc (v := v2_19) (lv' := [(2, .int v2_19), (0, .ref (gad G 29)), (1, .ref (gad G 1))]) hx hb dX3_writeRoads_58 hl (k := 2) rfl q20.symm (by decide) rfl (fun ls hl => ?_)
      refine lv_goto (tgt := 2) hx hb dX3_writeRoads_61 (by decide) ?_
      exact ih v2_19 e17 e1 h hk H locs ls B (lv_sub hl [1, 2, 0] rfl)
set_option maxRecDepth 100000 in
set_option maxHeartbeats 4000000 in
theorem c_X3_writeRoads_a1 (G : GT) (n : Nat) (s0 : ST)  (s' : ST) (h : X3_writeRoads_a1 n s0  = some s') : Con G yX3_writeRoads cX3_writeRoads 4 none rm_X3_writeRoads_a1 [.ref (gad G 29), .ref (gad G 1)] (wX G s0) none (wX G s') := by
  unfold X3_writeRoads_a1 at h
  refine con_of (by decide +kernel) (Nat.le_of_ble_eq_true rfl) (fun {p e s m below meth c} C hr {H locs ls} B hl => ?_)
  have hx := C.1
  have hb := C.2.1
  have hl : lv_has ls 4 [(0, .ref (gad G 29)), (1, .ref (gad G 1))] := hl
  refine lv_iconst (v := (0 : Int32)) hx hb dX3_writeRoads_0 rfl ?_
  refine lv_istore_n (lv' := [(2, .int (0 : Int32)), (0, .ref (gad G 29)), (1, .ref (gad G 1))]) hx hb dX3_writeRoads_1 rfl hl (by decide) rfl (fun ls hl => ?_)
  obtain ⟨e21, q22, h⟩ := bd_o h
  refine l_X3_writeRoads_a1_L1 C hr n n (0 : Int32) s0 e21 q22 ?_ H locs ls B (lv_sub hl [1, 2, 0] rfl)
  intro H locs ls B hl
  obtain rfl := ret1 h
  exact r_vret C B hr dX3_writeRoads_64
def rm_X3_writePostsOf : Room := { frames := 5, cells := 0, slots := 0, locals := 107 }
set_option maxRecDepth 100000 in
set_option maxHeartbeats 4000000 in
theorem l_X3_writePostsOf_L1 {G : GT} {p : Program} {e : Env} {s : State} {m : MethodId} {args : Array Value} {below : List Frame} {meth : Method} {c : Code} {Q : State → Prop} (C : CT G p s m meth c args cX3_writePostsOf 4 RX3) (hr : meth.sig.returnType = none) (n : Nat) (v1 : Nat) (v2 : Int32) : ∀ (k : Nat) (v3 : Int32) (s0 : ST) (e1 : ST), X3_writePostsOf_L1 n v1 v2 k v3 s0 = some e1 → Kn G p e rm_X3_writePostsOf s m args below meth c Q 4 41 [] (wX G e1) → Kn G p e rm_X3_writePostsOf s m args below meth c Q 4 2 [(0, .ref (gad G 29)), (1, .ref (gK G v1)), (2, .int v2), (3, .int v3)] (wX G s0) := by
  have hx := C.1
  have hb := C.2.1
  intro k
  induction k with
  | zero =>
    intro v3 s0 e1 h
    exact nso h
  | succ k ih =>
    intro v3 s0 e1 h hk H locs ls B hl
    have h : X3_writePostsOf_L1_b n v1 v2 (X3_writePostsOf_L1 n v1 v2 k) v3 s0 = some e1 := h
    unfold X3_writePostsOf_L1_b at h
    refine lv_iload_n hx hb dX3_writePostsOf_2 rfl (lv_at hl 3 rfl) ?_
    refine lv_bipush (v := (8 : Int32)) hx hb dX3_writePostsOf_3 rfl ?_
    refine lv_icmp_ge (tgt := 41) hx hb dX3_writePostsOf_5 (by decide) (fun q1 => ?_) (fun q1 => ?_)
    · have h := ip h q1
      obtain rfl := ret1 h
      exact hk H locs ls B (lv_sub hl [] rfl)
    · have h := ig h q1
      refine lv_iload_n hx hb dX3_writePostsOf_8 rfl (lv_at hl 2 rfl) ?_
      refine lv_iload_n hx hb dX3_writePostsOf_9 rfl (lv_at hl 3 rfl) ?_
      obtain ⟨r2, q3, h⟩ := bd_o h
      refine r_callSNi (rest := []) C B.2.2 hl (c_X6_has G v2 v3 r2 q3) cs_X3_68 rfl rfl (Nat.le_of_ble_eq_true rfl) ⟨rfl, rfl, Nat.le_of_ble_eq_true rfl, Nat.le_of_ble_eq_true rfl⟩ dX3_writePostsOf_10 ?_
      refine lv_if_ne (tgt := 19) hx hb dX3_writePostsOf_13 (by decide) (fun q4 => ?_) (fun q4 => ?_)
      · have h := ig h q4
        refine lv_aload_n hx hb dX3_writePostsOf_19 rfl (lv_at hl 0 rfl) ?_
        refine r_ldcs (k := 7) (tx := ";") C (by decide +kernel) dX3_writePostsOf_20 ?_
        obtain ⟨s6, q5, h⟩ := bd_o h
        refine r_callVv (rest := []) C B hl (c_X3_write G n s0 7 s6 q5) cs_X3_29 (cX_29 G s0) rfl rfl rfl (Nat.le_of_ble_eq_true rfl) ⟨rfl, rfl, Nat.le_of_ble_eq_true rfl, Nat.le_of_ble_eq_true rfl⟩ dX3_writePostsOf_22 (fun H locs B => ?_)
        refine lv_aload_n hx hb dX3_writePostsOf_25 rfl (lv_at hl 0 rfl) ?_
        refine lv_aload_n hx hb dX3_writePostsOf_26 rfl (lv_at hl 1 rfl) ?_
        obtain ⟨s8, q7, h⟩ := bd_o h
        refine r_callVv (rest := []) C B hl (c_X3_write G n s6 v1 s8 q7) cs_X3_29 (cX_29 G s6) rfl rfl rfl (Nat.le_of_ble_eq_true rfl) ⟨rfl, rfl, Nat.le_of_ble_eq_true rfl, Nat.le_of_ble_eq_true rfl⟩ dX3_writePostsOf_27 (fun H locs B => ?_)
        refine lv_aload_n hx hb dX3_writePostsOf_30 rfl (lv_at hl 0 rfl) ?_
        refine lv_iload_n hx hb dX3_writePostsOf_31 rfl (lv_at hl 3 rfl) ?_
        obtain ⟨s10, q9, h⟩ := bd_o h
        refine r_callVv (rest := []) C B hl (c_X3_writeNumber G s8 v3 s10 q9) cs_X3_35 (cX_29 G s8) rfl rfl rfl (Nat.le_of_ble_eq_true rfl) ⟨rfl, rfl, Nat.le_of_ble_eq_true rfl, Nat.le_of_ble_eq_true rfl⟩ dX3_writePostsOf_32 (fun H locs B => ?_)
        obtain ⟨v3_11, q12, h⟩ := nm_o h
        refine lv_iinc (v := v3_11) (lv' := [(3, .int v3_11), (0, .ref (gad G 29)), (1, .ref (gK G v1)), (2, .int v2)]) hx hb dX3_writePostsOf_35 hl (k := 3) rfl q12.symm (by decide) rfl (fun ls hl => ?_)
        refine lv_goto (tgt := 2) hx hb dX3_writePostsOf_38 (by decide) ?_
        exact ih v3_11 s10 e1 h hk H locs ls B (lv_sub hl [1, 2, 3, 0] rfl)
      · have h := ip h q4
        refine lv_goto (tgt := 35) hx hb dX3_writePostsOf_16 (by decide) ?_
        obtain ⟨v3_13, q14, h⟩ := nm_o h
        refine lv_iinc (v := v3_13) (lv' := [(3, .int v3_13), (0, .ref (gad G 29)), (1, .ref (gK G v1)), (2, .int v2)]) hx hb dX3_writePostsOf_35 hl (k := 3) rfl q14.symm (by decide) rfl (fun ls hl => ?_)
        refine lv_goto (tgt := 2) hx hb dX3_writePostsOf_38 (by decide) ?_
        exact ih v3_13 s0 e1 h hk H locs ls B (lv_sub hl [1, 2, 3, 0] rfl)
set_option maxRecDepth 100000 in
set_option maxHeartbeats 4000000 in
theorem c_X3_writePostsOf (G : GT) (n : Nat) (s0 : ST) (v1 : Nat) (v2 : Int32) (s' : ST) (h : X3_writePostsOf n s0 v1 v2 = some s') : Con G yX3_writePostsOf cX3_writePostsOf 4 none rm_X3_writePostsOf [.ref (gad G 29), .ref (gK G v1), .int v2] (wX G s0) none (wX G s') := by
  unfold X3_writePostsOf at h
  refine con_of (by decide +kernel) (Nat.le_of_ble_eq_true rfl) (fun {p e s m below meth c} C hr {H locs ls} B hl => ?_)
  have hx := C.1
  have hb := C.2.1
  have hl : lv_has ls 4 [(0, .ref (gad G 29)), (1, .ref (gK G v1)), (2, .int v2)] := hl
  refine lv_iconst (v := (0 : Int32)) hx hb dX3_writePostsOf_0 rfl ?_
  refine lv_istore_n (lv' := [(3, .int (0 : Int32)), (0, .ref (gad G 29)), (1, .ref (gK G v1)), (2, .int v2)]) hx hb dX3_writePostsOf_1 rfl hl (by decide) rfl (fun ls hl => ?_)
  obtain ⟨e15, q16, h⟩ := bd_o h
  refine l_X3_writePostsOf_L1 C hr n v1 v2 n (0 : Int32) s0 e15 q16 ?_ H locs ls B (lv_sub hl [1, 2, 3, 0] rfl)
  intro H locs ls B hl
  obtain rfl := ret1 h
  exact r_vret C B hr dX3_writePostsOf_41
def rm_X3_writeSet : Room := { frames := 5, cells := 0, slots := 0, locals := 107 }
set_option maxRecDepth 100000 in
set_option maxHeartbeats 4000000 in
theorem l_X3_writeSet_L1 {G : GT} {p : Program} {e : Env} {s : State} {m : MethodId} {args : Array Value} {below : List Frame} {meth : Method} {c : Code} {Q : State → Prop} (C : CT G p s m meth c args cX3_writeSet 3 RX3) (hr : meth.sig.returnType = none) (v1 : Int32) : ∀ (k : Nat) (v2 : Int32) (s0 : ST) (e1 : ST), X3_writeSet_L1 v1 k v2 s0 = some e1 → Kn G p e rm_X3_writeSet s m args below meth c Q 3 33 [] (wX G e1) → Kn G p e rm_X3_writeSet s m args below meth c Q 3 8 [(0, .ref (gad G 29)), (1, .int v1), (2, .int v2)] (wX G s0) := by
  have hx := C.1
  have hb := C.2.1
  intro k
  induction k with
  | zero =>
    intro v2 s0 e1 h
    exact nso h
  | succ k ih =>
    intro v2 s0 e1 h hk H locs ls B hl
    have h : X3_writeSet_L1_b v1 (X3_writeSet_L1 v1 k) v2 s0 = some e1 := h
    unfold X3_writeSet_L1_b at h
    refine lv_iload_n hx hb dX3_writeSet_8 rfl (lv_at hl 2 rfl) ?_
    refine lv_bipush (v := (8 : Int32)) hx hb dX3_writeSet_9 rfl ?_
    refine lv_icmp_ge (tgt := 33) hx hb dX3_writeSet_11 (by decide) (fun q3 => ?_) (fun q3 => ?_)
    · have h := ip h q3
      obtain rfl := ret1 h
      exact hk H locs ls B (lv_sub hl [] rfl)
    · have h := ig h q3
      refine lv_iload_n hx hb dX3_writeSet_14 rfl (lv_at hl 1 rfl) ?_
      refine lv_iload_n hx hb dX3_writeSet_15 rfl (lv_at hl 2 rfl) ?_
      obtain ⟨r4, q5, h⟩ := bd_o h
      refine r_callSNi (rest := []) C B.2.2 hl (c_X6_has G v1 v2 r4 q5) cs_X3_68 rfl rfl (Nat.le_of_ble_eq_true rfl) ⟨rfl, rfl, Nat.le_of_ble_eq_true rfl, Nat.le_of_ble_eq_true rfl⟩ dX3_writeSet_16 ?_
      refine lv_if_eq (tgt := 27) hx hb dX3_writeSet_19 (by decide) (fun q6 => ?_) (fun q6 => ?_)
      · have h := ip h q6
        obtain ⟨v2_7, q8, h⟩ := nm_o h
        refine lv_iinc (v := v2_7) (lv' := [(2, .int v2_7), (0, .ref (gad G 29)), (1, .int v1)]) hx hb dX3_writeSet_27 hl (k := 2) rfl q8.symm (by decide) rfl (fun ls hl => ?_)
        refine lv_goto (tgt := 8) hx hb dX3_writeSet_30 (by decide) ?_
        exact ih v2_7 s0 e1 h hk H locs ls B (lv_sub hl [1, 2, 0] rfl)
      · have h := ig h q6
        refine lv_aload_n hx hb dX3_writeSet_22 rfl (lv_at hl 0 rfl) ?_
        refine lv_iload_n hx hb dX3_writeSet_23 rfl (lv_at hl 2 rfl) ?_
        obtain ⟨s10, q9, h⟩ := bd_o h
        refine r_callVv (rest := []) C B hl (c_X3_writeNumber G s0 v2 s10 q9) cs_X3_35 (cX_29 G s0) rfl rfl rfl (Nat.le_of_ble_eq_true rfl) ⟨rfl, rfl, Nat.le_of_ble_eq_true rfl, Nat.le_of_ble_eq_true rfl⟩ dX3_writeSet_24 (fun H locs B => ?_)
        obtain ⟨v2_11, q12, h⟩ := nm_o h
        refine lv_iinc (v := v2_11) (lv' := [(2, .int v2_11), (0, .ref (gad G 29)), (1, .int v1)]) hx hb dX3_writeSet_27 hl (k := 2) rfl q12.symm (by decide) rfl (fun ls hl => ?_)
        refine lv_goto (tgt := 8) hx hb dX3_writeSet_30 (by decide) ?_
        exact ih v2_11 s10 e1 h hk H locs ls B (lv_sub hl [1, 2, 0] rfl)
set_option maxRecDepth 100000 in
set_option maxHeartbeats 4000000 in
theorem c_X3_writeSet (G : GT) (n : Nat) (s0 : ST) (v1 : Int32) (s' : ST) (h : X3_writeSet n s0 v1 = some s') : Con G yX3_writeSet cX3_writeSet 3 none rm_X3_writeSet [.ref (gad G 29), .int v1] (wX G s0) none (wX G s') := by
  unfold X3_writeSet at h
  refine con_of (by decide +kernel) (Nat.le_of_ble_eq_true rfl) (fun {p e s m below meth c} C hr {H locs ls} B hl => ?_)
  have hx := C.1
  have hb := C.2.1
  have hl : lv_has ls 3 [(0, .ref (gad G 29)), (1, .int v1)] := hl
  refine lv_aload_n hx hb dX3_writeSet_0 rfl (lv_at hl 0 rfl) ?_
  refine r_ldcs (k := 8) (tx := ";set") C (by decide +kernel) dX3_writeSet_1 ?_
  obtain ⟨s2, q1, h⟩ := bd_o h
  refine r_callVv (rest := []) C B hl (c_X3_write G n s0 8 s2 q1) cs_X3_29 (cX_29 G s0) rfl rfl rfl (Nat.le_of_ble_eq_true rfl) ⟨rfl, rfl, Nat.le_of_ble_eq_true rfl, Nat.le_of_ble_eq_true rfl⟩ dX3_writeSet_3 (fun H locs B => ?_)
  refine lv_iconst (v := (0 : Int32)) hx hb dX3_writeSet_6 rfl ?_
  refine lv_istore_n (lv' := [(2, .int (0 : Int32)), (0, .ref (gad G 29)), (1, .int v1)]) hx hb dX3_writeSet_7 rfl hl (by decide) rfl (fun ls hl => ?_)
  obtain ⟨e13, q14, h⟩ := bd_o h
  refine l_X3_writeSet_L1 C hr v1 n (0 : Int32) s2 e13 q14 ?_ H locs ls B (lv_sub hl [1, 2, 0] rfl)
  intro H locs ls B hl
  obtain rfl := ret1 h
  exact r_vret C B hr dX3_writeSet_33
def rm_X3_writeWeights_a1 : Room := { frames := 5, cells := 0, slots := 0, locals := 107 }
set_option maxRecDepth 100000 in
set_option maxHeartbeats 4000000 in
theorem l_X3_writeWeights_a1_L1 {G : GT} {p : Program} {e : Env} {s : State} {m : MethodId} {args : Array Value} {below : List Frame} {meth : Method} {c : Code} {Q : State → Prop} (C : CT G p s m meth c args cX3_writeWeights 3 RX3) (hr : meth.sig.returnType = none) (n : Nat) : ∀ (k : Nat) (v2 : Int32) (s0 : ST) (e1 : ST), X3_writeWeights_a1_L1 n k v2 s0 = some e1 → Kn G p e rm_X3_writeWeights_a1 s m args below meth c Q 3 49 [] (wX G e1) → Kn G p e rm_X3_writeWeights_a1 s m args below meth c Q 3 2 [(0, .ref (gad G 29)), (1, .ref (gad G 1)), (2, .int v2)] (wX G s0) := by
  have hx := C.1
  have hb := C.2.1
  intro k
  induction k with
  | zero =>
    intro v2 s0 e1 h
    exact nso h
  | succ k ih =>
    intro v2 s0 e1 h hk H locs ls B hl
    have h : X3_writeWeights_a1_L1_b n (X3_writeWeights_a1_L1 n k) v2 s0 = some e1 := h
    unfold X3_writeWeights_a1_L1_b at h
    refine lv_iload_n hx hb dX3_writeWeights_2 rfl (lv_at hl 2 rfl) ?_
    refine lv_aload_n hx hb dX3_writeWeights_3 rfl (lv_at hl 1 rfl) ?_
    refine r_get C B fo_X3_33 (cX_1 G s0) rfl dX3_writeWeights_4 ?_
    refine lv_icmp_ge (tgt := 49) hx hb dX3_writeWeights_7 (by decide) (fun q1 => ?_) (fun q1 => ?_)
    · have h := ip h q1
      obtain rfl := ret1 h
      exact hk H locs ls B (lv_sub hl [] rfl)
    · have h := ig h q1
      refine lv_aload_n hx hb dX3_writeWeights_10 rfl (lv_at hl 1 rfl) ?_
      refine r_get C B fo_X3_78 (cX_1 G s0) rfl dX3_writeWeights_11 ?_
      refine lv_iload_n hx hb dX3_writeWeights_14 rfl (lv_at hl 2 rfl) ?_
      obtain ⟨q2, h⟩ := gd_o h
      refine r_iald C B (cX_3 G s0) (inb_vp q2) dX3_writeWeights_15 ?_
      refine lv_if_ne (tgt := 22) hx hb dX3_writeWeights_16 (by decide) (fun q3 => ?_) (fun q3 => ?_)
      · have h := ig h q3
        refine lv_aload_n hx hb dX3_writeWeights_22 rfl (lv_at hl 0 rfl) ?_
        refine r_ldcs (k := 9) (tx := ";weigh") C (by decide +kernel) dX3_writeWeights_23 ?_
        obtain ⟨s5, q4, h⟩ := bd_o h
        refine r_callVv (rest := []) C B hl (c_X3_write G n s0 9 s5 q4) cs_X3_29 (cX_29 G s0) rfl rfl rfl (Nat.le_of_ble_eq_true rfl) ⟨rfl, rfl, Nat.le_of_ble_eq_true rfl, Nat.le_of_ble_eq_true rfl⟩ dX3_writeWeights_25 (fun H locs B => ?_)
        refine lv_aload_n hx hb dX3_writeWeights_28 rfl (lv_at hl 0 rfl) ?_
        refine lv_iload_n hx hb dX3_writeWeights_29 rfl (lv_at hl 2 rfl) ?_
        obtain ⟨s7, q6, h⟩ := bd_o h
        refine r_callVv (rest := []) C B hl (c_X3_writeNumber G s5 v2 s7 q6) cs_X3_35 (cX_29 G s5) rfl rfl rfl (Nat.le_of_ble_eq_true rfl) ⟨rfl, rfl, Nat.le_of_ble_eq_true rfl, Nat.le_of_ble_eq_true rfl⟩ dX3_writeWeights_30 (fun H locs B => ?_)
        refine lv_aload_n hx hb dX3_writeWeights_33 rfl (lv_at hl 0 rfl) ?_
        refine lv_aload_n hx hb dX3_writeWeights_34 rfl (lv_at hl 1 rfl) ?_
        refine r_get C B fo_X3_78 (cX_1 G s7) rfl dX3_writeWeights_35 ?_
        refine lv_iload_n hx hb dX3_writeWeights_38 rfl (lv_at hl 2 rfl) ?_
        obtain ⟨q8, h⟩ := gd_o h
        refine r_iald C B (cX_3 G s7) (inb_vp q8) dX3_writeWeights_39 ?_
        obtain ⟨s10, q9, h⟩ := bd_o h
        refine r_callVv (rest := []) C B hl (c_X3_writeNumber G s7 (s7.2.1 1 (v2).toNatClampNeg) s10 q9) cs_X3_35 (cX_29 G s7) rfl rfl rfl (Nat.le_of_ble_eq_true rfl) ⟨rfl, rfl, Nat.le_of_ble_eq_true rfl, Nat.le_of_ble_eq_true rfl⟩ dX3_writeWeights_40 (fun H locs B => ?_)
        obtain ⟨v2_11, q12, h⟩ := nm_o h
        refine lv_iinc (v := v2_11) (lv' := [(2, .int v2_11), (0, .ref (gad G 29)), (1, .ref (gad G 1))]) hx hb dX3_writeWeights_43 hl (k := 2) rfl q12.symm (by decide) rfl (fun ls hl => ?_)
        refine lv_goto (tgt := 2) hx hb dX3_writeWeights_46 (by decide) ?_
        exact ih v2_11 s10 e1 h hk H locs ls B (lv_sub hl [1, 2, 0] rfl)
      · have h := ip h q3
        refine lv_goto (tgt := 43) hx hb dX3_writeWeights_19 (by decide) ?_
        obtain ⟨v2_13, q14, h⟩ := nm_o h
        refine lv_iinc (v := v2_13) (lv' := [(2, .int v2_13), (0, .ref (gad G 29)), (1, .ref (gad G 1))]) hx hb dX3_writeWeights_43 hl (k := 2) rfl q14.symm (by decide) rfl (fun ls hl => ?_)
        refine lv_goto (tgt := 2) hx hb dX3_writeWeights_46 (by decide) ?_
        exact ih v2_13 s0 e1 h hk H locs ls B (lv_sub hl [1, 2, 0] rfl)
set_option maxRecDepth 100000 in
set_option maxHeartbeats 4000000 in
theorem c_X3_writeWeights_a1 (G : GT) (n : Nat) (s0 : ST)  (s' : ST) (h : X3_writeWeights_a1 n s0  = some s') : Con G yX3_writeWeights cX3_writeWeights 3 none rm_X3_writeWeights_a1 [.ref (gad G 29), .ref (gad G 1)] (wX G s0) none (wX G s') := by
  unfold X3_writeWeights_a1 at h
  refine con_of (by decide +kernel) (Nat.le_of_ble_eq_true rfl) (fun {p e s m below meth c} C hr {H locs ls} B hl => ?_)
  have hx := C.1
  have hb := C.2.1
  have hl : lv_has ls 3 [(0, .ref (gad G 29)), (1, .ref (gad G 1))] := hl
  refine lv_iconst (v := (0 : Int32)) hx hb dX3_writeWeights_0 rfl ?_
  refine lv_istore_n (lv' := [(2, .int (0 : Int32)), (0, .ref (gad G 29)), (1, .ref (gad G 1))]) hx hb dX3_writeWeights_1 rfl hl (by decide) rfl (fun ls hl => ?_)
  obtain ⟨e15, q16, h⟩ := bd_o h
  refine l_X3_writeWeights_a1_L1 C hr n n (0 : Int32) s0 e15 q16 ?_ H locs ls B (lv_sub hl [1, 2, 0] rfl)
  intro H locs ls B hl
  obtain rfl := ret1 h
  exact r_vret C B hr dX3_writeWeights_49
def rm_X3_spell_a1 : Room := { frames := 6, cells := 0, slots := 0, locals := 130 }
set_option maxRecDepth 100000 in
set_option maxHeartbeats 4000000 in
theorem l_X3_spell_a1_L1 {G : GT} {p : Program} {e : Env} {s : State} {m : MethodId} {args : Array Value} {below : List Frame} {meth : Method} {c : Code} {Q : State → Prop} (C : CT G p s m meth c args cX3_spell 3 RX3) (hr : meth.sig.returnType = none) (n : Nat) : ∀ (k : Nat) (v2 : Int32) (s0 : ST) (e1 : ST), X3_spell_a1_L1 n k v2 s0 = some e1 → Kn G p e rm_X3_spell_a1 s m args below meth c Q 3 72 [(0, .ref (gad G 29)), (1, .ref (gad G 1))] (wX G e1) → Kn G p e rm_X3_spell_a1 s m args below meth c Q 3 48 [(0, .ref (gad G 29)), (1, .ref (gad G 1)), (2, .int v2)] (wX G s0) := by
  have hx := C.1
  have hb := C.2.1
  intro k
  induction k with
  | zero =>
    intro v2 s0 e1 h
    exact nso h
  | succ k ih =>
    intro v2 s0 e1 h hk H locs ls B hl
    have h : X3_spell_a1_L1_b n (X3_spell_a1_L1 n k) v2 s0 = some e1 := h
    unfold X3_spell_a1_L1_b at h
    refine lv_iload_n hx hb dX3_spell_48 rfl (lv_at hl 2 rfl) ?_
    refine lv_aload_n hx hb dX3_spell_49 rfl (lv_at hl 1 rfl) ?_
    refine r_get C B fo_X3_52 (cX_1 G s0) rfl dX3_spell_50 ?_
    refine lv_icmp_ge (tgt := 72) hx hb dX3_spell_53 (by decide) (fun q12 => ?_) (fun q12 => ?_)
    · have h := ip h q12
      obtain rfl := ret1 h
      exact hk H locs ls B (lv_sub hl [0, 1] rfl)
    · have h := ig h q12
      refine lv_aload_n hx hb dX3_spell_56 rfl (lv_at hl 0 rfl) ?_
      refine lv_aload_n hx hb dX3_spell_57 rfl (lv_at hl 1 rfl) ?_
      refine r_get C B fo_X3_55 (cX_1 G s0) rfl dX3_spell_58 ?_
      refine lv_iload_n hx hb dX3_spell_61 rfl (lv_at hl 2 rfl) ?_
      obtain ⟨q13, h⟩ := gd_o h
      refine r_iald C B (cX_4 G s0) (inb_vp q13) dX3_spell_62 ?_
      obtain ⟨s15, q14, h⟩ := bd_o h
      refine r_callVv (rest := []) C B hl (c_X3_writeSet G n s0 (s0.2.1 2 (v2).toNatClampNeg) s15 q14) cs_X3_59 (cX_29 G s0) rfl rfl rfl (Nat.le_of_ble_eq_true rfl) ⟨rfl, rfl, Nat.le_of_ble_eq_true rfl, Nat.le_of_ble_eq_true rfl⟩ dX3_spell_63 (fun H locs B => ?_)
      obtain ⟨v2_16, q17, h⟩ := nm_o h
      refine lv_iinc (v := v2_16) (lv' := [(2, .int v2_16), (0, .ref (gad G 29)), (1, .ref (gad G 1))]) hx hb dX3_spell_66 hl (k := 2) rfl q17.symm (by decide) rfl (fun ls hl => ?_)
      refine lv_goto (tgt := 48) hx hb dX3_spell_69 (by decide) ?_
      exact ih v2_16 s15 e1 h hk H locs ls B (lv_sub hl [1, 2, 0] rfl)
set_option maxRecDepth 100000 in
set_option maxHeartbeats 4000000 in
theorem c_X3_spell_a1 (G : GT) (n : Nat) (s0 : ST)  (s' : ST) (h : X3_spell_a1 n s0  = some s') : Con G yX3_spell cX3_spell 3 none rm_X3_spell_a1 [.ref (gad G 29), .ref (gad G 1)] (wX G s0) none (wX G s') := by
  unfold X3_spell_a1 at h
  refine con_of (by decide +kernel) (Nat.le_of_ble_eq_true rfl) (fun {p e s m below meth c} C hr {H locs ls} B hl => ?_)
  have hx := C.1
  have hb := C.2.1
  have hl : lv_has ls 3 [(0, .ref (gad G 29)), (1, .ref (gad G 1))] := hl
  refine lv_aload_n hx hb dX3_spell_0 rfl (lv_at hl 0 rfl) ?_
  refine r_get C B fo_X3_19 (cX_29 G s0) rfl dX3_spell_1 ?_
  refine lv_aload_n hx hb dX3_spell_4 rfl (lv_at hl 1 rfl) ?_
  refine r_get C B fo_X3_22 (cX_1 G s0) rfl dX3_spell_5 ?_
  refine lv_icmp_ne (tgt := 12) hx hb dX3_spell_8 (by decide) (fun q1 => ?_) (fun q1 => ?_)
  · have h := ig h q1
    refine lv_aload_n hx hb dX3_spell_12 rfl (lv_at hl 0 rfl) ?_
    refine lv_iconst (v := (0 : Int32)) hx hb dX3_spell_13 rfl ?_
    obtain ⟨s2, q3, h⟩ := nm_o h
    refine r_put C B fp_X3_15 (cX_29 G s0) (Nat.le_of_ble_eq_true rfl) rfl rfl ((uXs_18 G s0 _).trans (congrArg (wX G) q3.symm)) dX3_spell_14 (fun H locs B => ?_)
    refine lv_aload_n hx hb dX3_spell_17 rfl (lv_at hl 0 rfl) ?_
    refine r_ldcs (k := 0) (tx := "posts") C (by decide +kernel) dX3_spell_18 ?_
    obtain ⟨s5, q4, h⟩ := bd_o h
    refine r_callVv (rest := []) C B hl (c_X3_write G n s2 0 s5 q4) cs_X3_29 (cX_29 G s2) rfl rfl rfl (Nat.le_of_ble_eq_true rfl) ⟨rfl, rfl, Nat.le_of_ble_eq_true rfl, Nat.le_of_ble_eq_true rfl⟩ dX3_spell_20 (fun H locs B => ?_)
    refine lv_aload_n hx hb dX3_spell_23 rfl (lv_at hl 0 rfl) ?_
    refine lv_aload_n hx hb dX3_spell_24 rfl (lv_at hl 1 rfl) ?_
    refine r_get C B fo_X3_33 (cX_1 G s5) rfl dX3_spell_25 ?_
    obtain ⟨s7, q6, h⟩ := bd_o h
    refine r_callVv (rest := []) C B hl (c_X3_writeNumber G s5 (s5.1 1) s7 q6) cs_X3_35 (cX_29 G s5) rfl rfl rfl (Nat.le_of_ble_eq_true rfl) ⟨rfl, rfl, Nat.le_of_ble_eq_true rfl, Nat.le_of_ble_eq_true rfl⟩ dX3_spell_28 (fun H locs B => ?_)
    refine lv_aload_n hx hb dX3_spell_31 rfl (lv_at hl 0 rfl) ?_
    refine lv_aload_n hx hb dX3_spell_32 rfl (lv_at hl 1 rfl) ?_
    obtain ⟨s9, q8, h⟩ := bd_o h
    refine r_callVv (rest := []) C B hl (c_X3_writeRoads_a1 G n s7 s9 q8) cs_X3_39 (cX_29 G s7) rfl rfl rfl (Nat.le_of_ble_eq_true rfl) ⟨rfl, rfl, Nat.le_of_ble_eq_true rfl, Nat.le_of_ble_eq_true rfl⟩ dX3_spell_33 (fun H locs B => ?_)
    refine lv_aload_n hx hb dX3_spell_36 rfl (lv_at hl 0 rfl) ?_
    refine r_ldcs (k := 3) (tx := "to") C (by decide +kernel) dX3_spell_37 ?_
    refine lv_aload_n hx hb dX3_spell_39 rfl (lv_at hl 1 rfl) ?_
    refine r_get C B fo_X3_45 (cX_1 G s9) rfl dX3_spell_40 ?_
    obtain ⟨s11, q10, h⟩ := bd_o h
    refine r_callVv (rest := []) C B hl (c_X3_writePostsOf G n s9 3 (s9.1 2) s11 q10) cs_X3_48 (cX_29 G s9) rfl rfl rfl (Nat.le_of_ble_eq_true rfl) ⟨rfl, rfl, Nat.le_of_ble_eq_true rfl, Nat.le_of_ble_eq_true rfl⟩ dX3_spell_43 (fun H locs B => ?_)
    refine lv_iconst (v := (0 : Int32)) hx hb dX3_spell_46 rfl ?_
    refine lv_istore_n (lv' := [(2, .int (0 : Int32)), (0, .ref (gad G 29)), (1, .ref (gad G 1))]) hx hb dX3_spell_47 rfl hl (by decide) rfl (fun ls hl => ?_)
    obtain ⟨e18, q19, h⟩ := bd_o h
    refine l_X3_spell_a1_L1 C hr n n (0 : Int32) s11 e18 q19 ?_ H locs ls B (lv_sub hl [1, 2, 0] rfl)
    intro H locs ls B hl
    refine lv_aload_n hx hb dX3_spell_72 rfl (lv_at hl 0 rfl) ?_
    refine lv_aload_n hx hb dX3_spell_73 rfl (lv_at hl 1 rfl) ?_
    obtain ⟨s21, q20, h⟩ := bd_o h
    refine r_callVv (rest := []) C B hl (c_X3_writeWeights_a1 G n e18 s21 q20) cs_X3_62 (cX_29 G e18) rfl rfl rfl (Nat.le_of_ble_eq_true rfl) ⟨rfl, rfl, Nat.le_of_ble_eq_true rfl, Nat.le_of_ble_eq_true rfl⟩ dX3_spell_74 (fun H locs B => ?_)
    refine lv_aload_n hx hb dX3_spell_77 rfl (lv_at hl 0 rfl) ?_
    refine lv_aload_n hx hb dX3_spell_78 rfl (lv_at hl 1 rfl) ?_
    refine r_get C B fo_X3_22 (cX_1 G s21) rfl dX3_spell_79 ?_
    obtain ⟨s22, q23, h⟩ := nm_o h
    refine r_put C B fp_X3_19 (cX_29 G s21) (Nat.le_of_ble_eq_true rfl) rfl rfl ((uXs_19 G s21 _).trans (congrArg (wX G) q23.symm)) dX3_spell_82 (fun H locs B => ?_)
    obtain rfl := ret1 h
    exact r_vret C B hr dX3_spell_85
  · have h := ip h q1
    obtain rfl := ret1 h
    exact r_vret C B hr dX3_spell_11
def rm_X6_spelled : Room := { frames := 7, cells := 0, slots := 0, locals := 152 }
set_option maxRecDepth 100000 in
set_option maxHeartbeats 4000000 in
theorem c_X6_spelled (G : GT) (n : Nat) (s0 : ST) (v1 : Int32) (r : Int32) (s' : ST) (h : X6_spelled n s0 v1 = some (r, s')) : Con G yX6_spelled cX6_spelled 2 (some .int) rm_X6_spelled [.ref (gad G 0), .int v1] (wX G s0) (some (.int r)) (wX G s') := by
  unfold X6_spelled at h
  refine con_of (by decide +kernel) (Nat.le_of_ble_eq_true rfl) (fun {p e s m below meth c} C hr {H locs ls} B hl => ?_)
  have hx := C.1
  have hb := C.2.1
  have hl : lv_has ls 2 [(0, .ref (gad G 0)), (1, .int v1)] := hl
  refine lv_aload_n hx hb dX6_spelled_0 rfl (lv_at hl 0 rfl) ?_
  refine r_get C B fo_X6_56 (cX_0 G s0) rfl dX6_spelled_1 ?_
  refine lv_aload_n hx hb dX6_spelled_4 rfl (lv_at hl 0 rfl) ?_
  refine r_get C B fo_X6_10 (cX_0 G s0) rfl dX6_spelled_5 ?_
  obtain ⟨s2, q1, h⟩ := bd_o h
  refine r_callVv (rest := []) C B hl (c_X3_spell_a1 G n s0 s2 q1) cs_X6_244 (cX_29 G s0) rfl rfl rfl (Nat.le_of_ble_eq_true rfl) ⟨rfl, rfl, Nat.le_of_ble_eq_true rfl, Nat.le_of_ble_eq_true rfl⟩ dX6_spelled_8 (fun H locs B => ?_)
  refine lv_iload_n hx hb dX6_spelled_11 rfl (lv_at hl 1 rfl) ?_
  refine lv_iconst (v := (-1 : Int32)) hx hb dX6_spelled_12 rfl ?_
  refine lv_icmp_ne (tgt := 24) hx hb dX6_spelled_13 (by decide) (fun q3 => ?_) (fun q3 => ?_)
  · have h := ig h q3
    refine lv_iload_n hx hb dX6_spelled_24 rfl (lv_at hl 1 rfl) ?_
    refine lv_if_lt (tgt := 39) hx hb dX6_spelled_25 (by decide) (fun q4 => ?_) (fun q4 => ?_)
    · have h := ip h q4
      refine lv_iconst (v := (-1 : Int32)) hx hb dX6_spelled_39 rfl ?_
      obtain ⟨rfl, rfl⟩ := ret2 h
      exact r_iret C B hr rfl dX6_spelled_40
    · have h := ig h q4
      refine lv_iload_n hx hb dX6_spelled_28 rfl (lv_at hl 1 rfl) ?_
      refine lv_aload_n hx hb dX6_spelled_29 rfl (lv_at hl 0 rfl) ?_
      refine r_get C B fo_X6_56 (cX_0 G s2) rfl dX6_spelled_30 ?_
      refine r_get C B fo_X6_248 (cX_29 G s2) rfl dX6_spelled_33 ?_
      refine lv_icmp_lt (tgt := 41) hx hb dX6_spelled_36 (by decide) (fun q5 => ?_) (fun q5 => ?_)
      · have h := ip h q5
        refine lv_aload_n hx hb dX6_spelled_41 rfl (lv_at hl 0 rfl) ?_
        refine r_get C B fo_X6_56 (cX_0 G s2) rfl dX6_spelled_42 ?_
        refine r_get C B fo_X6_249 (cX_29 G s2) rfl dX6_spelled_45 ?_
        refine lv_iload_n hx hb dX6_spelled_48 rfl (lv_at hl 1 rfl) ?_
        obtain ⟨q6, h⟩ := gd_o h
        refine r_cald C B (cX_30 G s2) (inb_vp q6) dX6_spelled_49 ?_
        obtain ⟨rfl, rfl⟩ := ret2 h
        exact r_iret C B hr rfl dX6_spelled_50
      · have h := ig h q5
        refine lv_iconst (v := (-1 : Int32)) hx hb dX6_spelled_39 rfl ?_
        obtain ⟨rfl, rfl⟩ := ret2 h
        exact r_iret C B hr rfl dX6_spelled_40
  · have h := ip h q3
    refine lv_aload_n hx hb dX6_spelled_16 rfl (lv_at hl 0 rfl) ?_
    refine r_get C B fo_X6_56 (cX_0 G s2) rfl dX6_spelled_17 ?_
    refine r_get C B fo_X6_248 (cX_29 G s2) rfl dX6_spelled_20 ?_
    obtain ⟨rfl, rfl⟩ := ret2 h
    exact r_iret C B hr rfl dX6_spelled_23
def rm_X4_become_5_a1 : Room := { frames := 1, cells := 0, slots := 0, locals := 64 }
set_option maxRecDepth 100000 in
set_option maxHeartbeats 4000000 in
theorem c_X4_become_5_a1 (G : GT) (s0 : ST)  (s' : ST) (h : X4_become_5_a1 s0  = some s') : Con G yX4_become cX4_become 2 none rm_X4_become_5_a1 [.ref (gad G 5), .ref (gad G 1)] (wX G s0) none (wX G s') := by
  unfold X4_become_5_a1 at h
  refine con_of (by decide +kernel) (Nat.le_of_ble_eq_true rfl) (fun {p e s m below meth c} C hr {H locs ls} B hl => ?_)
  have hx := C.1
  have hb := C.2.1
  have hl : lv_has ls 2 [(0, .ref (gad G 5)), (1, .ref (gad G 1))] := hl
  refine lv_aload_n hx hb dX4_become_0 rfl (lv_at hl 0 rfl) ?_
  refine lv_aload_n hx hb dX4_become_1 rfl (lv_at hl 1 rfl) ?_
  refine r_get C B fo_X4_9 (cX_1 G s0) rfl dX4_become_2 ?_
  obtain ⟨s1, q2, h⟩ := nm_o h
  refine r_put C B fp_X4_9 (cX_5 G s0) (Nat.le_of_ble_eq_true rfl) rfl rfl ((uXs_5 G s0 _).trans (congrArg (wX G) q2.symm)) dX4_become_5 (fun H locs B => ?_)
  refine lv_aload_n hx hb dX4_become_8 rfl (lv_at hl 0 rfl) ?_
  refine lv_aload_n hx hb dX4_become_9 rfl (lv_at hl 1 rfl) ?_
  refine r_get C B fo_X4_15 (cX_1 G s1) rfl dX4_become_10 ?_
  obtain ⟨s3, q4, h⟩ := nm_o h
  refine r_put C B fp_X4_15 (cX_5 G s1) (Nat.le_of_ble_eq_true rfl) rfl rfl ((uXs_6 G s1 _).trans (congrArg (wX G) q4.symm)) dX4_become_13 (fun H locs B => ?_)
  refine lv_aload_n hx hb dX4_become_16 rfl (lv_at hl 0 rfl) ?_
  refine lv_aload_n hx hb dX4_become_17 rfl (lv_at hl 1 rfl) ?_
  refine r_get C B fo_X4_18 (cX_1 G s3) rfl dX4_become_18 ?_
  obtain ⟨s5, q6, h⟩ := nm_o h
  refine r_put C B fp_X4_18 (cX_5 G s3) (Nat.le_of_ble_eq_true rfl) rfl rfl ((uXs_7 G s3 _).trans (congrArg (wX G) q6.symm)) dX4_become_21 (fun H locs B => ?_)
  refine lv_aload_n hx hb dX4_become_24 rfl (lv_at hl 1 rfl) ?_
  refine r_get C B fo_X4_24 (cX_1 G s5) rfl dX4_become_25 ?_
  refine lv_iconst (v := (0 : Int32)) hx hb dX4_become_28 rfl ?_
  refine lv_aload_n hx hb dX4_become_29 rfl (lv_at hl 0 rfl) ?_
  refine r_get C B fo_X4_24 (cX_5 G s5) rfl dX4_become_30 ?_
  refine lv_iconst (v := (0 : Int32)) hx hb dX4_become_33 rfl ?_
  refine lv_bipush (v := (8 : Int32)) hx hb dX4_become_34 rfl ?_
  obtain ⟨q7, h⟩ := gd_o h
  obtain ⟨s8, q9, h⟩ := nm_o h
  refine r_acp C B hl wm_835 wm_651 wm_650 wm_71 (cX_2 G s5) (cX_6 G s5) q7 ((uXa_3 G s5 _).trans (congrArg (wX G) q9.symm)) (Nat.le_of_ble_eq_true rfl) (by decide +kernel) dX4_become_36 (fun H locs B => ?_)
  refine lv_aload_n hx hb dX4_become_39 rfl (lv_at hl 1 rfl) ?_
  refine r_get C B fo_X4_28 (cX_1 G s8) rfl dX4_become_40 ?_
  refine lv_iconst (v := (0 : Int32)) hx hb dX4_become_43 rfl ?_
  refine lv_aload_n hx hb dX4_become_44 rfl (lv_at hl 0 rfl) ?_
  refine r_get C B fo_X4_28 (cX_5 G s8) rfl dX4_become_45 ?_
  refine lv_iconst (v := (0 : Int32)) hx hb dX4_become_48 rfl ?_
  refine lv_bipush (v := (8 : Int32)) hx hb dX4_become_49 rfl ?_
  obtain ⟨q10, h⟩ := gd_o h
  obtain ⟨s11, q12, h⟩ := nm_o h
  refine r_acp C B hl wm_835 wm_651 wm_650 wm_71 (cX_3 G s8) (cX_7 G s8) q10 ((uXa_4 G s8 _).trans (congrArg (wX G) q12.symm)) (Nat.le_of_ble_eq_true rfl) (by decide +kernel) dX4_become_51 (fun H locs B => ?_)
  refine lv_aload_n hx hb dX4_become_54 rfl (lv_at hl 1 rfl) ?_
  refine r_get C B fo_X4_31 (cX_1 G s11) rfl dX4_become_55 ?_
  refine lv_iconst (v := (0 : Int32)) hx hb dX4_become_58 rfl ?_
  refine lv_aload_n hx hb dX4_become_59 rfl (lv_at hl 0 rfl) ?_
  refine r_get C B fo_X4_31 (cX_5 G s11) rfl dX4_become_60 ?_
  refine lv_iconst (v := (0 : Int32)) hx hb dX4_become_63 rfl ?_
  refine lv_bipush (v := (8 : Int32)) hx hb dX4_become_64 rfl ?_
  obtain ⟨q13, h⟩ := gd_o h
  obtain ⟨s14, q15, h⟩ := nm_o h
  refine r_acp C B hl wm_835 wm_651 wm_650 wm_71 (cX_4 G s11) (cX_8 G s11) q13 ((uXa_5 G s11 _).trans (congrArg (wX G) q15.symm)) (Nat.le_of_ble_eq_true rfl) (by decide +kernel) dX4_become_66 (fun H locs B => ?_)
  refine lv_aload_n hx hb dX4_become_69 rfl (lv_at hl 0 rfl) ?_
  refine lv_dup hx hb dX4_become_70 rfl ?_
  refine r_get C B fo_X4_21 (cX_5 G s14) rfl dX4_become_71 ?_
  refine lv_iconst (v := (1 : Int32)) hx hb dX4_become_74 rfl ?_
  refine lv_iadd hx hb dX4_become_75 ?_
  obtain ⟨s16, q17, h⟩ := nm_o h
  refine r_put C B fp_X4_21 (cX_5 G s14) (Nat.le_of_ble_eq_true rfl) rfl rfl ((uXs_8 G s14 _).trans (congrArg (wX G) q17.symm)) dX4_become_76 (fun H locs B => ?_)
  obtain rfl := ret1 h
  exact r_vret C B hr dX4_become_79
def rm_X6_image : Room := { frames := 2, cells := 0, slots := 0, locals := 85 }
set_option maxRecDepth 100000 in
set_option maxHeartbeats 4000000 in
theorem c_X6_image (G : GT) (s0 : ST)  (r : Int32) (s' : ST) (h : X6_image s0  = some (r, s')) : Con G yX6_image cX6_image 1 (some .int) rm_X6_image [.ref (gad G 0)] (wX G s0) (some (.int r)) (wX G s') := by
  unfold X6_image at h
  refine con_of (by decide +kernel) (Nat.le_of_ble_eq_true rfl) (fun {p e s m below meth c} C hr {H locs ls} B hl => ?_)
  have hx := C.1
  have hb := C.2.1
  have hl : lv_has ls 1 [(0, .ref (gad G 0))] := hl
  refine lv_aload_n hx hb dX6_image_0 rfl (lv_at hl 0 rfl) ?_
  refine r_get C B fo_X6_16 (cX_0 G s0) rfl dX6_image_1 ?_
  refine lv_aload_n hx hb dX6_image_4 rfl (lv_at hl 0 rfl) ?_
  refine r_get C B fo_X6_10 (cX_0 G s0) rfl dX6_image_5 ?_
  obtain ⟨s2, q1, h⟩ := bd_o h
  refine r_callVv (rest := []) C B hl (c_X4_become_5_a1 G s0 s2 q1) cs_X6_252 (cX_5 G s0) rfl rfl rfl (Nat.le_of_ble_eq_true rfl) ⟨rfl, rfl, Nat.le_of_ble_eq_true rfl, Nat.le_of_ble_eq_true rfl⟩ dX6_image_8 (fun H locs B => ?_)
  refine lv_aload_n hx hb dX6_image_11 rfl (lv_at hl 0 rfl) ?_
  refine lv_iconst (v := (1 : Int32)) hx hb dX6_image_12 rfl ?_
  obtain ⟨s3, q4, h⟩ := nm_o h
  refine r_put C B fp_X6_19 (cX_0 G s2) (Nat.le_of_ble_eq_true rfl) (by decide +kernel) (by decide +kernel) ((uXs_0 G s2 _).trans (congrArg (wX G) q4.symm)) dX6_image_13 (fun H locs B => ?_)
  refine lv_aload_n hx hb dX6_image_16 rfl (lv_at hl 0 rfl) ?_
  refine r_get C B fo_X6_10 (cX_0 G s3) rfl dX6_image_17 ?_
  refine r_get C B fo_X6_60 (cX_1 G s3) rfl dX6_image_20 ?_
  obtain ⟨rfl, rfl⟩ := ret2 h
  exact r_iret C B hr rfl dX6_image_23
def rm_X4_become_a5 : Room := { frames := 1, cells := 0, slots := 0, locals := 64 }
set_option maxRecDepth 100000 in
set_option maxHeartbeats 4000000 in
theorem c_X4_become_a5 (G : GT) (s0 : ST)  (s' : ST) (h : X4_become_a5 s0  = some s') : Con G yX4_become cX4_become 2 none rm_X4_become_a5 [.ref (gad G 1), .ref (gad G 5)] (wX G s0) none (wX G s') := by
  unfold X4_become_a5 at h
  refine con_of (by decide +kernel) (Nat.le_of_ble_eq_true rfl) (fun {p e s m below meth c} C hr {H locs ls} B hl => ?_)
  have hx := C.1
  have hb := C.2.1
  have hl : lv_has ls 2 [(0, .ref (gad G 1)), (1, .ref (gad G 5))] := hl
  refine lv_aload_n hx hb dX4_become_0 rfl (lv_at hl 0 rfl) ?_
  refine lv_aload_n hx hb dX4_become_1 rfl (lv_at hl 1 rfl) ?_
  refine r_get C B fo_X4_9 (cX_5 G s0) rfl dX4_become_2 ?_
  obtain ⟨s1, q2, h⟩ := nm_o h
  refine r_put C B fp_X4_9 (cX_1 G s0) (Nat.le_of_ble_eq_true rfl) rfl rfl ((uXs_1 G s0 _).trans (congrArg (wX G) q2.symm)) dX4_become_5 (fun H locs B => ?_)
  refine lv_aload_n hx hb dX4_become_8 rfl (lv_at hl 0 rfl) ?_
  refine lv_aload_n hx hb dX4_become_9 rfl (lv_at hl 1 rfl) ?_
  refine r_get C B fo_X4_15 (cX_5 G s1) rfl dX4_become_10 ?_
  obtain ⟨s3, q4, h⟩ := nm_o h
  refine r_put C B fp_X4_15 (cX_1 G s1) (Nat.le_of_ble_eq_true rfl) rfl rfl ((uXs_2 G s1 _).trans (congrArg (wX G) q4.symm)) dX4_become_13 (fun H locs B => ?_)
  refine lv_aload_n hx hb dX4_become_16 rfl (lv_at hl 0 rfl) ?_
  refine lv_aload_n hx hb dX4_become_17 rfl (lv_at hl 1 rfl) ?_
  refine r_get C B fo_X4_18 (cX_5 G s3) rfl dX4_become_18 ?_
  obtain ⟨s5, q6, h⟩ := nm_o h
  refine r_put C B fp_X4_18 (cX_1 G s3) (Nat.le_of_ble_eq_true rfl) rfl rfl ((uXs_3 G s3 _).trans (congrArg (wX G) q6.symm)) dX4_become_21 (fun H locs B => ?_)
  refine lv_aload_n hx hb dX4_become_24 rfl (lv_at hl 1 rfl) ?_
  refine r_get C B fo_X4_24 (cX_5 G s5) rfl dX4_become_25 ?_
  refine lv_iconst (v := (0 : Int32)) hx hb dX4_become_28 rfl ?_
  refine lv_aload_n hx hb dX4_become_29 rfl (lv_at hl 0 rfl) ?_
  refine r_get C B fo_X4_24 (cX_1 G s5) rfl dX4_become_30 ?_
  refine lv_iconst (v := (0 : Int32)) hx hb dX4_become_33 rfl ?_
  refine lv_bipush (v := (8 : Int32)) hx hb dX4_become_34 rfl ?_
  obtain ⟨q7, h⟩ := gd_o h
  obtain ⟨s8, q9, h⟩ := nm_o h
  refine r_acp C B hl wm_835 wm_651 wm_650 wm_71 (cX_6 G s5) (cX_2 G s5) q7 ((uXa_0 G s5 _).trans (congrArg (wX G) q9.symm)) (Nat.le_of_ble_eq_true rfl) (by decide +kernel) dX4_become_36 (fun H locs B => ?_)
  refine lv_aload_n hx hb dX4_become_39 rfl (lv_at hl 1 rfl) ?_
  refine r_get C B fo_X4_28 (cX_5 G s8) rfl dX4_become_40 ?_
  refine lv_iconst (v := (0 : Int32)) hx hb dX4_become_43 rfl ?_
  refine lv_aload_n hx hb dX4_become_44 rfl (lv_at hl 0 rfl) ?_
  refine r_get C B fo_X4_28 (cX_1 G s8) rfl dX4_become_45 ?_
  refine lv_iconst (v := (0 : Int32)) hx hb dX4_become_48 rfl ?_
  refine lv_bipush (v := (8 : Int32)) hx hb dX4_become_49 rfl ?_
  obtain ⟨q10, h⟩ := gd_o h
  obtain ⟨s11, q12, h⟩ := nm_o h
  refine r_acp C B hl wm_835 wm_651 wm_650 wm_71 (cX_7 G s8) (cX_3 G s8) q10 ((uXa_1 G s8 _).trans (congrArg (wX G) q12.symm)) (Nat.le_of_ble_eq_true rfl) (by decide +kernel) dX4_become_51 (fun H locs B => ?_)
  refine lv_aload_n hx hb dX4_become_54 rfl (lv_at hl 1 rfl) ?_
  refine r_get C B fo_X4_31 (cX_5 G s11) rfl dX4_become_55 ?_
  refine lv_iconst (v := (0 : Int32)) hx hb dX4_become_58 rfl ?_
  refine lv_aload_n hx hb dX4_become_59 rfl (lv_at hl 0 rfl) ?_
  refine r_get C B fo_X4_31 (cX_1 G s11) rfl dX4_become_60 ?_
  refine lv_iconst (v := (0 : Int32)) hx hb dX4_become_63 rfl ?_
  refine lv_bipush (v := (8 : Int32)) hx hb dX4_become_64 rfl ?_
  obtain ⟨q13, h⟩ := gd_o h
  obtain ⟨s14, q15, h⟩ := nm_o h
  refine r_acp C B hl wm_835 wm_651 wm_650 wm_71 (cX_8 G s11) (cX_4 G s11) q13 ((uXa_2 G s11 _).trans (congrArg (wX G) q15.symm)) (Nat.le_of_ble_eq_true rfl) (by decide +kernel) dX4_become_66 (fun H locs B => ?_)
  refine lv_aload_n hx hb dX4_become_69 rfl (lv_at hl 0 rfl) ?_
  refine lv_dup hx hb dX4_become_70 rfl ?_
  refine r_get C B fo_X4_21 (cX_1 G s14) rfl dX4_become_71 ?_
  refine lv_iconst (v := (1 : Int32)) hx hb dX4_become_74 rfl ?_
  refine lv_iadd hx hb dX4_become_75 ?_
  obtain ⟨s16, q17, h⟩ := nm_o h
  refine r_put C B fp_X4_21 (cX_1 G s14) (Nat.le_of_ble_eq_true rfl) rfl rfl ((uXs_4 G s14 _).trans (congrArg (wX G) q17.symm)) dX4_become_76 (fun H locs B => ?_)
  obtain rfl := ret1 h
  exact r_vret C B hr dX4_become_79
def rm_X6_undo : Room := { frames := 2, cells := 0, slots := 0, locals := 85 }
set_option maxRecDepth 100000 in
set_option maxHeartbeats 4000000 in
theorem c_X6_undo (G : GT) (s0 : ST)  (r : Int32) (s' : ST) (h : X6_undo s0  = some (r, s')) : Con G yX6_undo cX6_undo 1 (some .int) rm_X6_undo [.ref (gad G 0)] (wX G s0) (some (.int r)) (wX G s') := by
  unfold X6_undo at h
  refine con_of (by decide +kernel) (Nat.le_of_ble_eq_true rfl) (fun {p e s m below meth c} C hr {H locs ls} B hl => ?_)
  have hx := C.1
  have hb := C.2.1
  have hl : lv_has ls 1 [(0, .ref (gad G 0))] := hl
  refine lv_aload_n hx hb dX6_undo_0 rfl (lv_at hl 0 rfl) ?_
  refine r_get C B fo_X6_19 (cX_0 G s0) rfl dX6_undo_1 ?_
  refine lv_if_ne (tgt := 10) hx hb dX6_undo_4 (by decide) (fun q1 => ?_) (fun q1 => ?_)
  · have h := ig h q1
    refine lv_aload_n hx hb dX6_undo_10 rfl (lv_at hl 0 rfl) ?_
    refine r_get C B fo_X6_10 (cX_0 G s0) rfl dX6_undo_11 ?_
    refine lv_aload_n hx hb dX6_undo_14 rfl (lv_at hl 0 rfl) ?_
    refine r_get C B fo_X6_16 (cX_0 G s0) rfl dX6_undo_15 ?_
    obtain ⟨s3, q2, h⟩ := bd_o h
    refine r_callVv (rest := []) C B hl (c_X4_become_a5 G s0 s3 q2) cs_X6_252 (cX_1 G s0) rfl rfl rfl (Nat.le_of_ble_eq_true rfl) ⟨rfl, rfl, Nat.le_of_ble_eq_true rfl, Nat.le_of_ble_eq_true rfl⟩ dX6_undo_18 (fun H locs B => ?_)
    refine lv_aload_n hx hb dX6_undo_21 rfl (lv_at hl 0 rfl) ?_
    refine r_get C B fo_X6_10 (cX_0 G s3) rfl dX6_undo_22 ?_
    refine r_get C B fo_X6_60 (cX_1 G s3) rfl dX6_undo_25 ?_
    obtain ⟨rfl, rfl⟩ := ret2 h
    exact r_iret C B hr rfl dX6_undo_28
  · have h := ip h q1
    refine lv_bipush (v := (-3 : Int32)) hx hb dX6_undo_7 rfl ?_
    obtain ⟨rfl, rfl⟩ := ret2 h
    exact r_iret C B hr rfl dX6_undo_9
def rm_X6_countRows : Room := { frames := 1, cells := 0, slots := 0, locals := 21 }
set_option maxRecDepth 100000 in
set_option maxHeartbeats 4000000 in
theorem l_X6_countRows_L1 {G : GT} {p : Program} {e : Env} {s : State} {m : MethodId} {args : Array Value} {below : List Frame} {meth : Method} {c : Code} {Q : State → Prop} (C : CT G p s m meth c args cX6_countRows 3 RX6) (hr : meth.sig.returnType = (some .int)) (s0 : ST) : ∀ (k : Nat) (v2 : Int32) (v1 : Int32) (e1 : Int32), X6_countRows_L1 s0 k v2 v1 = some e1 → Kn G p e rm_X6_countRows s m args below meth c Q 3 26 [(1, .int e1)] (wX G s0) → Kn G p e rm_X6_countRows s m args below meth c Q 3 4 [(0, .ref (gad G 0)), (2, .int v2), (1, .int v1)] (wX G s0) := by
  have hx := C.1
  have hb := C.2.1
  intro k
  induction k with
  | zero =>
    intro v2 v1 e1 h
    exact nso h
  | succ k ih =>
    intro v2 v1 e1 h hk H locs ls B hl
    have h : X6_countRows_L1_b s0 (X6_countRows_L1 s0 k) v2 v1 = some e1 := h
    unfold X6_countRows_L1_b at h
    refine lv_iload_n hx hb dX6_countRows_4 rfl (lv_at hl 1 rfl) ?_
    refine lv_iconst (v := (3 : Int32)) hx hb dX6_countRows_5 rfl ?_
    refine lv_icmp_ge (tgt := 26) hx hb dX6_countRows_6 (by decide) (fun q1 => ?_) (fun q1 => ?_)
    · have h := ip h q1
      obtain rfl := ret1 h
      exact hk H locs ls B (lv_sub hl [2] rfl)
    · have h := ig h q1
      refine lv_aload_n hx hb dX6_countRows_9 rfl (lv_at hl 0 rfl) ?_
      refine lv_iload_n hx hb dX6_countRows_10 rfl (lv_at hl 1 rfl) ?_
      obtain ⟨r3, q2, h⟩ := bd_o h
      refine r_callVi (rest := []) C B hl (c_X6_isThere G s0 v2 r3 q2) cs_X6_215 (cX_0 G s0) rfl rfl rfl (Nat.le_of_ble_eq_true rfl) ⟨rfl, rfl, Nat.le_of_ble_eq_true rfl, Nat.le_of_ble_eq_true rfl⟩ dX6_countRows_11 (fun H locs B => ?_)
      refine lv_if_eq (tgt := 20) hx hb dX6_countRows_14 (by decide) (fun q4 => ?_) (fun q4 => ?_)
      · have h := ip h q4
        obtain ⟨v2_5, q6, h⟩ := nm_o h
        refine lv_iinc (v := v2_5) (lv' := [(2, .int v2_5), (0, .ref (gad G 0)), (1, .int v1)]) hx hb dX6_countRows_20 hl (k := 1) rfl q6.symm (by decide) rfl (fun ls hl => ?_)
        refine lv_goto (tgt := 4) hx hb dX6_countRows_23 (by decide) ?_
        exact ih v2_5 v1 e1 h hk H locs ls B (lv_sub hl [1, 0, 2] rfl)
      · have h := ig h q4
        obtain ⟨v1_7, q8, h⟩ := nm_o h
        refine lv_iinc (v := v1_7) (lv' := [(1, .int v1_7), (0, .ref (gad G 0)), (2, .int v2)]) hx hb dX6_countRows_17 hl (k := 2) rfl q8.symm (by decide) rfl (fun ls hl => ?_)
        obtain ⟨v2_9, q10, h⟩ := nm_o h
        refine lv_iinc (v := v2_9) (lv' := [(2, .int v2_9), (1, .int v1_7), (0, .ref (gad G 0))]) hx hb dX6_countRows_20 hl (k := 2) rfl q10.symm (by decide) rfl (fun ls hl => ?_)
        refine lv_goto (tgt := 4) hx hb dX6_countRows_23 (by decide) ?_
        exact ih v2_9 v1_7 e1 h hk H locs ls B (lv_sub hl [2, 0, 1] rfl)
set_option maxRecDepth 100000 in
set_option maxHeartbeats 4000000 in
theorem c_X6_countRows (G : GT) (n : Nat) (s0 : ST)  (r : Int32) (h : X6_countRows n s0  = some r) : Con G yX6_countRows cX6_countRows 3 (some .int) rm_X6_countRows [.ref (gad G 0)] (wX G s0) (some (.int r)) (wX G s0) := by
  unfold X6_countRows at h
  refine con_of (by decide +kernel) (Nat.le_of_ble_eq_true rfl) (fun {p e s m below meth c} C hr {H locs ls} B hl => ?_)
  have hx := C.1
  have hb := C.2.1
  have hl : lv_has ls 3 [(0, .ref (gad G 0))] := hl
  refine lv_iconst (v := (0 : Int32)) hx hb dX6_countRows_0 rfl ?_
  refine lv_istore_n (lv' := [(1, .int (0 : Int32)), (0, .ref (gad G 0))]) hx hb dX6_countRows_1 rfl hl (by decide) rfl (fun ls hl => ?_)
  refine lv_iconst (v := (0 : Int32)) hx hb dX6_countRows_2 rfl ?_
  refine lv_istore_n (lv' := [(2, .int (0 : Int32)), (1, .int (0 : Int32)), (0, .ref (gad G 0))]) hx hb dX6_countRows_3 rfl hl (by decide) rfl (fun ls hl => ?_)
  obtain ⟨e11, q12, h⟩ := bd_o h
  refine l_X6_countRows_L1 C hr s0 n (0 : Int32) (0 : Int32) e11 q12 ?_ H locs ls B (lv_sub hl [2, 0, 1] rfl)
  intro H locs ls B hl
  refine lv_iload_n hx hb dX6_countRows_26 rfl (lv_at hl 0 rfl) ?_
  obtain rfl := ret1 h
  exact r_iret C B hr rfl dX6_countRows_27
def rm_X6_count : Room := { frames := 2, cells := 0, slots := 0, locals := 44 }
set_option maxRecDepth 100000 in
set_option maxHeartbeats 4000000 in
theorem c_X6_count (G : GT) (n : Nat) (s0 : ST) (v1 : Int32) (r : Int32) (h : X6_count n s0 v1 = some r) : Con G yX6_count cX6_count 2 (some .int) rm_X6_count [.ref (gad G 0), .int v1] (wX G s0) (some (.int r)) (wX G s0) := by
  unfold X6_count at h
  refine con_of (by decide +kernel) (Nat.le_of_ble_eq_true rfl) (fun {p e s m below meth c} C hr {H locs ls} B hl => ?_)
  have hx := C.1
  have hb := C.2.1
  have hl : lv_has ls 2 [(0, .ref (gad G 0)), (1, .int v1)] := hl
  refine lv_iload_n hx hb dX6_count_0 rfl (lv_at hl 1 rfl) ?_
  by_cases q1 : v1 = (0 : Int32)
  · have h := ip h q1
    refine r_tab (off := 43) (tgt := 44) C q1 dX6_count_1 (by decide) (by decide) ?_
    refine lv_aload_n hx hb dX6_count_44 rfl (lv_at hl 0 rfl) ?_
    refine r_get C B fo_X6_10 (cX_0 G s0) rfl dX6_count_45 ?_
    refine r_get C B fo_X6_60 (cX_1 G s0) rfl dX6_count_48 ?_
    obtain rfl := ret1 h
    exact r_iret C B hr rfl dX6_count_51
  · have h := ig h q1
    by_cases q2 : v1 = (1 : Int32)
    · have h := ip h q2
      refine r_tab (off := 51) (tgt := 52) C q2 dX6_count_1 (by decide) (by decide) ?_
      refine lv_aload_n hx hb dX6_count_52 rfl (lv_at hl 0 rfl) ?_
      refine r_get C B fo_X6_10 (cX_0 G s0) rfl dX6_count_53 ?_
      obtain ⟨r4, q3, h⟩ := bd_o h
      refine r_callVi (rest := []) C B hl (c_X4_countRoads G n s0 r4 q3) cs_X6_199 (cX_1 G s0) rfl rfl rfl (Nat.le_of_ble_eq_true rfl) ⟨rfl, rfl, Nat.le_of_ble_eq_true rfl, Nat.le_of_ble_eq_true rfl⟩ dX6_count_56 (fun H locs B => ?_)
      obtain rfl := ret1 h
      exact r_iret C B hr rfl dX6_count_59
    · have h := ig h q2
      by_cases q5 : v1 = (2 : Int32)
      · have h := ip h q5
        refine r_tab (off := 59) (tgt := 60) C q5 dX6_count_1 (by decide) (by decide) ?_
        refine lv_aload_n hx hb dX6_count_60 rfl (lv_at hl 0 rfl) ?_
        refine r_get C B fo_X6_10 (cX_0 G s0) rfl dX6_count_61 ?_
        refine r_get C B fo_X6_82 (cX_1 G s0) rfl dX6_count_64 ?_
        obtain rfl := ret1 h
        exact r_iret C B hr rfl dX6_count_67
      · have h := ig h q5
        by_cases q6 : v1 = (3 : Int32)
        · have h := ip h q6
          refine r_tab (off := 67) (tgt := 68) C q6 dX6_count_1 (by decide) (by decide) ?_
          refine lv_aload_n hx hb dX6_count_68 rfl (lv_at hl 0 rfl) ?_
          refine r_get C B fo_X6_10 (cX_0 G s0) rfl dX6_count_69 ?_
          refine r_get C B fo_X6_95 (cX_1 G s0) rfl dX6_count_72 ?_
          obtain rfl := ret1 h
          exact r_iret C B hr rfl dX6_count_75
        · have h := ig h q6
          by_cases q7 : v1 = (4 : Int32)
          · have h := ip h q7
            refine r_tab (off := 75) (tgt := 76) C q7 dX6_count_1 (by decide) (by decide) ?_
            refine lv_aload_n hx hb dX6_count_76 rfl (lv_at hl 0 rfl) ?_
            refine r_get C B fo_X6_49 (cX_0 G s0) rfl dX6_count_77 ?_
            refine r_get C B fo_X6_231 (cX_27 G s0) rfl dX6_count_80 ?_
            obtain rfl := ret1 h
            exact r_iret C B hr rfl dX6_count_83
          · have h := ig h q7
            by_cases q8 : v1 = (5 : Int32)
            · have h := ip h q8
              refine r_tab (off := 83) (tgt := 84) C q8 dX6_count_1 (by decide) (by decide) ?_
              refine lv_aload_n hx hb dX6_count_84 rfl (lv_at hl 0 rfl) ?_
              obtain ⟨r10, q9, h⟩ := bd_o h
              refine r_callVi (rest := []) C B hl (c_X6_countRows G n s0 r10 q9) cs_X6_255 (cX_0 G s0) rfl rfl rfl (Nat.le_of_ble_eq_true rfl) ⟨rfl, rfl, Nat.le_of_ble_eq_true rfl, Nat.le_of_ble_eq_true rfl⟩ dX6_count_85 (fun H locs B => ?_)
              obtain rfl := ret1 h
              exact r_iret C B hr rfl dX6_count_88
            · have h := ig h q8
              by_cases q11 : v1 = (6 : Int32)
              · have h := ip h q11
                refine r_tab (off := 88) (tgt := 89) C q11 dX6_count_1 (by decide) (by decide) ?_
                refine lv_aload_n hx hb dX6_count_89 rfl (lv_at hl 0 rfl) ?_
                refine r_get C B fo_X6_10 (cX_0 G s0) rfl dX6_count_90 ?_
                refine lv_aload_n hx hb dX6_count_93 rfl (lv_at hl 0 rfl) ?_
                refine r_get C B fo_X6_10 (cX_0 G s0) rfl dX6_count_94 ?_
                obtain ⟨r13, q12, h⟩ := bd_o h
                refine r_callVi (rest := [.ref (gad G 1)]) C B hl (c_X4_all G s0 r13 q12) cs_X6_154 (cX_1 G s0) rfl rfl rfl (Nat.le_of_ble_eq_true rfl) ⟨rfl, rfl, Nat.le_of_ble_eq_true rfl, Nat.le_of_ble_eq_true rfl⟩ dX6_count_97 (fun H locs B => ?_)
                obtain ⟨r15, q14, h⟩ := bd_o h
                refine r_callVi (rest := []) C B hl (c_X4_weightOf G n s0 r13 r15 q14) cs_X6_161 (cX_1 G s0) rfl rfl rfl (Nat.le_of_ble_eq_true rfl) ⟨rfl, rfl, Nat.le_of_ble_eq_true rfl, Nat.le_of_ble_eq_true rfl⟩ dX6_count_100 (fun H locs B => ?_)
                obtain rfl := ret1 h
                exact r_iret C B hr rfl dX6_count_103
              · have h := ig h q11
                refine lv_tableOut (tgt := 104) hx hb dX6_count_1 (r_span (fun k h1 h2 => by have e : k = 0 ∨ k = 1 ∨ k = 2 ∨ k = 3 ∨ k = 4 ∨ k = 5 ∨ k = 6 := (by omega); rcases e with rfl | rfl | rfl | rfl | rfl | rfl | rfl; exact ne_toInt q1; exact ne_toInt q2; exact ne_toInt q5; exact ne_toInt q6; exact ne_toInt q7; exact ne_toInt q8; exact ne_toInt q11)) (by decide) ?_
                refine lv_iconst (v := (-1 : Int32)) hx hb dX6_count_104 rfl ?_
                obtain rfl := ret1 h
                exact r_iret C B hr rfl dX6_count_105
