/-! WALKS (X 2): each method comes back with what its plain function says -/
set_option maxRecDepth 100000 in
set_option maxHeartbeats 4000000 in
theorem l_X1_spread_10_L2 {G : GT} {p : Program} {e : Env} {s : State} {m : MethodId} {args : Array Value} {below : List Frame} {meth : Method} {c : Code} {Q : State → Prop} (C : CT G p s m meth c args cX1_spread 4 RX1) (hr : meth.sig.returnType = none) (v1 : Int32) : ∀ (k : Nat) (v2 : Int32) (s0 : ST) (e1 : ST), X1_spread_10_L2 v1 k v2 s0 = some e1 → Kn G p e rm_X1_spread_10 s m args below meth c Q 4 44 [] (wX G e1) → Kn G p e rm_X1_spread_10 s m args below meth c Q 4 8 [(0, .ref (gad G 10)), (1, .int v1), (2, .int v2)] (wX G s0) := by
  have hx := C.1
  have hb := C.2.1
  intro k
  induction k with
  | zero =>
    intro v2 s0 e1 h
    exact nso h
  | succ k ih =>
    intro v2 s0 e1 h hk H locs ls B hl
    have h : X1_spread_10_L2_b v1 (X1_spread_10_L2 v1 k) v2 s0 = some e1 := h
    unfold X1_spread_10_L2_b at h
    refine lv_iload_n hx hb dX1_spread_8 rfl (lv_at hl 2 rfl) ?_
    refine lv_iconst (v := (4 : Int32)) hx hb dX1_spread_9 rfl ?_
    refine lv_icmp_ge (tgt := 44) hx hb dX1_spread_10 (by decide) (fun q17 => ?_) (fun q17 => ?_)
    · have h := ip h q17
      obtain rfl := ret1 h
      exact hk H locs ls B (lv_sub hl [] rfl)
    · have h := ig h q17
      refine lv_aload_n hx hb dX1_spread_13 rfl (lv_at hl 0 rfl) ?_
      refine r_get C B fo_X1_11 (cX_10 G s0) rfl dX1_spread_14 ?_
      refine lv_iload_n hx hb dX1_spread_17 rfl (lv_at hl 2 rfl) ?_
      refine lv_dup2_11 hx hb dX1_spread_18 rfl rfl ?_
      obtain ⟨q18, h⟩ := gd_o h
      refine r_lald C B (cX_11 G s0) (inb_vp q18) dX1_spread_19 ?_
      refine lv_aload_n hx hb dX1_spread_20 rfl (lv_at hl 0 rfl) ?_
      refine r_get C B fo_X1_15 (cX_10 G s0) rfl dX1_spread_21 ?_
      refine lv_iload_n hx hb dX1_spread_24 rfl (lv_at hl 2 rfl) ?_
      obtain ⟨q19, h⟩ := gd_o h
      refine r_lald C B (cX_12 G s0) (inb_vp q19) dX1_spread_25 ?_
      refine r_lack C B.2.2 dX1_spread_26 ?_
      refine lv_iload_n hx hb dX1_spread_29 rfl (lv_at hl 1 rfl) ?_
      obtain ⟨q20, h⟩ := gd_o h
      refine r_lackld C B.2.2 (inb_vp q20) dX1_spread_30 ?_
      refine lv_land hx hb dX1_spread_31 ?_
      refine lv_iconst (v := (1 : Int32)) hx hb dX1_spread_32 rfl ?_
      refine lv_iload_n hx hb dX1_spread_33 rfl (lv_at hl 1 rfl) ?_
      refine lv_ishl hx hb dX1_spread_34 ?_
      refine lv_lshl hx hb dX1_spread_35 rfl ?_
      refine lv_lor hx hb dX1_spread_36 ?_
      obtain ⟨q21, h⟩ := gd_o h
      obtain ⟨s22, q23, h⟩ := nm_o h
      refine r_last C B (cX_11 G s0) (inb_vp q21) ((uXj_0 G s0 _).trans (congrArg (wX G) q23.symm)) dX1_spread_37 (fun H locs B => ?_)
      obtain ⟨v2_24, q25, h⟩ := nm_o h
      refine lv_iinc (v := v2_24) (lv' := [(2, .int v2_24), (0, .ref (gad G 10)), (1, .int v1)]) hx hb dX1_spread_38 hl (k := 2) rfl q25.symm (by decide) rfl (fun ls hl => ?_)
      refine lv_goto (tgt := 8) hx hb dX1_spread_41 (by decide) ?_
      exact ih v2_24 s22 e1 h hk H locs ls B (lv_sub hl [1, 2, 0] rfl)
set_option maxRecDepth 100000 in
set_option maxHeartbeats 4000000 in
theorem c_X1_spread_10 (G : GT) (n : Nat) (s0 : ST) (v1 : Int32) (s' : ST) (h : X1_spread_10 n s0 v1 = some s') : Con G yX1_spread cX1_spread 4 none rm_X1_spread_10 [.ref (gad G 10), .int v1] (wX G s0) none (wX G s') := by
  unfold X1_spread_10 at h
  refine con_of (by decide +kernel) (Nat.le_of_ble_eq_true rfl) (fun {p e s m below meth c} C hr {H locs ls} B hl => ?_)
  have hx := C.1
  have hb := C.2.1
  have hl : lv_has ls 4 [(0, .ref (gad G 10)), (1, .int v1)] := hl
  refine lv_iload_n hx hb dX1_spread_0 rfl (lv_at hl 1 rfl) ?_
  refine lv_bipush (v := (6 : Int32)) hx hb dX1_spread_1 rfl ?_
  refine lv_icmp_ge (tgt := 45) hx hb dX1_spread_3 (by decide) (fun q1 => ?_) (fun q1 => ?_)
  · have h := ip h q1
    refine lv_iconst (v := (1 : Int32)) hx hb dX1_spread_45 rfl ?_
    refine lv_iload_n hx hb dX1_spread_46 rfl (lv_at hl 1 rfl) ?_
    refine lv_bipush (v := (6 : Int32)) hx hb dX1_spread_47 rfl ?_
    refine lv_isub hx hb dX1_spread_49 ?_
    refine lv_ishl hx hb dX1_spread_50 ?_
    obtain ⟨v2_2, q3, h⟩ := nm_o h
    refine r_nm q3 ?_
    refine lv_istore_n (lv' := [(2, .int v2_2), (0, .ref (gad G 10)), (1, .int v1)]) hx hb dX1_spread_51 rfl hl (by decide) rfl (fun ls hl => ?_)
    refine lv_iconst (v := (0 : Int32)) hx hb dX1_spread_52 rfl ?_
    refine lv_istore_n (lv' := [(3, .int (0 : Int32)), (2, .int v2_2), (0, .ref (gad G 10)), (1, .int v1)]) hx hb dX1_spread_53 rfl hl (by decide) rfl (fun ls hl => ?_)
    obtain ⟨e15, q16, h⟩ := bd_o h
    refine l_X1_spread_10_L1 C hr v2_2 n (0 : Int32) s0 e15 q16 ?_ H locs ls B (lv_sub hl [2, 1, 0] rfl)
    intro H locs ls B hl
    obtain rfl := ret1 h
    exact r_vret C B hr dX1_spread_90
  · have h := ig h q1
    refine lv_iconst (v := (0 : Int32)) hx hb dX1_spread_6 rfl ?_
    refine lv_istore_n (lv' := [(2, .int (0 : Int32)), (0, .ref (gad G 10)), (1, .int v1)]) hx hb dX1_spread_7 rfl hl (by decide) rfl (fun ls hl => ?_)
    obtain ⟨e26, q27, h⟩ := bd_o h
    refine l_X1_spread_10_L2 C hr v1 n (0 : Int32) s0 e26 q27 ?_ H locs ls B (lv_sub hl [1, 2, 0] rfl)
    intro H locs ls B hl
    obtain rfl := ret1 h
    exact r_vret C B hr dX1_spread_44
def rm_X1_join_10 : Room := { frames := 1, cells := 0, slots := 0, locals := 23 }
set_option maxRecDepth 100000 in
set_option maxHeartbeats 4000000 in
theorem l_X1_join_10_L1 {G : GT} {p : Program} {e : Env} {s : State} {m : MethodId} {args : Array Value} {below : List Frame} {meth : Method} {c : Code} {Q : State → Prop} (C : CT G p s m meth c args cX1_join 3 RX1) (hr : meth.sig.returnType = none) (v1 : Int32) : ∀ (k : Nat) (v2 : Int32) (s0 : ST) (e1 : ST), X1_join_10_L1  k v2 s0 = some e1 → Kn G p e rm_X1_join_10 s m args below meth c Q 3 25 [(0, .ref (gad G 10)), (1, .int v1)] (wX G e1) → Kn G p e rm_X1_join_10 s m args below meth c Q 3 2 [(0, .ref (gad G 10)), (1, .int v1), (2, .int v2)] (wX G s0) := by
  have hx := C.1
  have hb := C.2.1
  intro k
  induction k with
  | zero =>
    intro v2 s0 e1 h
    exact nso h
  | succ k ih =>
    intro v2 s0 e1 h hk H locs ls B hl
    have h : X1_join_10_L1_b  (X1_join_10_L1  k) v2 s0 = some e1 := h
    unfold X1_join_10_L1_b at h
    refine lv_iload_n hx hb dX1_join_2 rfl (lv_at hl 2 rfl) ?_
    refine lv_iconst (v := (4 : Int32)) hx hb dX1_join_3 rfl ?_
    refine lv_icmp_ge (tgt := 25) hx hb dX1_join_4 (by decide) (fun q1 => ?_) (fun q1 => ?_)
    · have h := ip h q1
      obtain rfl := ret1 h
      exact hk H locs ls B (lv_sub hl [0, 1] rfl)
    · have h := ig h q1
      refine lv_aload_n hx hb dX1_join_7 rfl (lv_at hl 0 rfl) ?_
      refine r_get C B fo_X1_15 (cX_10 G s0) rfl dX1_join_8 ?_
      refine lv_iload_n hx hb dX1_join_11 rfl (lv_at hl 2 rfl) ?_
      refine lv_aload_n hx hb dX1_join_12 rfl (lv_at hl 0 rfl) ?_
      refine r_get C B fo_X1_11 (cX_10 G s0) rfl dX1_join_13 ?_
      refine lv_iload_n hx hb dX1_join_16 rfl (lv_at hl 2 rfl) ?_
      obtain ⟨q2, h⟩ := gd_o h
      refine r_lald C B (cX_11 G s0) (inb_vp q2) dX1_join_17 ?_
      obtain ⟨q3, h⟩ := gd_o h
      obtain ⟨s4, q5, h⟩ := nm_o h
      refine r_last C B (cX_12 G s0) (inb_vp q3) ((uXj_1 G s0 _).trans (congrArg (wX G) q5.symm)) dX1_join_18 (fun H locs B => ?_)
      obtain ⟨v2_6, q7, h⟩ := nm_o h
      refine lv_iinc (v := v2_6) (lv' := [(2, .int v2_6), (0, .ref (gad G 10)), (1, .int v1)]) hx hb dX1_join_19 hl (k := 2) rfl q7.symm (by decide) rfl (fun ls hl => ?_)
      refine lv_goto (tgt := 2) hx hb dX1_join_22 (by decide) ?_
      exact ih v2_6 s4 e1 h hk H locs ls B (lv_sub hl [1, 2, 0] rfl)
set_option maxRecDepth 100000 in
set_option maxHeartbeats 4000000 in
theorem l_X1_join_10_L2 {G : GT} {p : Program} {e : Env} {s : State} {m : MethodId} {args : Array Value} {below : List Frame} {meth : Method} {c : Code} {Q : State → Prop} (C : CT G p s m meth c args cX1_join 3 RX1) (hr : meth.sig.returnType = none) (n : Nat) (v1 : Int32) : ∀ (k : Nat) (v2 : Int32) (s0 : ST) (e1 : ST), X1_join_10_L2 n v1 k v2 s0 = some e1 → Kn G p e rm_X1_join_10 s m args below meth c Q 3 52 [] (wX G e1) → Kn G p e rm_X1_join_10 s m args below meth c Q 3 27 [(0, .ref (gad G 10)), (1, .int v1), (2, .int v2)] (wX G s0) := by
  have hx := C.1
  have hb := C.2.1
  intro k
  induction k with
  | zero =>
    intro v2 s0 e1 h
    exact nso h
  | succ k ih =>
    intro v2 s0 e1 h hk H locs ls B hl
    have h : X1_join_10_L2_b n v1 (X1_join_10_L2 n v1 k) v2 s0 = some e1 := h
    unfold X1_join_10_L2_b at h
    refine lv_iload_n hx hb dX1_join_27 rfl (lv_at hl 2 rfl) ?_
    refine lv_bipush (v := (8 : Int32)) hx hb dX1_join_28 rfl ?_
    refine lv_icmp_ge (tgt := 52) hx hb dX1_join_30 (by decide) (fun q10 => ?_) (fun q10 => ?_)
    · have h := ip h q10
      obtain rfl := ret1 h
      exact hk H locs ls B (lv_sub hl [] rfl)
    · have h := ig h q10
      refine lv_iload_n hx hb dX1_join_33 rfl (lv_at hl 1 rfl) ?_
      refine lv_iload_n hx hb dX1_join_34 rfl (lv_at hl 2 rfl) ?_
      obtain ⟨r11, q12, h⟩ := bd_o h
      refine r_callSNi (rest := []) C B.2.2 hl (c_X6_has G v1 v2 r11 q12) cs_X1_18 rfl rfl (Nat.le_of_ble_eq_true rfl) ⟨rfl, rfl, Nat.le_of_ble_eq_true rfl, Nat.le_of_ble_eq_true rfl⟩ dX1_join_35 ?_
      refine lv_if_eq (tgt := 46) hx hb dX1_join_38 (by decide) (fun q13 => ?_) (fun q13 => ?_)
      · have h := ip h q13
        obtain ⟨v2_14, q15, h⟩ := nm_o h
        refine lv_iinc (v := v2_14) (lv' := [(2, .int v2_14), (0, .ref (gad G 10)), (1, .int v1)]) hx hb dX1_join_46 hl (k := 2) rfl q15.symm (by decide) rfl (fun ls hl => ?_)
        refine lv_goto (tgt := 27) hx hb dX1_join_49 (by decide) ?_
        exact ih v2_14 s0 e1 h hk H locs ls B (lv_sub hl [1, 2, 0] rfl)
      · have h := ig h q13
        refine lv_aload_n hx hb dX1_join_41 rfl (lv_at hl 0 rfl) ?_
        refine lv_iload_n hx hb dX1_join_42 rfl (lv_at hl 2 rfl) ?_
        obtain ⟨s17, q16, h⟩ := bd_o h
        refine r_callVv (rest := []) C B hl (c_X1_spread_10 G n s0 v2 s17 q16) cs_X1_22 (cX_10 G s0) rfl rfl rfl (Nat.le_of_ble_eq_true rfl) ⟨rfl, rfl, Nat.le_of_ble_eq_true rfl, Nat.le_of_ble_eq_true rfl⟩ dX1_join_43 (fun H locs B => ?_)
        obtain ⟨v2_18, q19, h⟩ := nm_o h
        refine lv_iinc (v := v2_18) (lv' := [(2, .int v2_18), (0, .ref (gad G 10)), (1, .int v1)]) hx hb dX1_join_46 hl (k := 2) rfl q19.symm (by decide) rfl (fun ls hl => ?_)
        refine lv_goto (tgt := 27) hx hb dX1_join_49 (by decide) ?_
        exact ih v2_18 s17 e1 h hk H locs ls B (lv_sub hl [1, 2, 0] rfl)
set_option maxRecDepth 100000 in
set_option maxHeartbeats 4000000 in
theorem c_X1_join_10 (G : GT) (n : Nat) (s0 : ST) (v1 : Int32) (s' : ST) (h : X1_join_10 n s0 v1 = some s') : Con G yX1_join cX1_join 3 none rm_X1_join_10 [.ref (gad G 10), .int v1] (wX G s0) none (wX G s') := by
  unfold X1_join_10 at h
  refine con_of (by decide +kernel) (Nat.le_of_ble_eq_true rfl) (fun {p e s m below meth c} C hr {H locs ls} B hl => ?_)
  have hx := C.1
  have hb := C.2.1
  have hl : lv_has ls 3 [(0, .ref (gad G 10)), (1, .int v1)] := hl
  refine lv_iconst (v := (0 : Int32)) hx hb dX1_join_0 rfl ?_
  refine lv_istore_n (lv' := [(2, .int (0 : Int32)), (0, .ref (gad G 10)), (1, .int v1)]) hx hb dX1_join_1 rfl hl (by decide) rfl (fun ls hl => ?_)
  obtain ⟨e8, q9, h⟩ := bd_o h
  refine l_X1_join_10_L1 C hr v1 n (0 : Int32) s0 e8 q9 ?_ H locs ls B (lv_sub hl [1, 2, 0] rfl)
  intro H locs ls B hl
  refine lv_iconst (v := (0 : Int32)) hx hb dX1_join_25 rfl ?_
  refine lv_istore_n (lv' := [(2, .int (0 : Int32)), (0, .ref (gad G 10)), (1, .int v1)]) hx hb dX1_join_26 rfl hl (by decide) rfl (fun ls hl => ?_)
  obtain ⟨e20, q21, h⟩ := bd_o h
  refine l_X1_join_10_L2 C hr n v1 n (0 : Int32) e8 e20 q21 ?_ H locs ls B (lv_sub hl [1, 2, 0] rfl)
  intro H locs ls B hl
  obtain rfl := ret1 h
  exact r_vret C B hr dX1_join_52
def rm_X1_holds_10 : Room := { frames := 0, cells := 0, slots := 0, locals := 0 }
set_option maxRecDepth 100000 in
set_option maxHeartbeats 4000000 in
theorem c_X1_holds_10 (G : GT) (s0 : ST) (v1 : Int32) (r : Int32) (h : X1_holds_10 s0 v1 = some r) : Con G yX1_holds cX1_holds 2 (some .boolean) rm_X1_holds_10 [.ref (gad G 10), .int v1] (wX G s0) (some (.int r)) (wX G s0) := by
  unfold X1_holds_10 at h
  refine con_of (by decide +kernel) (Nat.le_of_ble_eq_true rfl) (fun {p e s m below meth c} C hr {H locs ls} B hl => ?_)
  have hx := C.1
  have hb := C.2.1
  have hl : lv_has ls 2 [(0, .ref (gad G 10)), (1, .int v1)] := hl
  refine lv_aload_n hx hb dX1_holds_0 rfl (lv_at hl 0 rfl) ?_
  refine r_get C B fo_X1_11 (cX_10 G s0) rfl dX1_holds_1 ?_
  refine lv_iload_n hx hb dX1_holds_4 rfl (lv_at hl 1 rfl) ?_
  refine lv_bipush (v := (6 : Int32)) hx hb dX1_holds_5 rfl ?_
  refine lv_ishr hx hb dX1_holds_7 ?_
  obtain ⟨q1, h⟩ := gd_o h
  refine r_lald C B (cX_11 G s0) (inb_vp q1) dX1_holds_8 ?_
  refine lv_iload_n hx hb dX1_holds_9 rfl (lv_at hl 1 rfl) ?_
  refine lv_bipush (v := (63 : Int32)) hx hb dX1_holds_10 rfl ?_
  refine lv_iand hx hb dX1_holds_12 ?_
  refine lv_lushr hx hb dX1_holds_13 rfl ?_
  refine lv_lconst (v := (1 : Int64)) hx hb dX1_holds_14 rfl ?_
  refine lv_land hx hb dX1_holds_15 ?_
  refine lv_lconst (v := (1 : Int64)) hx hb dX1_holds_16 rfl ?_
  refine W.lcmp hx hb dX1_holds_17 ?_
  refine lv_if_ne (tgt := 25) hx hb dX1_holds_18 (by decide) (fun q2 => ?_) (fun q2 => ?_)
  · have h := ig h q2
    refine lv_iconst (v := (0 : Int32)) hx hb dX1_holds_25 rfl ?_
    obtain rfl := ret1 h
    exact r_iret C B hr nar_0 dX1_holds_26
  · have h := ip h q2
    refine lv_iconst (v := (1 : Int32)) hx hb dX1_holds_21 rfl ?_
    refine lv_goto (tgt := 26) hx hb dX1_holds_22 (by decide) ?_
    obtain rfl := ret1 h
    exact r_iret C B hr nar_1 dX1_holds_26
def rm_X2_greatestWithin_a17 : Room := { frames := 1, cells := 0, slots := 0, locals := 21 }
set_option maxRecDepth 100000 in
set_option maxHeartbeats 4000000 in
theorem l_X2_greatestWithin_a17_L1 {G : GT} {p : Program} {e : Env} {s : State} {m : MethodId} {args : Array Value} {below : List Frame} {meth : Method} {c : Code} {Q : State → Prop} (C : CT G p s m meth c args cX2_greatestWithin 5 RX2) (hr : meth.sig.returnType = (some .int)) (s0 : ST) (v2 : Int32) : ∀ (k : Nat) (v4 : Int32) (v3 : Int32) (e1 : Int32), X2_greatestWithin_a17_L1 s0 v2 k v4 v3 = some e1 → Kn G p e rm_X2_greatestWithin_a17 s m args below meth c Q 5 47 [(3, .int e1)] (wX G s0) → Kn G p e rm_X2_greatestWithin_a17 s m args below meth c Q 5 5 [(0, .ref (gad G 9)), (1, .ref (gad G 17)), (2, .int v2), (4, .int v4), (3, .int v3)] (wX G s0) := by
  have hx := C.1
  have hb := C.2.1
  intro k
  induction k with
  | zero =>
    intro v4 v3 e1 h
    exact nso h
  | succ k ih =>
    intro v4 v3 e1 h hk H locs ls B hl
    have h : X2_greatestWithin_a17_L1_b s0 v2 (X2_greatestWithin_a17_L1 s0 v2 k) v4 v3 = some e1 := h
    unfold X2_greatestWithin_a17_L1_b at h
    refine lv_iload hx hb dX2_greatestWithin_5 (lv_at hl 3 rfl) ?_
    refine lv_aload_n hx hb dX2_greatestWithin_7 rfl (lv_at hl 0 rfl) ?_
    refine r_get C B fo_X2_32 (cX_9 G s0) rfl dX2_greatestWithin_8 ?_
    refine r_get C B fo_X2_44 (cX_1 G s0) rfl dX2_greatestWithin_11 ?_
    refine lv_icmp_ge (tgt := 47) hx hb dX2_greatestWithin_14 (by decide) (fun q1 => ?_) (fun q1 => ?_)
    · have h := ip h q1
      obtain rfl := ret1 h
      exact hk H locs ls B (lv_sub hl [4] rfl)
    · have h := ig h q1
      refine lv_iload_n hx hb dX2_greatestWithin_17 rfl (lv_at hl 2 rfl) ?_
      refine lv_iload hx hb dX2_greatestWithin_18 (lv_at hl 3 rfl) ?_
      obtain ⟨r2, q3, h⟩ := bd_o h
      refine r_callSNi (rest := []) C B.2.2 hl (c_X6_has G v2 v4 r2 q3) cs_X2_50 rfl rfl (Nat.le_of_ble_eq_true rfl) ⟨rfl, rfl, Nat.le_of_ble_eq_true rfl, Nat.le_of_ble_eq_true rfl⟩ dX2_greatestWithin_20 ?_
      refine lv_if_eq (tgt := 41) hx hb dX2_greatestWithin_23 (by decide) (fun q4 => ?_) (fun q4 => ?_)
      · have h := ip h q4
        obtain ⟨v4_5, q6, h⟩ := nm_o h
        refine lv_iinc (v := v4_5) (lv' := [(4, .int v4_5), (0, .ref (gad G 9)), (1, .ref (gad G 17)), (2, .int v2), (3, .int v3)]) hx hb dX2_greatestWithin_41 hl (k := 3) rfl q6.symm (by decide) rfl (fun ls hl => ?_)
        refine lv_goto (tgt := 5) hx hb dX2_greatestWithin_44 (by decide) ?_
        exact ih v4_5 v3 e1 h hk H locs ls B (lv_sub hl [1, 2, 3, 0, 4] rfl)
      · have h := ig h q4
        refine lv_iload_n hx hb dX2_greatestWithin_26 rfl (lv_at hl 4 rfl) ?_
        refine lv_aload_n hx hb dX2_greatestWithin_27 rfl (lv_at hl 1 rfl) ?_
        refine lv_iload_n hx hb dX2_greatestWithin_28 rfl (lv_at hl 2 rfl) ?_
        refine lv_iconst (v := (1 : Int32)) hx hb dX2_greatestWithin_29 rfl ?_
        refine lv_iload hx hb dX2_greatestWithin_30 (lv_at hl 3 rfl) ?_
        refine lv_ishl hx hb dX2_greatestWithin_32 ?_
        refine lv_iconst (v := (-1 : Int32)) hx hb dX2_greatestWithin_33 rfl ?_
        refine lv_ixor hx hb dX2_greatestWithin_34 ?_
        refine lv_iand hx hb dX2_greatestWithin_35 ?_
        obtain ⟨q7, h⟩ := gd_o h
        refine r_iald C B (cX_17 G s0) (inb_vp q7) dX2_greatestWithin_36 ?_
        obtain ⟨r8, q9, h⟩ := nm_o h
        refine va_mmax hx hb (C.2.2.1.trans hl.1.symm) C.2.2.2.1 (C.2.2.2.2.1 _ wm_411) (C.2.2.2.2.1 _ wm_412) (C.2.2.2.2.1 _ wm_70) (C.2.2.2.2.1 _ wm_413) (Nat.le_of_ble_eq_true rfl) (Nat.le_of_ble_eq_true rfl) (Nat.zero_le _) (Nat.zero_le _) dX2_greatestWithin_37 ?_
        refine r_nm q9 ?_
        refine lv_istore_n (lv' := [(3, .int r8), (0, .ref (gad G 9)), (1, .ref (gad G 17)), (2, .int v2), (4, .int v4)]) hx hb dX2_greatestWithin_40 rfl hl (by decide) rfl (fun ls hl => ?_)
        obtain ⟨v4_10, q11, h⟩ := nm_o h
        refine lv_iinc (v := v4_10) (lv' := [(4, .int v4_10), (3, .int r8), (0, .ref (gad G 9)), (1, .ref (gad G 17)), (2, .int v2)]) hx hb dX2_greatestWithin_41 hl (k := 4) rfl q11.symm (by decide) rfl (fun ls hl => ?_)
        refine lv_goto (tgt := 5) hx hb dX2_greatestWithin_44 (by decide) ?_
        exact ih v4_10 r8 e1 h hk H locs ls B (lv_sub hl [2, 3, 4, 0, 1] rfl)
set_option maxRecDepth 100000 in
set_option maxHeartbeats 4000000 in
theorem c_X2_greatestWithin_a17 (G : GT) (n : Nat) (s0 : ST) (v2 : Int32) (r : Int32) (h : X2_greatestWithin_a17 n s0 v2 = some r) : Con G yX2_greatestWithin cX2_greatestWithin 5 (some .int) rm_X2_greatestWithin_a17 [.ref (gad G 9), .ref (gad G 17), .int v2] (wX G s0) (some (.int r)) (wX G s0) := by
  unfold X2_greatestWithin_a17 at h
  refine con_of (by decide +kernel) (Nat.le_of_ble_eq_true rfl) (fun {p e s m below meth c} C hr {H locs ls} B hl => ?_)
  have hx := C.1
  have hb := C.2.1
  have hl : lv_has ls 5 [(0, .ref (gad G 9)), (1, .ref (gad G 17)), (2, .int v2)] := hl
  refine lv_iconst (v := (0 : Int32)) hx hb dX2_greatestWithin_0 rfl ?_
  refine lv_istore_n (lv' := [(3, .int (0 : Int32)), (0, .ref (gad G 9)), (1, .ref (gad G 17)), (2, .int v2)]) hx hb dX2_greatestWithin_1 rfl hl (by decide) rfl (fun ls hl => ?_)
  refine lv_iconst (v := (0 : Int32)) hx hb dX2_greatestWithin_2 rfl ?_
  refine lv_istore (lv' := [(4, .int (0 : Int32)), (3, .int (0 : Int32)), (0, .ref (gad G 9)), (1, .ref (gad G 17)), (2, .int v2)]) hx hb dX2_greatestWithin_3 hl (by decide) rfl (fun ls hl => ?_)
  obtain ⟨e12, q13, h⟩ := bd_o h
  refine l_X2_greatestWithin_a17_L1 C hr s0 v2 n (0 : Int32) (0 : Int32) e12 q13 ?_ H locs ls B (lv_sub hl [2, 3, 4, 0, 1] rfl)
  intro H locs ls B hl
  refine lv_iload_n hx hb dX2_greatestWithin_47 rfl (lv_at hl 0 rfl) ?_
  obtain rfl := ret1 h
  exact r_iret C B hr rfl dX2_greatestWithin_48
def rm_X2_fill_a17_a10 : Room := { frames := 2, cells := 0, slots := 0, locals := 45 }
set_option maxRecDepth 100000 in
set_option maxHeartbeats 4000000 in
theorem l_X2_fill_a17_a10_L1 {G : GT} {p : Program} {e : Env} {s : State} {m : MethodId} {args : Array Value} {below : List Frame} {meth : Method} {c : Code} {Q : State → Prop} (C : CT G p s m meth c args cX2_fill 5 RX2) (hr : meth.sig.returnType = none) (n : Nat) (v3 : Int32) : ∀ (k : Nat) (v4 : Int32) (s0 : ST) (e1 : ST), X2_fill_a17_a10_L1 n v3 k v4 s0 = some e1 → Kn G p e rm_X2_fill_a17_a10 s m args below meth c Q 5 51 [] (wX G e1) → Kn G p e rm_X2_fill_a17_a10 s m args below meth c Q 5 11 [(0, .ref (gad G 9)), (1, .ref (gad G 17)), (2, .ref (gad G 10)), (3, .int v3), (4, .int v4)] (wX G s0) := by
  have hx := C.1
  have hb := C.2.1
  intro k
  induction k with
  | zero =>
    intro v4 s0 e1 h
    exact nso h
  | succ k ih =>
    intro v4 s0 e1 h hk H locs ls B hl
    have h : X2_fill_a17_a10_L1_b n v3 (X2_fill_a17_a10_L1 n v3 k) v4 s0 = some e1 := h
    unfold X2_fill_a17_a10_L1_b at h
    refine lv_iload hx hb dX2_fill_11 (lv_at hl 4 rfl) ?_
    refine lv_iload_n hx hb dX2_fill_13 rfl (lv_at hl 3 rfl) ?_
    refine lv_icmp_gt (tgt := 51) hx hb dX2_fill_14 (by decide) (fun q3 => ?_) (fun q3 => ?_)
    · have h := ip h q3
      obtain rfl := ret1 h
      exact hk H locs ls B (lv_sub hl [] rfl)
    · have h := ig h q3
      refine lv_aload_n hx hb dX2_fill_17 rfl (lv_at hl 1 rfl) ?_
      refine lv_iload hx hb dX2_fill_18 (lv_at hl 4 rfl) ?_
      refine lv_aload_n hx hb dX2_fill_20 rfl (lv_at hl 2 rfl) ?_
      refine lv_iload hx hb dX2_fill_21 (lv_at hl 4 rfl) ?_
      obtain ⟨r5, q4, h⟩ := bd_o h
      refine r_callVi (rest := [.int v4, .ref (gad G 17)]) C B hl (c_X1_holds_10 G s0 v4 r5 q4) cs_X2_75 (cX_10 G s0) rfl rfl rfl (Nat.le_of_ble_eq_true rfl) ⟨rfl, rfl, Nat.le_of_ble_eq_true rfl, Nat.le_of_ble_eq_true rfl⟩ dX2_fill_23 (fun H locs B => ?_)
      refine lv_if_eq (tgt := 37) hx hb dX2_fill_26 (by decide) (fun q6 => ?_) (fun q6 => ?_)
      · have h := ip h q6
        refine lv_aload_n hx hb dX2_fill_37 rfl (lv_at hl 0 rfl) ?_
        refine lv_aload_n hx hb dX2_fill_38 rfl (lv_at hl 1 rfl) ?_
        refine lv_iload hx hb dX2_fill_39 (lv_at hl 4 rfl) ?_
        obtain ⟨r8, q7, h⟩ := bd_o h
        refine r_callVi (rest := [.int v4, .ref (gad G 17)]) C B hl (c_X2_greatestWithin_a17 G n s0 v4 r8 q7) cs_X2_85 (cX_9 G s0) rfl rfl rfl (Nat.le_of_ble_eq_true rfl) ⟨rfl, rfl, Nat.le_of_ble_eq_true rfl, Nat.le_of_ble_eq_true rfl⟩ dX2_fill_41 (fun H locs B => ?_)
        obtain ⟨q9, h⟩ := gd_o h
        obtain ⟨s10, q11, h⟩ := nm_o h
        refine r_iast C B (cX_17 G s0) (inb_vp q9) ((uXa_7 G s0 _).trans (congrArg (wX G) q11.symm)) dX2_fill_44 (fun H locs B => ?_)
        obtain ⟨v4_12, q13, h⟩ := nm_o h
        refine lv_iinc (v := v4_12) (lv' := [(4, .int v4_12), (0, .ref (gad G 9)), (1, .ref (gad G 17)), (2, .ref (gad G 10)), (3, .int v3)]) hx hb dX2_fill_45 hl (k := 4) rfl q13.symm (by decide) rfl (fun ls hl => ?_)
        refine lv_goto (tgt := 11) hx hb dX2_fill_48 (by decide) ?_
        exact ih v4_12 s10 e1 h hk H locs ls B (lv_sub hl [1, 2, 3, 4, 0] rfl)
      · have h := ig h q6
        refine lv_iload hx hb dX2_fill_29 (lv_at hl 4 rfl) ?_
        obtain ⟨r14, q15, h⟩ := bd_o h
        refine r_callSi (rest := [.int v4, .ref (gad G 17)]) C B.2.2 hl (c_J6_bitCount G v4 r14 q15) cs_X2_79 rfl rfl (Nat.le_of_ble_eq_true rfl) ⟨rfl, rfl, Nat.le_of_ble_eq_true rfl, Nat.le_of_ble_eq_true rfl⟩ dX2_fill_31 ?_
        refine lv_goto (tgt := 44) hx hb dX2_fill_34 (by decide) ?_
        obtain ⟨q16, h⟩ := gd_o h
        obtain ⟨s17, q18, h⟩ := nm_o h
        refine r_iast C B (cX_17 G s0) (inb_vp q16) ((uXa_7 G s0 _).trans (congrArg (wX G) q18.symm)) dX2_fill_44 (fun H locs B => ?_)
        obtain ⟨v4_19, q20, h⟩ := nm_o h
        refine lv_iinc (v := v4_19) (lv' := [(4, .int v4_19), (0, .ref (gad G 9)), (1, .ref (gad G 17)), (2, .ref (gad G 10)), (3, .int v3)]) hx hb dX2_fill_45 hl (k := 4) rfl q20.symm (by decide) rfl (fun ls hl => ?_)
        refine lv_goto (tgt := 11) hx hb dX2_fill_48 (by decide) ?_
        exact ih v4_19 s17 e1 h hk H locs ls B (lv_sub hl [1, 2, 3, 4, 0] rfl)
set_option maxRecDepth 100000 in
set_option maxHeartbeats 4000000 in
theorem c_X2_fill_a17_a10 (G : GT) (n : Nat) (s0 : ST)  (s' : ST) (h : X2_fill_a17_a10 n s0  = some s') : Con G yX2_fill cX2_fill 5 none rm_X2_fill_a17_a10 [.ref (gad G 9), .ref (gad G 17), .ref (gad G 10)] (wX G s0) none (wX G s') := by
  unfold X2_fill_a17_a10 at h
  refine con_of (by decide +kernel) (Nat.le_of_ble_eq_true rfl) (fun {p e s m below meth c} C hr {H locs ls} B hl => ?_)
  have hx := C.1
  have hb := C.2.1
  have hl : lv_has ls 5 [(0, .ref (gad G 9)), (1, .ref (gad G 17)), (2, .ref (gad G 10))] := hl
  refine lv_aload_n hx hb dX2_fill_0 rfl (lv_at hl 0 rfl) ?_
  refine r_get C B fo_X2_32 (cX_9 G s0) rfl dX2_fill_1 ?_
  obtain ⟨r2, q1, h⟩ := bd_o h
  refine r_callVi (rest := []) C B hl (c_X4_all G s0 r2 q1) cs_X2_71 (cX_1 G s0) rfl rfl rfl (Nat.le_of_ble_eq_true rfl) ⟨rfl, rfl, Nat.le_of_ble_eq_true rfl, Nat.le_of_ble_eq_true rfl⟩ dX2_fill_4 (fun H locs B => ?_)
  refine lv_istore_n (lv' := [(3, .int r2), (0, .ref (gad G 9)), (1, .ref (gad G 17)), (2, .ref (gad G 10))]) hx hb dX2_fill_7 rfl hl (by decide) rfl (fun ls hl => ?_)
  refine lv_iconst (v := (0 : Int32)) hx hb dX2_fill_8 rfl ?_
  refine lv_istore (lv' := [(4, .int (0 : Int32)), (3, .int r2), (0, .ref (gad G 9)), (1, .ref (gad G 17)), (2, .ref (gad G 10))]) hx hb dX2_fill_9 hl (by decide) rfl (fun ls hl => ?_)
  obtain ⟨e21, q22, h⟩ := bd_o h
  refine l_X2_fill_a17_a10_L1 C hr n r2 n (0 : Int32) s0 e21 q22 ?_ H locs ls B (lv_sub hl [2, 3, 4, 1, 0] rfl)
  intro H locs ls B hl
  obtain rfl := ret1 h
  exact r_vret C B hr dX2_fill_51
def rm_X2_refresh : Room := { frames := 3, cells := 0, slots := 0, locals := 69 }
set_option maxRecDepth 100000 in
set_option maxHeartbeats 4000000 in
theorem l_X2_refresh_L1 {G : GT} {p : Program} {e : Env} {s : State} {m : MethodId} {args : Array Value} {below : List Frame} {meth : Method} {c : Code} {Q : State → Prop} (C : CT G p s m meth c args cX2_refresh 2 RX2) (hr : meth.sig.returnType = none) (n : Nat) : ∀ (k : Nat) (v1 : Int32) (s0 : ST) (e1 : ST), X2_refresh_L1 n k v1 s0 = some e1 → Kn G p e rm_X2_refresh s m args below meth c Q 2 75 [(0, .ref (gad G 9))] (wX G e1) → Kn G p e rm_X2_refresh s m args below meth c Q 2 24 [(0, .ref (gad G 9)), (1, .int v1)] (wX G s0) := by
  have hx := C.1
  have hb := C.2.1
  intro k
  induction k with
  | zero =>
    intro v1 s0 e1 h
    exact nso h
  | succ k ih =>
    intro v1 s0 e1 h hk H locs ls B hl
    have h : X2_refresh_L1_b n (X2_refresh_L1 n k) v1 s0 = some e1 := h
    unfold X2_refresh_L1_b at h
    refine lv_iload_n hx hb dX2_refresh_24 rfl (lv_at hl 1 rfl) ?_
    refine lv_aload_n hx hb dX2_refresh_25 rfl (lv_at hl 0 rfl) ?_
    refine r_get C B fo_X2_32 (cX_9 G s0) rfl dX2_refresh_26 ?_
    refine r_get C B fo_X2_44 (cX_1 G s0) rfl dX2_refresh_29 ?_
    refine lv_icmp_ge (tgt := 75) hx hb dX2_refresh_32 (by decide) (fun q4 => ?_) (fun q4 => ?_)
    · have h := ip h q4
      obtain rfl := ret1 h
      exact hk H locs ls B (lv_sub hl [0] rfl)
    · have h := ig h q4
      refine lv_aload_n hx hb dX2_refresh_35 rfl (lv_at hl 0 rfl) ?_
      refine r_get C B fo_X2_32 (cX_9 G s0) rfl dX2_refresh_36 ?_
      refine r_get C B fo_X2_47 (cX_1 G s0) rfl dX2_refresh_39 ?_
      refine lv_iload_n hx hb dX2_refresh_42 rfl (lv_at hl 1 rfl) ?_
      obtain ⟨r5, q6, h⟩ := bd_o h
      refine r_callSNi (rest := []) C B.2.2 hl (c_X6_has G (s0.1 2) v1 r5 q6) cs_X2_50 rfl rfl (Nat.le_of_ble_eq_true rfl) ⟨rfl, rfl, Nat.le_of_ble_eq_true rfl, Nat.le_of_ble_eq_true rfl⟩ dX2_refresh_43 ?_
      refine lv_if_ne (tgt := 69) hx hb dX2_refresh_46 (by decide) (fun q7 => ?_) (fun q7 => ?_)
      · have h := ig h q7
        obtain ⟨v1_8, q9, h⟩ := nm_o h
        refine lv_iinc (v := v1_8) (lv' := [(1, .int v1_8), (0, .ref (gad G 9))]) hx hb dX2_refresh_69 hl (k := 1) rfl q9.symm (by decide) rfl (fun ls hl => ?_)
        refine lv_goto (tgt := 24) hx hb dX2_refresh_72 (by decide) ?_
        exact ih v1_8 s0 e1 h hk H locs ls B (lv_sub hl [1, 0] rfl)
      · have h := ip h q7
        refine lv_aload_n hx hb dX2_refresh_49 rfl (lv_at hl 0 rfl) ?_
        refine r_get C B fo_X2_18 (cX_9 G s0) rfl dX2_refresh_50 ?_
        refine lv_aload_n hx hb dX2_refresh_53 rfl (lv_at hl 0 rfl) ?_
        refine r_get C B fo_X2_32 (cX_9 G s0) rfl dX2_refresh_54 ?_
        refine r_get C B fo_X2_54 (cX_1 G s0) rfl dX2_refresh_57 ?_
        refine lv_iload_n hx hb dX2_refresh_60 rfl (lv_at hl 1 rfl) ?_
        obtain ⟨q10, h⟩ := gd_o h
        refine r_iald C B (cX_2 G s0) (inb_vp q10) dX2_refresh_61 ?_
        refine lv_iconst (v := (1 : Int32)) hx hb dX2_refresh_62 rfl ?_
        refine lv_iload_n hx hb dX2_refresh_63 rfl (lv_at hl 1 rfl) ?_
        refine lv_ishl hx hb dX2_refresh_64 ?_
        refine lv_ior hx hb dX2_refresh_65 ?_
        obtain ⟨s12, q11, h⟩ := bd_o h
        refine r_callVv (rest := []) C B hl (c_X1_join_13 G n s0 ((s0.2.1 0 (v1).toNatClampNeg) ||| ((1 : Int32) <<< (v1 &&& 31))) s12 q11) cs_X2_57 (cX_13 G s0) rfl rfl rfl (Nat.le_of_ble_eq_true rfl) ⟨rfl, rfl, Nat.le_of_ble_eq_true rfl, Nat.le_of_ble_eq_true rfl⟩ dX2_refresh_66 (fun H locs B => ?_)
        obtain ⟨v1_13, q14, h⟩ := nm_o h
        refine lv_iinc (v := v1_13) (lv' := [(1, .int v1_13), (0, .ref (gad G 9))]) hx hb dX2_refresh_69 hl (k := 1) rfl q14.symm (by decide) rfl (fun ls hl => ?_)
        refine lv_goto (tgt := 24) hx hb dX2_refresh_72 (by decide) ?_
        exact ih v1_13 s12 e1 h hk H locs ls B (lv_sub hl [1, 0] rfl)
set_option maxRecDepth 100000 in
set_option maxHeartbeats 4000000 in
theorem l_X2_refresh_L2 {G : GT} {p : Program} {e : Env} {s : State} {m : MethodId} {args : Array Value} {below : List Frame} {meth : Method} {c : Code} {Q : State → Prop} (C : CT G p s m meth c args cX2_refresh 2 RX2) (hr : meth.sig.returnType = none) (n : Nat) : ∀ (k : Nat) (v1 : Int32) (s0 : ST) (e1 : ST), X2_refresh_L2 n k v1 s0 = some e1 → Kn G p e rm_X2_refresh s m args below meth c Q 2 129 [(0, .ref (gad G 9))] (wX G e1) → Kn G p e rm_X2_refresh s m args below meth c Q 2 96 [(0, .ref (gad G 9)), (1, .int v1)] (wX G s0) := by
  have hx := C.1
  have hb := C.2.1
  intro k
  induction k with
  | zero =>
    intro v1 s0 e1 h
    exact nso h
  | succ k ih =>
    intro v1 s0 e1 h hk H locs ls B hl
    have h : X2_refresh_L2_b n (X2_refresh_L2 n k) v1 s0 = some e1 := h
    unfold X2_refresh_L2_b at h
    refine lv_iload_n hx hb dX2_refresh_96 rfl (lv_at hl 1 rfl) ?_
    refine lv_aload_n hx hb dX2_refresh_97 rfl (lv_at hl 0 rfl) ?_
    refine r_get C B fo_X2_32 (cX_9 G s0) rfl dX2_refresh_98 ?_
    refine r_get C B fo_X2_65 (cX_1 G s0) rfl dX2_refresh_101 ?_
    refine lv_icmp_ge (tgt := 129) hx hb dX2_refresh_104 (by decide) (fun q21 => ?_) (fun q21 => ?_)
    · have h := ip h q21
      obtain rfl := ret1 h
      exact hk H locs ls B (lv_sub hl [0] rfl)
    · have h := ig h q21
      refine lv_aload_n hx hb dX2_refresh_107 rfl (lv_at hl 0 rfl) ?_
      refine r_get C B fo_X2_12 (cX_9 G s0) rfl dX2_refresh_108 ?_
      refine lv_aload_n hx hb dX2_refresh_111 rfl (lv_at hl 0 rfl) ?_
      refine r_get C B fo_X2_32 (cX_9 G s0) rfl dX2_refresh_112 ?_
      refine r_get C B fo_X2_68 (cX_1 G s0) rfl dX2_refresh_115 ?_
      refine lv_iload_n hx hb dX2_refresh_118 rfl (lv_at hl 1 rfl) ?_
      obtain ⟨q22, h⟩ := gd_o h
      refine r_iald C B (cX_4 G s0) (inb_vp q22) dX2_refresh_119 ?_
      obtain ⟨s24, q23, h⟩ := bd_o h
      refine r_callVv (rest := []) C B hl (c_X1_join_10 G n s0 (s0.2.1 2 (v1).toNatClampNeg) s24 q23) cs_X2_57 (cX_10 G s0) rfl rfl rfl (Nat.le_of_ble_eq_true rfl) ⟨rfl, rfl, Nat.le_of_ble_eq_true rfl, Nat.le_of_ble_eq_true rfl⟩ dX2_refresh_120 (fun H locs B => ?_)
      obtain ⟨v1_25, q26, h⟩ := nm_o h
      refine lv_iinc (v := v1_25) (lv' := [(1, .int v1_25), (0, .ref (gad G 9))]) hx hb dX2_refresh_123 hl (k := 1) rfl q26.symm (by decide) rfl (fun ls hl => ?_)
      refine lv_goto (tgt := 96) hx hb dX2_refresh_126 (by decide) ?_
      exact ih v1_25 s24 e1 h hk H locs ls B (lv_sub hl [1, 0] rfl)
set_option maxRecDepth 100000 in
set_option maxHeartbeats 4000000 in
theorem c_X2_refresh (G : GT) (n : Nat) (s0 : ST)  (s' : ST) (h : X2_refresh n s0  = some s') : Con G yX2_refresh cX2_refresh 2 none rm_X2_refresh [.ref (gad G 9)] (wX G s0) none (wX G s') := by
  unfold X2_refresh at h
  refine con_of (by decide +kernel) (Nat.le_of_ble_eq_true rfl) (fun {p e s m below meth c} C hr {H locs ls} B hl => ?_)
  have hx := C.1
  have hb := C.2.1
  have hl : lv_has ls 2 [(0, .ref (gad G 9))] := hl
  refine lv_aload_n hx hb dX2_refresh_0 rfl (lv_at hl 0 rfl) ?_
  refine r_get C B fo_X2_28 (cX_9 G s0) rfl dX2_refresh_1 ?_
  refine lv_aload_n hx hb dX2_refresh_4 rfl (lv_at hl 0 rfl) ?_
  refine r_get C B fo_X2_32 (cX_9 G s0) rfl dX2_refresh_5 ?_
  refine r_get C B fo_X2_36 (cX_1 G s0) rfl dX2_refresh_8 ?_
  refine lv_icmp_ne (tgt := 15) hx hb dX2_refresh_11 (by decide) (fun q1 => ?_) (fun q1 => ?_)
  · have h := ig h q1
    refine lv_aload_n hx hb dX2_refresh_15 rfl (lv_at hl 0 rfl) ?_
    refine r_get C B fo_X2_18 (cX_9 G s0) rfl dX2_refresh_16 ?_
    obtain ⟨s3, q2, h⟩ := bd_o h
    refine r_callVv (rest := []) C B hl (c_X1_begin_13 G n s0 s3 q2) cs_X2_41 (cX_13 G s0) rfl rfl rfl (Nat.le_of_ble_eq_true rfl) ⟨rfl, rfl, Nat.le_of_ble_eq_true rfl, Nat.le_of_ble_eq_true rfl⟩ dX2_refresh_19 (fun H locs B => ?_)
    refine lv_iconst (v := (0 : Int32)) hx hb dX2_refresh_22 rfl ?_
    refine lv_istore_n (lv' := [(1, .int (0 : Int32)), (0, .ref (gad G 9))]) hx hb dX2_refresh_23 rfl hl (by decide) rfl (fun ls hl => ?_)
    obtain ⟨e15, q16, h⟩ := bd_o h
    refine l_X2_refresh_L1 C hr n n (0 : Int32) s3 e15 q16 ?_ H locs ls B (lv_sub hl [1, 0] rfl)
    intro H locs ls B hl
    refine lv_aload_n hx hb dX2_refresh_75 rfl (lv_at hl 0 rfl) ?_
    refine lv_aload_n hx hb dX2_refresh_76 rfl (lv_at hl 0 rfl) ?_
    refine r_get C B fo_X2_21 (cX_9 G e15) rfl dX2_refresh_77 ?_
    refine lv_aload_n hx hb dX2_refresh_80 rfl (lv_at hl 0 rfl) ?_
    refine r_get C B fo_X2_18 (cX_9 G e15) rfl dX2_refresh_81 ?_
    obtain ⟨s18, q17, h⟩ := bd_o h
    refine r_callVv (rest := []) C B hl (c_X2_fill_a16_a13 G n e15 s18 q17) cs_X2_61 (cX_9 G e15) rfl rfl rfl (Nat.le_of_ble_eq_true rfl) ⟨rfl, rfl, Nat.le_of_ble_eq_true rfl, Nat.le_of_ble_eq_true rfl⟩ dX2_refresh_84 (fun H locs B => ?_)
    refine lv_aload_n hx hb dX2_refresh_87 rfl (lv_at hl 0 rfl) ?_
    refine r_get C B fo_X2_12 (cX_9 G s18) rfl dX2_refresh_88 ?_
    obtain ⟨s20, q19, h⟩ := bd_o h
    refine r_callVv (rest := []) C B hl (c_X1_begin_10 G n s18 s20 q19) cs_X2_41 (cX_10 G s18) rfl rfl rfl (Nat.le_of_ble_eq_true rfl) ⟨rfl, rfl, Nat.le_of_ble_eq_true rfl, Nat.le_of_ble_eq_true rfl⟩ dX2_refresh_91 (fun H locs B => ?_)
    refine lv_iconst (v := (0 : Int32)) hx hb dX2_refresh_94 rfl ?_
    refine lv_istore_n (lv' := [(1, .int (0 : Int32)), (0, .ref (gad G 9))]) hx hb dX2_refresh_95 rfl hl (by decide) rfl (fun ls hl => ?_)
    obtain ⟨e27, q28, h⟩ := bd_o h
    refine l_X2_refresh_L2 C hr n n (0 : Int32) s20 e27 q28 ?_ H locs ls B (lv_sub hl [1, 0] rfl)
    intro H locs ls B hl
    refine lv_aload_n hx hb dX2_refresh_129 rfl (lv_at hl 0 rfl) ?_
    refine lv_aload_n hx hb dX2_refresh_130 rfl (lv_at hl 0 rfl) ?_
    refine r_get C B fo_X2_25 (cX_9 G e27) rfl dX2_refresh_131 ?_
    refine lv_aload_n hx hb dX2_refresh_134 rfl (lv_at hl 0 rfl) ?_
    refine r_get C B fo_X2_12 (cX_9 G e27) rfl dX2_refresh_135 ?_
    obtain ⟨s30, q29, h⟩ := bd_o h
    refine r_callVv (rest := []) C B hl (c_X2_fill_a17_a10 G n e27 s30 q29) cs_X2_61 (cX_9 G e27) rfl rfl rfl (Nat.le_of_ble_eq_true rfl) ⟨rfl, rfl, Nat.le_of_ble_eq_true rfl, Nat.le_of_ble_eq_true rfl⟩ dX2_refresh_138 (fun H locs B => ?_)
    refine lv_aload_n hx hb dX2_refresh_141 rfl (lv_at hl 0 rfl) ?_
    refine lv_aload_n hx hb dX2_refresh_142 rfl (lv_at hl 0 rfl) ?_
    refine r_get C B fo_X2_32 (cX_9 G s30) rfl dX2_refresh_143 ?_
    refine r_get C B fo_X2_36 (cX_1 G s30) rfl dX2_refresh_146 ?_
    obtain ⟨s31, q32, h⟩ := nm_o h
    refine r_put C B fp_X2_28 (cX_9 G s30) (Nat.le_of_ble_eq_true rfl) rfl rfl ((uXs_9 G s30 _).trans (congrArg (wX G) q32.symm)) dX2_refresh_149 (fun H locs B => ?_)
    obtain rfl := ret1 h
    exact r_vret C B hr dX2_refresh_152
  · have h := ip h q1
    obtain rfl := ret1 h
    exact r_vret C B hr dX2_refresh_14
def rm_X6_freshRanks : Room := { frames := 4, cells := 0, slots := 0, locals := 90 }
set_option maxRecDepth 100000 in
set_option maxHeartbeats 4000000 in
theorem c_X6_freshRanks (G : GT) (n : Nat) (s0 : ST)  (s' : ST) (h : X6_freshRanks n s0  = some s') : Con G yX6_freshRanks cX6_freshRanks 1 (some (.object "RoadLinks$Ranks")) rm_X6_freshRanks [.ref (gad G 0)] (wX G s0) (some (.ref (gad G 9))) (wX G s') := by
  unfold X6_freshRanks at h
  refine con_of (by decide +kernel) (Nat.le_of_ble_eq_true rfl) (fun {p e s m below meth c} C hr {H locs ls} B hl => ?_)
  have hx := C.1
  have hb := C.2.1
  have hl : lv_has ls 1 [(0, .ref (gad G 0))] := hl
  refine lv_aload_n hx hb dX6_freshRanks_0 rfl (lv_at hl 0 rfl) ?_
  refine r_get C B fo_X6_28 (cX_0 G s0) rfl dX6_freshRanks_1 ?_
  obtain ⟨s2, q1, h⟩ := bd_o h
  refine r_callVv (rest := []) C B hl (c_X2_refresh G n s0 s2 q1) cs_X6_258 (cX_9 G s0) rfl rfl rfl (Nat.le_of_ble_eq_true rfl) ⟨rfl, rfl, Nat.le_of_ble_eq_true rfl, Nat.le_of_ble_eq_true rfl⟩ dX6_freshRanks_4 (fun H locs B => ?_)
  refine lv_aload_n hx hb dX6_freshRanks_7 rfl (lv_at hl 0 rfl) ?_
  refine r_get C B fo_X6_28 (cX_0 G s2) rfl dX6_freshRanks_8 ?_
  obtain rfl := ret1 h
  exact r_aret C B hr dX6_freshRanks_11
def rm_X2_of : Room := { frames := 1, cells := 0, slots := 0, locals := 20 }
set_option maxRecDepth 100000 in
set_option maxHeartbeats 4000000 in
theorem c_X2_of (G : GT) (s0 : ST) (v1 : Int32) (v2 : Int32) (r : Int32) (h : X2_of s0 v1 v2 = some r) : Con G yX2_of cX2_of 5 (some .int) rm_X2_of [.ref (gad G 9), .int v1, .int v2] (wX G s0) (some (.int r)) (wX G s0) := by
  unfold X2_of at h
  refine con_of (by decide +kernel) (Nat.le_of_ble_eq_true rfl) (fun {p e s m below meth c} C hr {H locs ls} B hl => ?_)
  have hx := C.1
  have hb := C.2.1
  have hl : lv_has ls 5 [(0, .ref (gad G 9)), (1, .int v1), (2, .int v2)] := hl
  refine lv_iload_n hx hb dX2_of_0 rfl (lv_at hl 1 rfl) ?_
  refine lv_if_eq (tgt := 9) hx hb dX2_of_1 (by decide) (fun q1 => ?_) (fun q1 => ?_)
  · have h := ip h q1
    refine lv_aload_n hx hb dX2_of_9 rfl (lv_at hl 0 rfl) ?_
    refine r_get C B fo_X2_21 (cX_9 G s0) rfl dX2_of_10 ?_
    refine lv_goto (tgt := 20) hx hb dX2_of_13 (by decide) ?_
    refine lv_astore_n (lv' := [(3, .ref (gad G 16)), (0, .ref (gad G 9)), (1, .int v1), (2, .int v2)]) hx hb dX2_of_20 rfl hl (by decide) rfl (fun ls hl => ?_)
    refine lv_iload_n hx hb dX2_of_21 rfl (lv_at hl 2 rfl) ?_
    refine lv_iconst (v := (1 : Int32)) hx hb dX2_of_22 rfl ?_
    refine lv_icmp_eq (tgt := 31) hx hb dX2_of_23 (by decide) (fun q2 => ?_) (fun q2 => ?_)
    · have h := ip h q2
      refine lv_aload_n hx hb dX2_of_31 rfl (lv_at hl 0 rfl) ?_
      refine lv_iload_n hx hb dX2_of_32 rfl (lv_at hl 3 rfl) ?_
      obtain ⟨q3, h⟩ := gd_o h
      refine r_iald C B (cX_16 G s0) (inb_vp q3) dX2_of_33 ?_
      obtain rfl := ret1 h
      exact r_iret C B hr rfl dX2_of_34
    · have h := ig h q2
      refine lv_iload_n hx hb dX2_of_26 rfl (lv_at hl 2 rfl) ?_
      refine lv_iconst (v := (2 : Int32)) hx hb dX2_of_27 rfl ?_
      refine lv_icmp_ne (tgt := 35) hx hb dX2_of_28 (by decide) (fun q4 => ?_) (fun q4 => ?_)
      · have h := ig h q4
        refine lv_aload_n hx hb dX2_of_35 rfl (lv_at hl 1 rfl) ?_
        refine r_get C B fo_X2_32 (cX_9 G s0) rfl dX2_of_36 ?_
        obtain ⟨r6, q5, h⟩ := bd_o h
        refine r_callVi (rest := []) C B hl (c_X4_all G s0 r6 q5) cs_X2_71 (cX_1 G s0) rfl rfl rfl (Nat.le_of_ble_eq_true rfl) ⟨rfl, rfl, Nat.le_of_ble_eq_true rfl, Nat.le_of_ble_eq_true rfl⟩ dX2_of_39 (fun H locs B => ?_)
        refine lv_istore (lv' := [(4, .int r6), (3, .ref (gad G 16)), (0, .ref (gad G 9)), (1, .int v1), (2, .int v2)]) hx hb dX2_of_42 hl (by decide) rfl (fun ls hl => ?_)
        refine lv_iload_n hx hb dX2_of_44 rfl (lv_at hl 4 rfl) ?_
        obtain ⟨r7, q8, h⟩ := bd_o h
        refine r_callSi (rest := []) C B.2.2 hl (c_J6_bitCount G v2 r7 q8) cs_X2_79 rfl rfl (Nat.le_of_ble_eq_true rfl) ⟨rfl, rfl, Nat.le_of_ble_eq_true rfl, Nat.le_of_ble_eq_true rfl⟩ dX2_of_45 ?_
        refine lv_aload_n hx hb dX2_of_48 rfl (lv_at hl 1 rfl) ?_
        refine lv_iload hx hb dX2_of_49 (lv_at hl 0 rfl) ?_
        refine lv_iload_n hx hb dX2_of_51 rfl (lv_at hl 4 rfl) ?_
        refine lv_iconst (v := (-1 : Int32)) hx hb dX2_of_52 rfl ?_
        refine lv_ixor hx hb dX2_of_53 ?_
        refine lv_iand hx hb dX2_of_54 ?_
        obtain ⟨q9, h⟩ := gd_o h
        refine r_iald C B (cX_16 G s0) (inb_vp q9) dX2_of_55 ?_
        refine lv_iadd hx hb dX2_of_56 ?_
        refine lv_aload_n hx hb dX2_of_57 rfl (lv_at hl 1 rfl) ?_
        refine lv_iload hx hb dX2_of_58 (lv_at hl 0 rfl) ?_
        obtain ⟨q10, h⟩ := gd_o h
        refine r_iald C B (cX_16 G s0) (inb_vp q10) dX2_of_60 ?_
        refine lv_isub hx hb dX2_of_61 ?_
        obtain rfl := ret1 h
        exact r_iret C B hr rfl dX2_of_62
      · have h := ip h q4
        refine lv_aload_n hx hb dX2_of_31 rfl (lv_at hl 0 rfl) ?_
        refine lv_iload_n hx hb dX2_of_32 rfl (lv_at hl 3 rfl) ?_
        obtain ⟨q11, h⟩ := gd_o h
        refine r_iald C B (cX_16 G s0) (inb_vp q11) dX2_of_33 ?_
        obtain rfl := ret1 h
        exact r_iret C B hr rfl dX2_of_34
  · have h := ig h q1
    refine lv_iload_n hx hb dX2_of_4 rfl (lv_at hl 1 rfl) ?_
    refine lv_iconst (v := (2 : Int32)) hx hb dX2_of_5 rfl ?_
    refine lv_icmp_ne (tgt := 16) hx hb dX2_of_6 (by decide) (fun q12 => ?_) (fun q12 => ?_)
    · have h := ig h q12
      refine lv_aload_n hx hb dX2_of_16 rfl (lv_at hl 0 rfl) ?_
      refine r_get C B fo_X2_25 (cX_9 G s0) rfl dX2_of_17 ?_
      refine lv_astore_n (lv' := [(3, .ref (gad G 17)), (0, .ref (gad G 9)), (1, .int v1), (2, .int v2)]) hx hb dX2_of_20 rfl hl (by decide) rfl (fun ls hl => ?_)
      refine lv_iload_n hx hb dX2_of_21 rfl (lv_at hl 2 rfl) ?_
      refine lv_iconst (v := (1 : Int32)) hx hb dX2_of_22 rfl ?_
      refine lv_icmp_eq (tgt := 31) hx hb dX2_of_23 (by decide) (fun q13 => ?_) (fun q13 => ?_)
      · have h := ip h q13
        refine lv_aload_n hx hb dX2_of_31 rfl (lv_at hl 0 rfl) ?_
        refine lv_iload_n hx hb dX2_of_32 rfl (lv_at hl 3 rfl) ?_
        obtain ⟨q14, h⟩ := gd_o h
        refine r_iald C B (cX_17 G s0) (inb_vp q14) dX2_of_33 ?_
        obtain rfl := ret1 h
        exact r_iret C B hr rfl dX2_of_34
      · have h := ig h q13
        refine lv_iload_n hx hb dX2_of_26 rfl (lv_at hl 2 rfl) ?_
        refine lv_iconst (v := (2 : Int32)) hx hb dX2_of_27 rfl ?_
        refine lv_icmp_ne (tgt := 35) hx hb dX2_of_28 (by decide) (fun q15 => ?_) (fun q15 => ?_)
        · have h := ig h q15
          refine lv_aload_n hx hb dX2_of_35 rfl (lv_at hl 1 rfl) ?_
          refine r_get C B fo_X2_32 (cX_9 G s0) rfl dX2_of_36 ?_
          obtain ⟨r17, q16, h⟩ := bd_o h
          refine r_callVi (rest := []) C B hl (c_X4_all G s0 r17 q16) cs_X2_71 (cX_1 G s0) rfl rfl rfl (Nat.le_of_ble_eq_true rfl) ⟨rfl, rfl, Nat.le_of_ble_eq_true rfl, Nat.le_of_ble_eq_true rfl⟩ dX2_of_39 (fun H locs B => ?_)
          refine lv_istore (lv' := [(4, .int r17), (3, .ref (gad G 17)), (0, .ref (gad G 9)), (1, .int v1), (2, .int v2)]) hx hb dX2_of_42 hl (by decide) rfl (fun ls hl => ?_)
          refine lv_iload_n hx hb dX2_of_44 rfl (lv_at hl 4 rfl) ?_
          obtain ⟨r18, q19, h⟩ := bd_o h
          refine r_callSi (rest := []) C B.2.2 hl (c_J6_bitCount G v2 r18 q19) cs_X2_79 rfl rfl (Nat.le_of_ble_eq_true rfl) ⟨rfl, rfl, Nat.le_of_ble_eq_true rfl, Nat.le_of_ble_eq_true rfl⟩ dX2_of_45 ?_
          refine lv_aload_n hx hb dX2_of_48 rfl (lv_at hl 1 rfl) ?_
          refine lv_iload hx hb dX2_of_49 (lv_at hl 0 rfl) ?_
          refine lv_iload_n hx hb dX2_of_51 rfl (lv_at hl 4 rfl) ?_
          refine lv_iconst (v := (-1 : Int32)) hx hb dX2_of_52 rfl ?_
          refine lv_ixor hx hb dX2_of_53 ?_
          refine lv_iand hx hb dX2_of_54 ?_
          obtain ⟨q20, h⟩ := gd_o h
          refine r_iald C B (cX_17 G s0) (inb_vp q20) dX2_of_55 ?_
          refine lv_iadd hx hb dX2_of_56 ?_
          refine lv_aload_n hx hb dX2_of_57 rfl (lv_at hl 1 rfl) ?_
          refine lv_iload hx hb dX2_of_58 (lv_at hl 0 rfl) ?_
          obtain ⟨q21, h⟩ := gd_o h
          refine r_iald C B (cX_17 G s0) (inb_vp q21) dX2_of_60 ?_
          refine lv_isub hx hb dX2_of_61 ?_
          obtain rfl := ret1 h
          exact r_iret C B hr rfl dX2_of_62
        · have h := ip h q15
          refine lv_aload_n hx hb dX2_of_31 rfl (lv_at hl 0 rfl) ?_
          refine lv_iload_n hx hb dX2_of_32 rfl (lv_at hl 3 rfl) ?_
          obtain ⟨q22, h⟩ := gd_o h
          refine r_iald C B (cX_17 G s0) (inb_vp q22) dX2_of_33 ?_
          obtain rfl := ret1 h
          exact r_iret C B hr rfl dX2_of_34
    · have h := ip h q12
      refine lv_aload_n hx hb dX2_of_9 rfl (lv_at hl 0 rfl) ?_
      refine r_get C B fo_X2_21 (cX_9 G s0) rfl dX2_of_10 ?_
      refine lv_goto (tgt := 20) hx hb dX2_of_13 (by decide) ?_
      refine lv_astore_n (lv' := [(3, .ref (gad G 16)), (0, .ref (gad G 9)), (1, .int v1), (2, .int v2)]) hx hb dX2_of_20 rfl hl (by decide) rfl (fun ls hl => ?_)
      refine lv_iload_n hx hb dX2_of_21 rfl (lv_at hl 2 rfl) ?_
      refine lv_iconst (v := (1 : Int32)) hx hb dX2_of_22 rfl ?_
      refine lv_icmp_eq (tgt := 31) hx hb dX2_of_23 (by decide) (fun q23 => ?_) (fun q23 => ?_)
      · have h := ip h q23
        refine lv_aload_n hx hb dX2_of_31 rfl (lv_at hl 0 rfl) ?_
        refine lv_iload_n hx hb dX2_of_32 rfl (lv_at hl 3 rfl) ?_
        obtain ⟨q24, h⟩ := gd_o h
        refine r_iald C B (cX_16 G s0) (inb_vp q24) dX2_of_33 ?_
        obtain rfl := ret1 h
        exact r_iret C B hr rfl dX2_of_34
      · have h := ig h q23
        refine lv_iload_n hx hb dX2_of_26 rfl (lv_at hl 2 rfl) ?_
        refine lv_iconst (v := (2 : Int32)) hx hb dX2_of_27 rfl ?_
        refine lv_icmp_ne (tgt := 35) hx hb dX2_of_28 (by decide) (fun q25 => ?_) (fun q25 => ?_)
        · have h := ig h q25
          refine lv_aload_n hx hb dX2_of_35 rfl (lv_at hl 1 rfl) ?_
          refine r_get C B fo_X2_32 (cX_9 G s0) rfl dX2_of_36 ?_
          obtain ⟨r27, q26, h⟩ := bd_o h
          refine r_callVi (rest := []) C B hl (c_X4_all G s0 r27 q26) cs_X2_71 (cX_1 G s0) rfl rfl rfl (Nat.le_of_ble_eq_true rfl) ⟨rfl, rfl, Nat.le_of_ble_eq_true rfl, Nat.le_of_ble_eq_true rfl⟩ dX2_of_39 (fun H locs B => ?_)
          refine lv_istore (lv' := [(4, .int r27), (3, .ref (gad G 16)), (0, .ref (gad G 9)), (1, .int v1), (2, .int v2)]) hx hb dX2_of_42 hl (by decide) rfl (fun ls hl => ?_)
          refine lv_iload_n hx hb dX2_of_44 rfl (lv_at hl 4 rfl) ?_
          obtain ⟨r28, q29, h⟩ := bd_o h
          refine r_callSi (rest := []) C B.2.2 hl (c_J6_bitCount G v2 r28 q29) cs_X2_79 rfl rfl (Nat.le_of_ble_eq_true rfl) ⟨rfl, rfl, Nat.le_of_ble_eq_true rfl, Nat.le_of_ble_eq_true rfl⟩ dX2_of_45 ?_
          refine lv_aload_n hx hb dX2_of_48 rfl (lv_at hl 1 rfl) ?_
          refine lv_iload hx hb dX2_of_49 (lv_at hl 0 rfl) ?_
          refine lv_iload_n hx hb dX2_of_51 rfl (lv_at hl 4 rfl) ?_
          refine lv_iconst (v := (-1 : Int32)) hx hb dX2_of_52 rfl ?_
          refine lv_ixor hx hb dX2_of_53 ?_
          refine lv_iand hx hb dX2_of_54 ?_
          obtain ⟨q30, h⟩ := gd_o h
          refine r_iald C B (cX_16 G s0) (inb_vp q30) dX2_of_55 ?_
          refine lv_iadd hx hb dX2_of_56 ?_
          refine lv_aload_n hx hb dX2_of_57 rfl (lv_at hl 1 rfl) ?_
          refine lv_iload hx hb dX2_of_58 (lv_at hl 0 rfl) ?_
          obtain ⟨q31, h⟩ := gd_o h
          refine r_iald C B (cX_16 G s0) (inb_vp q31) dX2_of_60 ?_
          refine lv_isub hx hb dX2_of_61 ?_
          obtain rfl := ret1 h
          exact r_iret C B hr rfl dX2_of_62
        · have h := ip h q25
          refine lv_aload_n hx hb dX2_of_31 rfl (lv_at hl 0 rfl) ?_
          refine lv_iload_n hx hb dX2_of_32 rfl (lv_at hl 3 rfl) ?_
          obtain ⟨q32, h⟩ := gd_o h
          refine r_iald C B (cX_16 G s0) (inb_vp q32) dX2_of_33 ?_
          obtain rfl := ret1 h
          exact r_iret C B hr rfl dX2_of_34
def rm_X6_rank : Room := { frames := 5, cells := 0, slots := 0, locals := 110 }
set_option maxRecDepth 100000 in
set_option maxHeartbeats 4000000 in
theorem c_X6_rank (G : GT) (n : Nat) (s0 : ST) (v1 : Int32) (v2 : Int32) (r : Int32) (s' : ST) (h : X6_rank n s0 v1 v2 = some (r, s')) : Con G yX6_rank cX6_rank 3 (some .int) rm_X6_rank [.ref (gad G 0), .int v1, .int v2] (wX G s0) (some (.int r)) (wX G s') := by
  unfold X6_rank at h
  refine con_of (by decide +kernel) (Nat.le_of_ble_eq_true rfl) (fun {p e s m below meth c} C hr {H locs ls} B hl => ?_)
  have hx := C.1
  have hb := C.2.1
  have hl : lv_has ls 3 [(0, .ref (gad G 0)), (1, .int v1), (2, .int v2)] := hl
  refine lv_iload_n hx hb dX6_rank_0 rfl (lv_at hl 1 rfl) ?_
  obtain ⟨r1, q2, h⟩ := bd_o h
  refine r_callSi (rest := []) C B.2.2 hl (c_X6_isSide G v1 r1 q2) cs_X6_115 rfl rfl (Nat.le_of_ble_eq_true rfl) ⟨rfl, rfl, Nat.le_of_ble_eq_true rfl, Nat.le_of_ble_eq_true rfl⟩ dX6_rank_1 ?_
  refine lv_if_ne (tgt := 9) hx hb dX6_rank_4 (by decide) (fun q3 => ?_) (fun q3 => ?_)
  · have h := ig h q3
    refine lv_aload_n hx hb dX6_rank_9 rfl (lv_at hl 0 rfl) ?_
    refine r_get C B fo_X6_10 (cX_0 G s0) rfl dX6_rank_10 ?_
    refine lv_iload_n hx hb dX6_rank_13 rfl (lv_at hl 2 rfl) ?_
    obtain ⟨r5, q4, h⟩ := bd_o h
    refine r_callVi (rest := []) C B hl (c_X4_isSet G s0 v2 r5 q4) cs_X6_81 (cX_1 G s0) rfl rfl rfl (Nat.le_of_ble_eq_true rfl) ⟨rfl, rfl, Nat.le_of_ble_eq_true rfl, Nat.le_of_ble_eq_true rfl⟩ dX6_rank_14 (fun H locs B => ?_)
    refine lv_if_ne (tgt := 23) hx hb dX6_rank_17 (by decide) (fun q6 => ?_) (fun q6 => ?_)
    · have h := ig h q6
      refine lv_aload_n hx hb dX6_rank_23 rfl (lv_at hl 0 rfl) ?_
      obtain ⟨s8, q7, h⟩ := bd_o h
      refine r_callVa (rest := []) C B hl (c_X6_freshRanks G n s0 s8 q7) cs_X6_118 (cX_0 G s0) rfl rfl rfl (Nat.le_of_ble_eq_true rfl) ⟨rfl, rfl, Nat.le_of_ble_eq_true rfl, Nat.le_of_ble_eq_true rfl⟩ dX6_rank_24 (fun H locs B => ?_)
      refine lv_iload_n hx hb dX6_rank_27 rfl (lv_at hl 1 rfl) ?_
      refine lv_iload_n hx hb dX6_rank_28 rfl (lv_at hl 2 rfl) ?_
      obtain ⟨r10, q9, h⟩ := bd_o h
      refine r_callVi (rest := []) C B hl (c_X2_of G s8 v1 v2 r10 q9) cs_X6_122 (cX_9 G s8) rfl rfl rfl (Nat.le_of_ble_eq_true rfl) ⟨rfl, rfl, Nat.le_of_ble_eq_true rfl, Nat.le_of_ble_eq_true rfl⟩ dX6_rank_29 (fun H locs B => ?_)
      obtain ⟨rfl, rfl⟩ := ret2 h
      exact r_iret C B hr rfl dX6_rank_32
    · have h := ip h q6
      refine lv_bipush (v := (-2 : Int32)) hx hb dX6_rank_20 rfl ?_
      obtain ⟨rfl, rfl⟩ := ret2 h
      exact r_iret C B hr rfl dX6_rank_22
  · have h := ip h q3
    refine lv_iconst (v := (-1 : Int32)) hx hb dX6_rank_7 rfl ?_
    obtain ⟨rfl, rfl⟩ := ret2 h
    exact r_iret C B hr rfl dX6_rank_8
def rm_X2_isFree : Room := { frames := 2, cells := 0, slots := 0, locals := 44 }
set_option maxRecDepth 100000 in
set_option maxHeartbeats 4000000 in
theorem c_X2_isFree (G : GT) (s0 : ST) (v1 : Int32) (v2 : Int32) (r : Int32) (h : X2_isFree s0 v1 v2 = some r) : Con G yX2_isFree cX2_isFree 3 (some .boolean) rm_X2_isFree [.ref (gad G 9), .int v1, .int v2] (wX G s0) (some (.int r)) (wX G s0) := by
  unfold X2_isFree at h
  refine con_of (by decide +kernel) (Nat.le_of_ble_eq_true rfl) (fun {p e s m below meth c} C hr {H locs ls} B hl => ?_)
  have hx := C.1
  have hb := C.2.1
  have hl : lv_has ls 3 [(0, .ref (gad G 9)), (1, .int v1), (2, .int v2)] := hl
  refine lv_aload_n hx hb dX2_isFree_0 rfl (lv_at hl 0 rfl) ?_
  refine lv_iload_n hx hb dX2_isFree_1 rfl (lv_at hl 1 rfl) ?_
  refine lv_iload_n hx hb dX2_isFree_2 rfl (lv_at hl 2 rfl) ?_
  obtain ⟨r2, q1, h⟩ := bd_o h
  refine r_callVi (rest := []) C B hl (c_X2_of G s0 v1 v2 r2 q1) cs_X2_95 (cX_9 G s0) rfl rfl rfl (Nat.le_of_ble_eq_true rfl) ⟨rfl, rfl, Nat.le_of_ble_eq_true rfl, Nat.le_of_ble_eq_true rfl⟩ dX2_isFree_3 (fun H locs B => ?_)
  refine lv_iload_n hx hb dX2_isFree_6 rfl (lv_at hl 2 rfl) ?_
  obtain ⟨r3, q4, h⟩ := bd_o h
  refine r_callSi (rest := [.int r2]) C B.2.2 hl (c_J6_bitCount G v2 r3 q4) cs_X2_79 rfl rfl (Nat.le_of_ble_eq_true rfl) ⟨rfl, rfl, Nat.le_of_ble_eq_true rfl, Nat.le_of_ble_eq_true rfl⟩ dX2_isFree_7 ?_
  refine lv_icmp_ne (tgt := 17) hx hb dX2_isFree_10 (by decide) (fun q5 => ?_) (fun q5 => ?_)
  · have h := ig h q5
    refine lv_iconst (v := (0 : Int32)) hx hb dX2_isFree_17 rfl ?_
    obtain rfl := ret1 h
    exact r_iret C B hr nar_0 dX2_isFree_18
  · have h := ip h q5
    refine lv_iconst (v := (1 : Int32)) hx hb dX2_isFree_13 rfl ?_
    refine lv_goto (tgt := 18) hx hb dX2_isFree_14 (by decide) ?_
    obtain rfl := ret1 h
    exact r_iret C B hr nar_1 dX2_isFree_18
def rm_X6_free : Room := { frames := 5, cells := 0, slots := 0, locals := 110 }
set_option maxRecDepth 100000 in
set_option maxHeartbeats 4000000 in
theorem c_X6_free (G : GT) (n : Nat) (s0 : ST) (v1 : Int32) (v2 : Int32) (r : Int32) (s' : ST) (h : X6_free n s0 v1 v2 = some (r, s')) : Con G yX6_free cX6_free 3 (some .int) rm_X6_free [.ref (gad G 0), .int v1, .int v2] (wX G s0) (some (.int r)) (wX G s') := by
  unfold X6_free at h
  refine con_of (by decide +kernel) (Nat.le_of_ble_eq_true rfl) (fun {p e s m below meth c} C hr {H locs ls} B hl => ?_)
  have hx := C.1
  have hb := C.2.1
  have hl : lv_has ls 3 [(0, .ref (gad G 0)), (1, .int v1), (2, .int v2)] := hl
  refine lv_iload_n hx hb dX6_free_0 rfl (lv_at hl 1 rfl) ?_
  obtain ⟨r1, q2, h⟩ := bd_o h
  refine r_callSi (rest := []) C B.2.2 hl (c_X6_isSide G v1 r1 q2) cs_X6_115 rfl rfl (Nat.le_of_ble_eq_true rfl) ⟨rfl, rfl, Nat.le_of_ble_eq_true rfl, Nat.le_of_ble_eq_true rfl⟩ dX6_free_1 ?_
  refine lv_if_ne (tgt := 9) hx hb dX6_free_4 (by decide) (fun q3 => ?_) (fun q3 => ?_)
  · have h := ig h q3
    refine lv_aload_n hx hb dX6_free_9 rfl (lv_at hl 0 rfl) ?_
    refine r_get C B fo_X6_10 (cX_0 G s0) rfl dX6_free_10 ?_
    refine lv_iload_n hx hb dX6_free_13 rfl (lv_at hl 2 rfl) ?_
    obtain ⟨r5, q4, h⟩ := bd_o h
    refine r_callVi (rest := []) C B hl (c_X4_isSet G s0 v2 r5 q4) cs_X6_81 (cX_1 G s0) rfl rfl rfl (Nat.le_of_ble_eq_true rfl) ⟨rfl, rfl, Nat.le_of_ble_eq_true rfl, Nat.le_of_ble_eq_true rfl⟩ dX6_free_14 (fun H locs B => ?_)
    refine lv_if_ne (tgt := 23) hx hb dX6_free_17 (by decide) (fun q6 => ?_) (fun q6 => ?_)
    · have h := ig h q6
      refine lv_aload_n hx hb dX6_free_23 rfl (lv_at hl 0 rfl) ?_
      obtain ⟨s8, q7, h⟩ := bd_o h
      refine r_callVa (rest := []) C B hl (c_X6_freshRanks G n s0 s8 q7) cs_X6_118 (cX_0 G s0) rfl rfl rfl (Nat.le_of_ble_eq_true rfl) ⟨rfl, rfl, Nat.le_of_ble_eq_true rfl, Nat.le_of_ble_eq_true rfl⟩ dX6_free_24 (fun H locs B => ?_)
      refine lv_iload_n hx hb dX6_free_27 rfl (lv_at hl 1 rfl) ?_
      refine lv_iload_n hx hb dX6_free_28 rfl (lv_at hl 2 rfl) ?_
      obtain ⟨r10, q9, h⟩ := bd_o h
      refine r_callVi (rest := []) C B hl (c_X2_isFree G s8 v1 v2 r10 q9) cs_X6_126 (cX_9 G s8) rfl rfl rfl (Nat.le_of_ble_eq_true rfl) ⟨rfl, rfl, Nat.le_of_ble_eq_true rfl, Nat.le_of_ble_eq_true rfl⟩ dX6_free_29 (fun H locs B => ?_)
      refine lv_if_eq (tgt := 39) hx hb dX6_free_32 (by decide) (fun q11 => ?_) (fun q11 => ?_)
      · have h := ip h q11
        refine lv_iconst (v := (0 : Int32)) hx hb dX6_free_39 rfl ?_
        obtain ⟨rfl, rfl⟩ := ret2 h
        exact r_iret C B hr rfl dX6_free_40
      · have h := ig h q11
        refine lv_iconst (v := (1 : Int32)) hx hb dX6_free_35 rfl ?_
        refine lv_goto (tgt := 40) hx hb dX6_free_36 (by decide) ?_
        obtain ⟨rfl, rfl⟩ := ret2 h
        exact r_iret C B hr rfl dX6_free_40
    · have h := ip h q6
      refine lv_bipush (v := (-2 : Int32)) hx hb dX6_free_20 rfl ?_
      obtain ⟨rfl, rfl⟩ := ret2 h
      exact r_iret C B hr rfl dX6_free_22
  · have h := ip h q3
    refine lv_iconst (v := (-1 : Int32)) hx hb dX6_free_7 rfl ?_
    obtain ⟨rfl, rfl⟩ := ret2 h
    exact r_iret C B hr rfl dX6_free_8
def rm_X2_isBase : Room := { frames := 3, cells := 0, slots := 0, locals := 66 }
set_option maxRecDepth 100000 in
set_option maxHeartbeats 4000000 in
theorem c_X2_isBase (G : GT) (s0 : ST) (v1 : Int32) (v2 : Int32) (r : Int32) (h : X2_isBase s0 v1 v2 = some r) : Con G yX2_isBase cX2_isBase 3 (some .boolean) rm_X2_isBase [.ref (gad G 9), .int v1, .int v2] (wX G s0) (some (.int r)) (wX G s0) := by
  unfold X2_isBase at h
  refine con_of (by decide +kernel) (Nat.le_of_ble_eq_true rfl) (fun {p e s m below meth c} C hr {H locs ls} B hl => ?_)
  have hx := C.1
  have hb := C.2.1
  have hl : lv_has ls 3 [(0, .ref (gad G 9)), (1, .int v1), (2, .int v2)] := hl
  refine lv_aload_n hx hb dX2_isBase_0 rfl (lv_at hl 0 rfl) ?_
  refine lv_iload_n hx hb dX2_isBase_1 rfl (lv_at hl 1 rfl) ?_
  refine lv_iload_n hx hb dX2_isBase_2 rfl (lv_at hl 2 rfl) ?_
  obtain ⟨r2, q1, h⟩ := bd_o h
  refine r_callVi (rest := []) C B hl (c_X2_isFree G s0 v1 v2 r2 q1) cs_X2_98 (cX_9 G s0) rfl rfl rfl (Nat.le_of_ble_eq_true rfl) ⟨rfl, rfl, Nat.le_of_ble_eq_true rfl, Nat.le_of_ble_eq_true rfl⟩ dX2_isBase_3 (fun H locs B => ?_)
  refine lv_if_eq (tgt := 34) hx hb dX2_isBase_6 (by decide) (fun q3 => ?_) (fun q3 => ?_)
  · have h := ip h q3
    refine lv_iconst (v := (0 : Int32)) hx hb dX2_isBase_34 rfl ?_
    obtain rfl := ret1 h
    exact r_iret C B hr nar_0 dX2_isBase_35
  · have h := ig h q3
    refine lv_aload_n hx hb dX2_isBase_9 rfl (lv_at hl 0 rfl) ?_
    refine lv_iload_n hx hb dX2_isBase_10 rfl (lv_at hl 1 rfl) ?_
    refine lv_iload_n hx hb dX2_isBase_11 rfl (lv_at hl 2 rfl) ?_
    obtain ⟨r5, q4, h⟩ := bd_o h
    refine r_callVi (rest := []) C B hl (c_X2_of G s0 v1 v2 r5 q4) cs_X2_95 (cX_9 G s0) rfl rfl rfl (Nat.le_of_ble_eq_true rfl) ⟨rfl, rfl, Nat.le_of_ble_eq_true rfl, Nat.le_of_ble_eq_true rfl⟩ dX2_isBase_12 (fun H locs B => ?_)
    refine lv_aload_n hx hb dX2_isBase_15 rfl (lv_at hl 0 rfl) ?_
    refine lv_iload_n hx hb dX2_isBase_16 rfl (lv_at hl 1 rfl) ?_
    refine lv_aload_n hx hb dX2_isBase_17 rfl (lv_at hl 0 rfl) ?_
    refine r_get C B fo_X2_32 (cX_9 G s0) rfl dX2_isBase_18 ?_
    obtain ⟨r7, q6, h⟩ := bd_o h
    refine r_callVi (rest := [.int v1, .ref (gad G 9), .int r5]) C B hl (c_X4_all G s0 r7 q6) cs_X2_71 (cX_1 G s0) rfl rfl rfl (Nat.le_of_ble_eq_true rfl) ⟨rfl, rfl, Nat.le_of_ble_eq_true rfl, Nat.le_of_ble_eq_true rfl⟩ dX2_isBase_21 (fun H locs B => ?_)
    obtain ⟨r9, q8, h⟩ := bd_o h
    refine r_callVi (rest := [.int r5]) C B hl (c_X2_of G s0 v1 r7 r9 q8) cs_X2_95 (cX_9 G s0) rfl rfl rfl (Nat.le_of_ble_eq_true rfl) ⟨rfl, rfl, Nat.le_of_ble_eq_true rfl, Nat.le_of_ble_eq_true rfl⟩ dX2_isBase_24 (fun H locs B => ?_)
    refine lv_icmp_ne (tgt := 34) hx hb dX2_isBase_27 (by decide) (fun q10 => ?_) (fun q10 => ?_)
    · have h := ig h q10
      refine lv_iconst (v := (0 : Int32)) hx hb dX2_isBase_34 rfl ?_
      obtain rfl := ret1 h
      exact r_iret C B hr nar_0 dX2_isBase_35
    · have h := ip h q10
      refine lv_iconst (v := (1 : Int32)) hx hb dX2_isBase_30 rfl ?_
      refine lv_goto (tgt := 35) hx hb dX2_isBase_31 (by decide) ?_
      obtain rfl := ret1 h
      exact r_iret C B hr nar_1 dX2_isBase_35
def rm_X2_isCircuit : Room := { frames := 3, cells := 0, slots := 0, locals := 66 }
set_option maxRecDepth 100000 in
set_option maxHeartbeats 4000000 in
theorem l_X2_isCircuit_L1 {G : GT} {p : Program} {e : Env} {s : State} {m : MethodId} {args : Array Value} {below : List Frame} {meth : Method} {c : Code} {Q : State → Prop} (C : CT G p s m meth c args cX2_isCircuit 4 RX2) (hr : meth.sig.returnType = (some .boolean)) (s0 : ST) (v1 : Int32) (v2 : Int32) : ∀ (k : Nat) (v3 : Int32) (e1 : (Int32) ⊕ (Unit)), X2_isCircuit_L1 s0 v1 v2 k v3 = some e1 → (∀ rv, e1 = Sum.inl rv → Q = QR G below args s (some (.int rv)) (wX G s0)) → (∀ ex, e1 = Sum.inr ex → Kn G p e rm_X2_isCircuit s m args below meth c Q 4 55 [] (wX G s0)) → Kn G p e rm_X2_isCircuit s m args below meth c Q 4 13 [(0, .ref (gad G 9)), (1, .int v1), (2, .int v2), (3, .int v3)] (wX G s0) := by
  have hx := C.1
  have hb := C.2.1
  intro k
  induction k with
  | zero =>
    intro v3 e1 h
    exact nso h
  | succ k ih =>
    intro v3 e1 h hret hk H locs ls B hl
    have h : X2_isCircuit_L1_b s0 v1 v2 (X2_isCircuit_L1 s0 v1 v2 k) v3 = some e1 := h
    unfold X2_isCircuit_L1_b at h
    refine lv_iload_n hx hb dX2_isCircuit_13 rfl (lv_at hl 3 rfl) ?_
    refine lv_aload_n hx hb dX2_isCircuit_14 rfl (lv_at hl 0 rfl) ?_
    refine r_get C B fo_X2_32 (cX_9 G s0) rfl dX2_isCircuit_15 ?_
    refine r_get C B fo_X2_44 (cX_1 G s0) rfl dX2_isCircuit_18 ?_
    refine lv_icmp_ge (tgt := 55) hx hb dX2_isCircuit_21 (by decide) (fun q4 => ?_) (fun q4 => ?_)
    · have h := ip h q4
      obtain rfl := ret1 h
      exact hk _ rfl H locs ls B (lv_sub hl [] rfl)
    · have h := ig h q4
      refine lv_iload_n hx hb dX2_isCircuit_24 rfl (lv_at hl 2 rfl) ?_
      refine lv_iload_n hx hb dX2_isCircuit_25 rfl (lv_at hl 3 rfl) ?_
      obtain ⟨r5, q6, h⟩ := bd_o h
      refine r_callSNi (rest := []) C B.2.2 hl (c_X6_has G v2 v3 r5 q6) cs_X2_50 rfl rfl (Nat.le_of_ble_eq_true rfl) ⟨rfl, rfl, Nat.le_of_ble_eq_true rfl, Nat.le_of_ble_eq_true rfl⟩ dX2_isCircuit_26 ?_
      refine lv_if_eq (tgt := 49) hx hb dX2_isCircuit_29 (by decide) (fun q7 => ?_) (fun q7 => ?_)
      · have h := ip h q7
        obtain ⟨v3_8, q9, h⟩ := nm_o h
        refine lv_iinc (v := v3_8) (lv' := [(3, .int v3_8), (0, .ref (gad G 9)), (1, .int v1), (2, .int v2)]) hx hb dX2_isCircuit_49 hl (k := 3) rfl q9.symm (by decide) rfl (fun ls hl => ?_)
        refine lv_goto (tgt := 13) hx hb dX2_isCircuit_52 (by decide) ?_
        exact ih v3_8 e1 h hret hk H locs ls B (lv_sub hl [1, 2, 3, 0] rfl)
      · have h := ig h q7
        refine lv_aload_n hx hb dX2_isCircuit_32 rfl (lv_at hl 0 rfl) ?_
        refine lv_iload_n hx hb dX2_isCircuit_33 rfl (lv_at hl 1 rfl) ?_
        refine lv_iload_n hx hb dX2_isCircuit_34 rfl (lv_at hl 2 rfl) ?_
        refine lv_iconst (v := (1 : Int32)) hx hb dX2_isCircuit_35 rfl ?_
        refine lv_iload_n hx hb dX2_isCircuit_36 rfl (lv_at hl 3 rfl) ?_
        refine lv_ishl hx hb dX2_isCircuit_37 ?_
        refine lv_iconst (v := (-1 : Int32)) hx hb dX2_isCircuit_38 rfl ?_
        refine lv_ixor hx hb dX2_isCircuit_39 ?_
        refine lv_iand hx hb dX2_isCircuit_40 ?_
        obtain ⟨r11, q10, h⟩ := bd_o h
        refine r_callVi (rest := []) C B hl (c_X2_isFree G s0 v1 (v2 &&& (((1 : Int32) <<< (v3 &&& 31)) ^^^ (-1 : Int32))) r11 q10) cs_X2_98 (cX_9 G s0) rfl rfl rfl (Nat.le_of_ble_eq_true rfl) ⟨rfl, rfl, Nat.le_of_ble_eq_true rfl, Nat.le_of_ble_eq_true rfl⟩ dX2_isCircuit_41 (fun H locs B => ?_)
        refine lv_if_ne (tgt := 49) hx hb dX2_isCircuit_44 (by decide) (fun q12 => ?_) (fun q12 => ?_)
        · have h := ig h q12
          obtain ⟨v3_13, q14, h⟩ := nm_o h
          refine lv_iinc (v := v3_13) (lv' := [(3, .int v3_13), (0, .ref (gad G 9)), (1, .int v1), (2, .int v2)]) hx hb dX2_isCircuit_49 hl (k := 3) rfl q14.symm (by decide) rfl (fun ls hl => ?_)
          refine lv_goto (tgt := 13) hx hb dX2_isCircuit_52 (by decide) ?_
          exact ih v3_13 e1 h hret hk H locs ls B (lv_sub hl [1, 2, 3, 0] rfl)
        · have h := ip h q12
          refine lv_iconst (v := (0 : Int32)) hx hb dX2_isCircuit_47 rfl ?_
          obtain rfl := ret1 h
          rw [hret _ rfl]
          exact r_iret C B hr nar_0 dX2_isCircuit_48
set_option maxRecDepth 100000 in
set_option maxHeartbeats 4000000 in
theorem c_X2_isCircuit (G : GT) (n : Nat) (s0 : ST) (v1 : Int32) (v2 : Int32) (r : Int32) (h : X2_isCircuit n s0 v1 v2 = some r) : Con G yX2_isCircuit cX2_isCircuit 4 (some .boolean) rm_X2_isCircuit [.ref (gad G 9), .int v1, .int v2] (wX G s0) (some (.int r)) (wX G s0) := by
  unfold X2_isCircuit at h
  refine con_of (by decide +kernel) (Nat.le_of_ble_eq_true rfl) (fun {p e s m below meth c} C hr {H locs ls} B hl => ?_)
  have hx := C.1
  have hb := C.2.1
  have hl : lv_has ls 4 [(0, .ref (gad G 9)), (1, .int v1), (2, .int v2)] := hl
  refine lv_aload_n hx hb dX2_isCircuit_0 rfl (lv_at hl 0 rfl) ?_
  refine lv_iload_n hx hb dX2_isCircuit_1 rfl (lv_at hl 1 rfl) ?_
  refine lv_iload_n hx hb dX2_isCircuit_2 rfl (lv_at hl 2 rfl) ?_
  obtain ⟨r2, q1, h⟩ := bd_o h
  refine r_callVi (rest := []) C B hl (c_X2_isFree G s0 v1 v2 r2 q1) cs_X2_98 (cX_9 G s0) rfl rfl rfl (Nat.le_of_ble_eq_true rfl) ⟨rfl, rfl, Nat.le_of_ble_eq_true rfl, Nat.le_of_ble_eq_true rfl⟩ dX2_isCircuit_3 (fun H locs B => ?_)
  refine lv_if_eq (tgt := 11) hx hb dX2_isCircuit_6 (by decide) (fun q3 => ?_) (fun q3 => ?_)
  · have h := ip h q3
    refine lv_iconst (v := (0 : Int32)) hx hb dX2_isCircuit_11 rfl ?_
    refine lv_istore_n (lv' := [(3, .int (0 : Int32)), (0, .ref (gad G 9)), (1, .int v1), (2, .int v2)]) hx hb dX2_isCircuit_12 rfl hl (by decide) rfl (fun ls hl => ?_)
    obtain ⟨e15, q16, h⟩ := bd_o h
    refine l_X2_isCircuit_L1 C hr s0 v1 v2 n (0 : Int32) e15 q16 (fun rv q => by have h := sm_l h q; cases h; rfl) (fun e17 q18 => ?_) H locs ls B (lv_sub hl [1, 2, 3, 0] rfl)
    have h := sm_r h q18
    intro H locs ls B hl
    refine lv_iconst (v := (1 : Int32)) hx hb dX2_isCircuit_55 rfl ?_
    obtain rfl := ret1 h
    exact r_iret C B hr nar_1 dX2_isCircuit_56
  · have h := ig h q3
    refine lv_iconst (v := (0 : Int32)) hx hb dX2_isCircuit_9 rfl ?_
    obtain rfl := ret1 h
    exact r_iret C B hr nar_0 dX2_isCircuit_10
def rm_X2_shutOf : Room := { frames := 2, cells := 0, slots := 0, locals := 44 }
set_option maxRecDepth 100000 in
set_option maxHeartbeats 4000000 in
theorem l_X2_shutOf_L1 {G : GT} {p : Program} {e : Env} {s : State} {m : MethodId} {args : Array Value} {below : List Frame} {meth : Method} {c : Code} {Q : State → Prop} (C : CT G p s m meth c args cX2_shutOf 5 RX2) (hr : meth.sig.returnType = (some .int)) (s0 : ST) (v1 : Int32) (v2 : Int32) : ∀ (k : Nat) (v4 : Int32) (v3 : Int32) (e1 : Int32), X2_shutOf_L1 s0 v1 v2 k v4 v3 = some e1 → Kn G p e rm_X2_shutOf s m args below meth c Q 5 50 [(3, .int e1)] (wX G s0) → Kn G p e rm_X2_shutOf s m args below meth c Q 5 5 [(0, .ref (gad G 9)), (1, .int v1), (2, .int v2), (4, .int v4), (3, .int v3)] (wX G s0) := by
  have hx := C.1
  have hb := C.2.1
  intro k
  induction k with
  | zero =>
    intro v4 v3 e1 h
    exact nso h
  | succ k ih =>
    intro v4 v3 e1 h hk H locs ls B hl
    have h : X2_shutOf_L1_b s0 v1 v2 (X2_shutOf_L1 s0 v1 v2 k) v4 v3 = some e1 := h
    unfold X2_shutOf_L1_b at h
    refine lv_iload hx hb dX2_shutOf_5 (lv_at hl 3 rfl) ?_
    refine lv_aload_n hx hb dX2_shutOf_7 rfl (lv_at hl 0 rfl) ?_
    refine r_get C B fo_X2_32 (cX_9 G s0) rfl dX2_shutOf_8 ?_
    refine r_get C B fo_X2_44 (cX_1 G s0) rfl dX2_shutOf_11 ?_
    refine lv_icmp_ge (tgt := 50) hx hb dX2_shutOf_14 (by decide) (fun q1 => ?_) (fun q1 => ?_)
    · have h := ip h q1
      obtain rfl := ret1 h
      exact hk H locs ls B (lv_sub hl [4] rfl)
    · have h := ig h q1
      refine lv_aload_n hx hb dX2_shutOf_17 rfl (lv_at hl 0 rfl) ?_
      refine lv_iload_n hx hb dX2_shutOf_18 rfl (lv_at hl 1 rfl) ?_
      refine lv_iload_n hx hb dX2_shutOf_19 rfl (lv_at hl 2 rfl) ?_
      refine lv_iconst (v := (1 : Int32)) hx hb dX2_shutOf_20 rfl ?_
      refine lv_iload hx hb dX2_shutOf_21 (lv_at hl 3 rfl) ?_
      refine lv_ishl hx hb dX2_shutOf_23 ?_
      refine lv_ior hx hb dX2_shutOf_24 ?_
      obtain ⟨r3, q2, h⟩ := bd_o h
      refine r_callVi (rest := []) C B hl (c_X2_of G s0 v1 (v2 ||| ((1 : Int32) <<< (v4 &&& 31))) r3 q2) cs_X2_95 (cX_9 G s0) rfl rfl rfl (Nat.le_of_ble_eq_true rfl) ⟨rfl, rfl, Nat.le_of_ble_eq_true rfl, Nat.le_of_ble_eq_true rfl⟩ dX2_shutOf_25 (fun H locs B => ?_)
      refine lv_aload_n hx hb dX2_shutOf_28 rfl (lv_at hl 0 rfl) ?_
      refine lv_iload_n hx hb dX2_shutOf_29 rfl (lv_at hl 1 rfl) ?_
      refine lv_iload_n hx hb dX2_shutOf_30 rfl (lv_at hl 2 rfl) ?_
      obtain ⟨r5, q4, h⟩ := bd_o h
      refine r_callVi (rest := [.int r3]) C B hl (c_X2_of G s0 v1 v2 r5 q4) cs_X2_95 (cX_9 G s0) rfl rfl rfl (Nat.le_of_ble_eq_true rfl) ⟨rfl, rfl, Nat.le_of_ble_eq_true rfl, Nat.le_of_ble_eq_true rfl⟩ dX2_shutOf_31 (fun H locs B => ?_)
      refine lv_icmp_ne (tgt := 44) hx hb dX2_shutOf_34 (by decide) (fun q6 => ?_) (fun q6 => ?_)
      · have h := ig h q6
        obtain ⟨v4_7, q8, h⟩ := nm_o h
        refine lv_iinc (v := v4_7) (lv' := [(4, .int v4_7), (0, .ref (gad G 9)), (1, .int v1), (2, .int v2), (3, .int v3)]) hx hb dX2_shutOf_44 hl (k := 3) rfl q8.symm (by decide) rfl (fun ls hl => ?_)
        refine lv_goto (tgt := 5) hx hb dX2_shutOf_47 (by decide) ?_
        exact ih v4_7 v3 e1 h hk H locs ls B (lv_sub hl [1, 2, 3, 0, 4] rfl)
      · have h := ip h q6
        refine lv_iload_n hx hb dX2_shutOf_37 rfl (lv_at hl 4 rfl) ?_
        refine lv_iconst (v := (1 : Int32)) hx hb dX2_shutOf_38 rfl ?_
        refine lv_iload hx hb dX2_shutOf_39 (lv_at hl 3 rfl) ?_
        refine lv_ishl hx hb dX2_shutOf_41 ?_
        refine lv_ior hx hb dX2_shutOf_42 ?_
        obtain ⟨v3_9, q10, h⟩ := nm_o h
        refine r_nm q10 ?_
        refine lv_istore_n (lv' := [(3, .int v3_9), (0, .ref (gad G 9)), (1, .int v1), (2, .int v2), (4, .int v4)]) hx hb dX2_shutOf_43 rfl hl (by decide) rfl (fun ls hl => ?_)
        obtain ⟨v4_11, q12, h⟩ := nm_o h
        refine lv_iinc (v := v4_11) (lv' := [(4, .int v4_11), (3, .int v3_9), (0, .ref (gad G 9)), (1, .int v1), (2, .int v2)]) hx hb dX2_shutOf_44 hl (k := 4) rfl q12.symm (by decide) rfl (fun ls hl => ?_)
        refine lv_goto (tgt := 5) hx hb dX2_shutOf_47 (by decide) ?_
        exact ih v4_11 v3_9 e1 h hk H locs ls B (lv_sub hl [2, 3, 4, 0, 1] rfl)
set_option maxRecDepth 100000 in
set_option maxHeartbeats 4000000 in
theorem c_X2_shutOf (G : GT) (n : Nat) (s0 : ST) (v1 : Int32) (v2 : Int32) (r : Int32) (h : X2_shutOf n s0 v1 v2 = some r) : Con G yX2_shutOf cX2_shutOf 5 (some .int) rm_X2_shutOf [.ref (gad G 9), .int v1, .int v2] (wX G s0) (some (.int r)) (wX G s0) := by
  unfold X2_shutOf at h
  refine con_of (by decide +kernel) (Nat.le_of_ble_eq_true rfl) (fun {p e s m below meth c} C hr {H locs ls} B hl => ?_)
  have hx := C.1
  have hb := C.2.1
  have hl : lv_has ls 5 [(0, .ref (gad G 9)), (1, .int v1), (2, .int v2)] := hl
  refine lv_iload_n hx hb dX2_shutOf_0 rfl (lv_at hl 2 rfl) ?_
  refine lv_istore_n (lv' := [(3, .int v2), (0, .ref (gad G 9)), (1, .int v1), (2, .int v2)]) hx hb dX2_shutOf_1 rfl hl (by decide) rfl (fun ls hl => ?_)
  refine lv_iconst (v := (0 : Int32)) hx hb dX2_shutOf_2 rfl ?_
  refine lv_istore (lv' := [(4, .int (0 : Int32)), (3, .int v2), (0, .ref (gad G 9)), (1, .int v1), (2, .int v2)]) hx hb dX2_shutOf_3 hl (by decide) rfl (fun ls hl => ?_)
  obtain ⟨e13, q14, h⟩ := bd_o h
  refine l_X2_shutOf_L1 C hr s0 v1 v2 n (0 : Int32) v2 e13 q14 ?_ H locs ls B (lv_sub hl [2, 3, 4, 0, 1] rfl)
  intro H locs ls B hl
  refine lv_iload_n hx hb dX2_shutOf_50 rfl (lv_at hl 0 rfl) ?_
  obtain rfl := ret1 h
  exact r_iret C B hr rfl dX2_shutOf_51
def rm_X2_isOf : Room := { frames := 4, cells := 0, slots := 0, locals := 89 }
set_option maxRecDepth 100000 in
set_option maxHeartbeats 4000000 in
theorem c_X2_isOf (G : GT) (n : Nat) (s0 : ST) (v1 : Int32) (v2 : Int32) (v3 : Int32) (r : Int32) (h : X2_isOf n s0 v1 v2 v3 = some r) : Con G yX2_isOf cX2_isOf 4 (some .boolean) rm_X2_isOf [.ref (gad G 9), .int v1, .int v2, .int v3] (wX G s0) (some (.int r)) (wX G s0) := by
  unfold X2_isOf at h
  refine con_of (by decide +kernel) (Nat.le_of_ble_eq_true rfl) (fun {p e s m below meth c} C hr {H locs ls} B hl => ?_)
  have hx := C.1
  have hb := C.2.1
  have hl : lv_has ls 4 [(0, .ref (gad G 9)), (1, .int v1), (2, .int v2), (3, .int v3)] := hl
  refine lv_iload_n hx hb dX2_isOf_0 rfl (lv_at hl 1 rfl) ?_
  by_cases q1 : v1 = (0 : Int32)
  · have h := ip h q1
    refine r_tab (off := 27) (tgt := 28) C q1 dX2_isOf_1 (by decide) (by decide) ?_
    refine lv_aload_n hx hb dX2_isOf_28 rfl (lv_at hl 0 rfl) ?_
    refine lv_iload_n hx hb dX2_isOf_29 rfl (lv_at hl 2 rfl) ?_
    refine lv_iload_n hx hb dX2_isOf_30 rfl (lv_at hl 3 rfl) ?_
    obtain ⟨r3, q2, h⟩ := bd_o h
    refine r_callVi (rest := []) C B hl (c_X2_isBase G s0 v2 v3 r3 q2) cs_X2_101 (cX_9 G s0) rfl rfl rfl (Nat.le_of_ble_eq_true rfl) ⟨rfl, rfl, Nat.le_of_ble_eq_true rfl, Nat.le_of_ble_eq_true rfl⟩ dX2_isOf_31 (fun H locs B => ?_)
    obtain ⟨q4, h⟩ := gd_o h
    obtain rfl := ret1 h
    exact r_iret C B hr (bz_nar q4) dX2_isOf_34
  · have h := ig h q1
    by_cases q5 : v1 = (1 : Int32)
    · have h := ip h q5
      refine r_tab (off := 34) (tgt := 35) C q5 dX2_isOf_1 (by decide) (by decide) ?_
      refine lv_aload_n hx hb dX2_isOf_35 rfl (lv_at hl 0 rfl) ?_
      refine lv_iload_n hx hb dX2_isOf_36 rfl (lv_at hl 2 rfl) ?_
      refine lv_iload_n hx hb dX2_isOf_37 rfl (lv_at hl 3 rfl) ?_
      obtain ⟨r7, q6, h⟩ := bd_o h
      refine r_callVi (rest := []) C B hl (c_X2_isCircuit G n s0 v2 v3 r7 q6) cs_X2_104 (cX_9 G s0) rfl rfl rfl (Nat.le_of_ble_eq_true rfl) ⟨rfl, rfl, Nat.le_of_ble_eq_true rfl, Nat.le_of_ble_eq_true rfl⟩ dX2_isOf_38 (fun H locs B => ?_)
      obtain ⟨q8, h⟩ := gd_o h
      obtain rfl := ret1 h
      exact r_iret C B hr (bz_nar q8) dX2_isOf_41
    · have h := ig h q5
      by_cases q9 : v1 = (2 : Int32)
      · have h := ip h q9
        refine r_tab (off := 41) (tgt := 42) C q9 dX2_isOf_1 (by decide) (by decide) ?_
        refine lv_aload_n hx hb dX2_isOf_42 rfl (lv_at hl 0 rfl) ?_
        refine lv_iload_n hx hb dX2_isOf_43 rfl (lv_at hl 2 rfl) ?_
        refine lv_iload_n hx hb dX2_isOf_44 rfl (lv_at hl 3 rfl) ?_
        obtain ⟨r11, q10, h⟩ := bd_o h
        refine r_callVi (rest := []) C B hl (c_X2_shutOf G n s0 v2 v3 r11 q10) cs_X2_107 (cX_9 G s0) rfl rfl rfl (Nat.le_of_ble_eq_true rfl) ⟨rfl, rfl, Nat.le_of_ble_eq_true rfl, Nat.le_of_ble_eq_true rfl⟩ dX2_isOf_45 (fun H locs B => ?_)
        refine lv_iload_n hx hb dX2_isOf_48 rfl (lv_at hl 3 rfl) ?_
        refine lv_icmp_ne (tgt := 56) hx hb dX2_isOf_49 (by decide) (fun q12 => ?_) (fun q12 => ?_)
        · have h := ig h q12
          refine lv_iconst (v := (0 : Int32)) hx hb dX2_isOf_56 rfl ?_
          obtain rfl := ret1 h
          exact r_iret C B hr nar_0 dX2_isOf_57
        · have h := ip h q12
          refine lv_iconst (v := (1 : Int32)) hx hb dX2_isOf_52 rfl ?_
          refine lv_goto (tgt := 57) hx hb dX2_isOf_53 (by decide) ?_
          obtain rfl := ret1 h
          exact r_iret C B hr nar_1 dX2_isOf_57
      · have h := ig h q9
        refine lv_tableOut (tgt := 58) hx hb dX2_isOf_1 (r_span (fun k h1 h2 => by have e : k = 0 ∨ k = 1 ∨ k = 2 := (by omega); rcases e with rfl | rfl | rfl; exact ne_toInt q1; exact ne_toInt q5; exact ne_toInt q9)) (by decide) ?_
        refine lv_iconst (v := (0 : Int32)) hx hb dX2_isOf_58 rfl ?_
        obtain rfl := ret1 h
        exact r_iret C B hr nar_0 dX2_isOf_59
def rm_X6_listed : Room := { frames := 5, cells := 0, slots := 0, locals := 112 }
set_option maxRecDepth 100000 in
set_option maxHeartbeats 4000000 in
theorem l_X6_listed_L1 {G : GT} {p : Program} {e : Env} {s : State} {m : MethodId} {args : Array Value} {below : List Frame} {meth : Method} {c : Code} {Q : State → Prop} (C : CT G p s m meth c args cX6_listed 8 RX6) (hr : meth.sig.returnType = (some .int)) (n : Nat) (s0 : ST) (v5 : Int32) (v1 : Int32) (v2 : Int32) (v3 : Int32) : ∀ (k : Nat) (v7 : Int32) (v6 : Int32) (e1 : (Int32 × ST) ⊕ (Int32)), X6_listed_L1 n s0 v5 v1 v2 v3 k v7 v6 = some e1 → (∀ rv, e1 = Sum.inl rv → Q = QR G below args s (some (.int rv.1)) (wX G rv.2)) → (∀ ex, e1 = Sum.inr ex → Kn G p e rm_X6_listed s m args below meth c Q 8 75 [(3, .int v3), (6, .int ex)] (wX G s0)) → Kn G p e rm_X6_listed s m args below meth c Q 8 35 [(4, .ref (gad G 9)), (5, .int v5), (1, .int v1), (2, .int v2), (3, .int v3), (7, .int v7), (6, .int v6)] (wX G s0) := by
  have hx := C.1
  have hb := C.2.1
  intro k
  induction k with
  | zero =>
    intro v7 v6 e1 h
    exact nso h
  | succ k ih =>
    intro v7 v6 e1 h hret hk H locs ls B hl
    have h : X6_listed_L1_b n s0 v5 v1 v2 v3 (X6_listed_L1 n s0 v5 v1 v2 v3 k) v7 v6 = some e1 := h
    unfold X6_listed_L1_b at h
    refine lv_iload hx hb dX6_listed_35 (lv_at hl 5 rfl) ?_
    refine lv_iload hx hb dX6_listed_37 (lv_at hl 1 rfl) ?_
    refine lv_icmp_gt (tgt := 75) hx hb dX6_listed_39 (by decide) (fun q9 => ?_) (fun q9 => ?_)
    · have h := ip h q9
      obtain rfl := ret1 h
      exact hk _ rfl H locs ls B (lv_sub hl [4, 6] rfl)
    · have h := ig h q9
      refine lv_aload hx hb dX6_listed_42 (lv_at hl 0 rfl) ?_
      refine lv_iload_n hx hb dX6_listed_44 rfl (lv_at hl 2 rfl) ?_
      refine lv_iload_n hx hb dX6_listed_45 rfl (lv_at hl 3 rfl) ?_
      refine lv_iload hx hb dX6_listed_46 (lv_at hl 5 rfl) ?_
      obtain ⟨r11, q10, h⟩ := bd_o h
      refine r_callVi (rest := []) C B hl (c_X2_isOf G n s0 v1 v2 v7 r11 q10) cs_X6_261 (cX_9 G s0) rfl rfl rfl (Nat.le_of_ble_eq_true rfl) ⟨rfl, rfl, Nat.le_of_ble_eq_true rfl, Nat.le_of_ble_eq_true rfl⟩ dX6_listed_48 (fun H locs B => ?_)
      refine lv_if_ne (tgt := 57) hx hb dX6_listed_51 (by decide) (fun q12 => ?_) (fun q12 => ?_)
      · have h := ig h q12
        refine lv_iload hx hb dX6_listed_57 (lv_at hl 6 rfl) ?_
        refine lv_iload_n hx hb dX6_listed_59 rfl (lv_at hl 4 rfl) ?_
        refine lv_icmp_ne (tgt := 66) hx hb dX6_listed_60 (by decide) (fun q13 => ?_) (fun q13 => ?_)
        · have h := ig h q13
          obtain ⟨v6_14, q15, h⟩ := nm_o h
          refine lv_iinc (v := v6_14) (lv' := [(6, .int v6_14), (4, .ref (gad G 9)), (5, .int v5), (1, .int v1), (2, .int v2), (3, .int v3), (7, .int v7)]) hx hb dX6_listed_66 hl (k := 6) rfl q15.symm (by decide) rfl (fun ls hl => ?_)
          obtain ⟨v7_16, q17, h⟩ := nm_o h
          refine lv_iinc (v := v7_16) (lv' := [(7, .int v7_16), (6, .int v6_14), (4, .ref (gad G 9)), (5, .int v5), (1, .int v1), (2, .int v2), (3, .int v3)]) hx hb dX6_listed_69 hl (k := 6) rfl q17.symm (by decide) rfl (fun ls hl => ?_)
          refine lv_goto (tgt := 35) hx hb dX6_listed_72 (by decide) ?_
          exact ih v7_16 v6_14 e1 h hret hk H locs ls B (lv_sub hl [2, 3, 4, 5, 6, 0, 1] rfl)
        · have h := ip h q13
          refine lv_iload hx hb dX6_listed_63 (lv_at hl 5 rfl) ?_
          obtain rfl := ret1 h
          rw [hret _ rfl]
          exact r_iret C B hr rfl dX6_listed_65
      · have h := ip h q12
        refine lv_goto (tgt := 69) hx hb dX6_listed_54 (by decide) ?_
        obtain ⟨v7_18, q19, h⟩ := nm_o h
        refine lv_iinc (v := v7_18) (lv' := [(7, .int v7_18), (4, .ref (gad G 9)), (5, .int v5), (1, .int v1), (2, .int v2), (3, .int v3), (6, .int v6)]) hx hb dX6_listed_69 hl (k := 5) rfl q19.symm (by decide) rfl (fun ls hl => ?_)
        refine lv_goto (tgt := 35) hx hb dX6_listed_72 (by decide) ?_
        exact ih v7_18 v6 e1 h hret hk H locs ls B (lv_sub hl [1, 2, 3, 4, 5, 0, 6] rfl)
set_option maxRecDepth 100000 in
set_option maxHeartbeats 4000000 in
theorem c_X6_listed (G : GT) (n : Nat) (s0 : ST) (v1 : Int32) (v2 : Int32) (v3 : Int32) (r : Int32) (s' : ST) (h : X6_listed n s0 v1 v2 v3 = some (r, s')) : Con G yX6_listed cX6_listed 8 (some .int) rm_X6_listed [.ref (gad G 0), .int v1, .int v2, .int v3] (wX G s0) (some (.int r)) (wX G s') := by
  unfold X6_listed at h
  refine con_of (by decide +kernel) (Nat.le_of_ble_eq_true rfl) (fun {p e s m below meth c} C hr {H locs ls} B hl => ?_)
  have hx := C.1
  have hb := C.2.1
  have hl : lv_has ls 8 [(0, .ref (gad G 0)), (1, .int v1), (2, .int v2), (3, .int v3)] := hl
  refine lv_iload_n hx hb dX6_listed_0 rfl (lv_at hl 2 rfl) ?_
  obtain ⟨r1, q2, h⟩ := bd_o h
  refine r_callSi (rest := []) C B.2.2 hl (c_X6_isSide G v2 r1 q2) cs_X6_115 rfl rfl (Nat.le_of_ble_eq_true rfl) ⟨rfl, rfl, Nat.le_of_ble_eq_true rfl, Nat.le_of_ble_eq_true rfl⟩ dX6_listed_1 ?_
  refine lv_if_eq (tgt := 12) hx hb dX6_listed_4 (by decide) (fun q3 => ?_) (fun q3 => ?_)
  · have h := ip h q3
    refine lv_iconst (v := (-1 : Int32)) hx hb dX6_listed_12 rfl ?_
    obtain ⟨rfl, rfl⟩ := ret2 h
    exact r_iret C B hr rfl dX6_listed_13
  · have h := ig h q3
    refine lv_iload_n hx hb dX6_listed_7 rfl (lv_at hl 3 rfl) ?_
    refine lv_iconst (v := (-1 : Int32)) hx hb dX6_listed_8 rfl ?_
    refine lv_icmp_ge (tgt := 14) hx hb dX6_listed_9 (by decide) (fun q4 => ?_) (fun q4 => ?_)
    · have h := ip h q4
      refine lv_aload_n hx hb dX6_listed_14 rfl (lv_at hl 0 rfl) ?_
      obtain ⟨s6, q5, h⟩ := bd_o h
      refine r_callVa (rest := []) C B hl (c_X6_freshRanks G n s0 s6 q5) cs_X6_118 (cX_0 G s0) rfl rfl rfl (Nat.le_of_ble_eq_true rfl) ⟨rfl, rfl, Nat.le_of_ble_eq_true rfl, Nat.le_of_ble_eq_true rfl⟩ dX6_listed_15 (fun H locs B => ?_)
      refine lv_astore (lv' := [(4, .ref (gad G 9)), (0, .ref (gad G 0)), (1, .int v1), (2, .int v2), (3, .int v3)]) hx hb dX6_listed_18 hl (by decide) rfl (fun ls hl => ?_)
      refine lv_aload_n hx hb dX6_listed_20 rfl (lv_at hl 1 rfl) ?_
      refine r_get C B fo_X6_10 (cX_0 G s6) rfl dX6_listed_21 ?_
      obtain ⟨r8, q7, h⟩ := bd_o h
      refine r_callVi (rest := []) C B hl (c_X4_all G s6 r8 q7) cs_X6_156 (cX_1 G s6) rfl rfl rfl (Nat.le_of_ble_eq_true rfl) ⟨rfl, rfl, Nat.le_of_ble_eq_true rfl, Nat.le_of_ble_eq_true rfl⟩ dX6_listed_24 (fun H locs B => ?_)
      refine lv_istore (lv' := [(5, .int r8), (4, .ref (gad G 9)), (0, .ref (gad G 0)), (1, .int v1), (2, .int v2), (3, .int v3)]) hx hb dX6_listed_27 hl (by decide) rfl (fun ls hl => ?_)
      refine lv_iconst (v := (0 : Int32)) hx hb dX6_listed_29 rfl ?_
      refine lv_istore (lv' := [(6, .int (0 : Int32)), (5, .int r8), (4, .ref (gad G 9)), (0, .ref (gad G 0)), (1, .int v1), (2, .int v2), (3, .int v3)]) hx hb dX6_listed_30 hl (by decide) rfl (fun ls hl => ?_)
      refine lv_iconst (v := (0 : Int32)) hx hb dX6_listed_32 rfl ?_
      refine lv_istore (lv' := [(7, .int (0 : Int32)), (6, .int (0 : Int32)), (5, .int r8), (4, .ref (gad G 9)), (0, .ref (gad G 0)), (1, .int v1), (2, .int v2), (3, .int v3)]) hx hb dX6_listed_33 hl (by decide) rfl (fun ls hl => ?_)
      obtain ⟨e20, q21, h⟩ := bd_o h
      refine l_X6_listed_L1 C hr n s6 r8 v1 v2 v3 n (0 : Int32) (0 : Int32) e20 q21 (fun rv q => by have h := sm_l h q; cases h; rfl) (fun e22 q23 => ?_) H locs ls B (lv_sub hl [3, 2, 5, 6, 7, 0, 1] rfl)
      have h := sm_r h q23
      intro H locs ls B hl
      refine lv_iload_n hx hb dX6_listed_75 rfl (lv_at hl 0 rfl) ?_
      refine lv_iconst (v := (-1 : Int32)) hx hb dX6_listed_76 rfl ?_
      refine lv_icmp_ne (tgt := 85) hx hb dX6_listed_77 (by decide) (fun q24 => ?_) (fun q24 => ?_)
      · have h := ig h q24
        refine lv_iconst (v := (-1 : Int32)) hx hb dX6_listed_85 rfl ?_
        obtain ⟨rfl, rfl⟩ := ret2 h
        exact r_iret C B hr rfl dX6_listed_86
      · have h := ip h q24
        refine lv_iload hx hb dX6_listed_80 (lv_at hl 1 rfl) ?_
        refine lv_goto (tgt := 86) hx hb dX6_listed_82 (by decide) ?_
        obtain ⟨rfl, rfl⟩ := ret2 h
        exact r_iret C B hr rfl dX6_listed_86
    · have h := ig h q4
      refine lv_iconst (v := (-1 : Int32)) hx hb dX6_listed_12 rfl ?_
      obtain ⟨rfl, rfl⟩ := ret2 h
      exact r_iret C B hr rfl dX6_listed_13
def rm_X6_base : Room := { frames := 6, cells := 0, slots := 0, locals := 139 }
set_option maxRecDepth 100000 in
set_option maxHeartbeats 4000000 in
theorem c_X6_base (G : GT) (n : Nat) (s0 : ST) (v1 : Int32) (v2 : Int32) (r : Int32) (s' : ST) (h : X6_base n s0 v1 v2 = some (r, s')) : Con G yX6_base cX6_base 3 (some .int) rm_X6_base [.ref (gad G 0), .int v1, .int v2] (wX G s0) (some (.int r)) (wX G s') := by
  unfold X6_base at h
  refine con_of (by decide +kernel) (Nat.le_of_ble_eq_true rfl) (fun {p e s m below meth c} C hr {H locs ls} B hl => ?_)
  have hx := C.1
  have hb := C.2.1
  have hl : lv_has ls 3 [(0, .ref (gad G 0)), (1, .int v1), (2, .int v2)] := hl
  refine lv_aload_n hx hb dX6_base_0 rfl (lv_at hl 0 rfl) ?_
  refine lv_iconst (v := (0 : Int32)) hx hb dX6_base_1 rfl ?_
  refine lv_iload_n hx hb dX6_base_2 rfl (lv_at hl 1 rfl) ?_
  refine lv_iload_n hx hb dX6_base_3 rfl (lv_at hl 2 rfl) ?_
  obtain ⟨r3, s2, q1, h⟩ := bd2_o h
  refine r_callVi (rest := []) C B hl (c_X6_listed G n s0 (0 : Int32) v1 v2 r3 s2 q1) cs_X6_130 (cX_0 G s0) rfl rfl rfl (Nat.le_of_ble_eq_true rfl) ⟨rfl, rfl, Nat.le_of_ble_eq_true rfl, Nat.le_of_ble_eq_true rfl⟩ dX6_base_4 (fun H locs B => ?_)
  obtain ⟨rfl, rfl⟩ := ret2 h
  exact r_iret C B hr rfl dX6_base_7
def rm_X6_circuit : Room := { frames := 6, cells := 0, slots := 0, locals := 139 }
set_option maxRecDepth 100000 in
set_option maxHeartbeats 4000000 in
theorem c_X6_circuit (G : GT) (n : Nat) (s0 : ST) (v1 : Int32) (v2 : Int32) (r : Int32) (s' : ST) (h : X6_circuit n s0 v1 v2 = some (r, s')) : Con G yX6_circuit cX6_circuit 3 (some .int) rm_X6_circuit [.ref (gad G 0), .int v1, .int v2] (wX G s0) (some (.int r)) (wX G s') := by
  unfold X6_circuit at h
  refine con_of (by decide +kernel) (Nat.le_of_ble_eq_true rfl) (fun {p e s m below meth c} C hr {H locs ls} B hl => ?_)
  have hx := C.1
  have hb := C.2.1
  have hl : lv_has ls 3 [(0, .ref (gad G 0)), (1, .int v1), (2, .int v2)] := hl
  refine lv_aload_n hx hb dX6_circuit_0 rfl (lv_at hl 0 rfl) ?_
  refine lv_iconst (v := (1 : Int32)) hx hb dX6_circuit_1 rfl ?_
  refine lv_iload_n hx hb dX6_circuit_2 rfl (lv_at hl 1 rfl) ?_
  refine lv_iload_n hx hb dX6_circuit_3 rfl (lv_at hl 2 rfl) ?_
  obtain ⟨r3, s2, q1, h⟩ := bd2_o h
  refine r_callVi (rest := []) C B hl (c_X6_listed G n s0 (1 : Int32) v1 v2 r3 s2 q1) cs_X6_130 (cX_0 G s0) rfl rfl rfl (Nat.le_of_ble_eq_true rfl) ⟨rfl, rfl, Nat.le_of_ble_eq_true rfl, Nat.le_of_ble_eq_true rfl⟩ dX6_circuit_4 (fun H locs B => ?_)
  obtain ⟨rfl, rfl⟩ := ret2 h
  exact r_iret C B hr rfl dX6_circuit_7
def rm_X6_flat : Room := { frames := 6, cells := 0, slots := 0, locals := 139 }
set_option maxRecDepth 100000 in
set_option maxHeartbeats 4000000 in
theorem c_X6_flat (G : GT) (n : Nat) (s0 : ST) (v1 : Int32) (v2 : Int32) (r : Int32) (s' : ST) (h : X6_flat n s0 v1 v2 = some (r, s')) : Con G yX6_flat cX6_flat 3 (some .int) rm_X6_flat [.ref (gad G 0), .int v1, .int v2] (wX G s0) (some (.int r)) (wX G s') := by
  unfold X6_flat at h
  refine con_of (by decide +kernel) (Nat.le_of_ble_eq_true rfl) (fun {p e s m below meth c} C hr {H locs ls} B hl => ?_)
  have hx := C.1
  have hb := C.2.1
  have hl : lv_has ls 3 [(0, .ref (gad G 0)), (1, .int v1), (2, .int v2)] := hl
  refine lv_aload_n hx hb dX6_flat_0 rfl (lv_at hl 0 rfl) ?_
  refine lv_iconst (v := (2 : Int32)) hx hb dX6_flat_1 rfl ?_
  refine lv_iload_n hx hb dX6_flat_2 rfl (lv_at hl 1 rfl) ?_
  refine lv_iload_n hx hb dX6_flat_3 rfl (lv_at hl 2 rfl) ?_
  obtain ⟨r3, s2, q1, h⟩ := bd2_o h
  refine r_callVi (rest := []) C B hl (c_X6_listed G n s0 (2 : Int32) v1 v2 r3 s2 q1) cs_X6_130 (cX_0 G s0) rfl rfl rfl (Nat.le_of_ble_eq_true rfl) ⟨rfl, rfl, Nat.le_of_ble_eq_true rfl, Nat.le_of_ble_eq_true rfl⟩ dX6_flat_4 (fun H locs B => ?_)
  obtain ⟨rfl, rfl⟩ := ret2 h
  exact r_iret C B hr rfl dX6_flat_7
def rm_X6_shut : Room := { frames := 5, cells := 0, slots := 0, locals := 110 }
set_option maxRecDepth 100000 in
set_option maxHeartbeats 4000000 in
theorem c_X6_shut (G : GT) (n : Nat) (s0 : ST) (v1 : Int32) (v2 : Int32) (r : Int32) (s' : ST) (h : X6_shut n s0 v1 v2 = some (r, s')) : Con G yX6_shut cX6_shut 3 (some .int) rm_X6_shut [.ref (gad G 0), .int v1, .int v2] (wX G s0) (some (.int r)) (wX G s') := by
  unfold X6_shut at h
  refine con_of (by decide +kernel) (Nat.le_of_ble_eq_true rfl) (fun {p e s m below meth c} C hr {H locs ls} B hl => ?_)
  have hx := C.1
  have hb := C.2.1
  have hl : lv_has ls 3 [(0, .ref (gad G 0)), (1, .int v1), (2, .int v2)] := hl
  refine lv_iload_n hx hb dX6_shut_0 rfl (lv_at hl 1 rfl) ?_
  obtain ⟨r1, q2, h⟩ := bd_o h
  refine r_callSi (rest := []) C B.2.2 hl (c_X6_isSide G v1 r1 q2) cs_X6_115 rfl rfl (Nat.le_of_ble_eq_true rfl) ⟨rfl, rfl, Nat.le_of_ble_eq_true rfl, Nat.le_of_ble_eq_true rfl⟩ dX6_shut_1 ?_
  refine lv_if_ne (tgt := 9) hx hb dX6_shut_4 (by decide) (fun q3 => ?_) (fun q3 => ?_)
  · have h := ig h q3
    refine lv_aload_n hx hb dX6_shut_9 rfl (lv_at hl 0 rfl) ?_
    refine r_get C B fo_X6_10 (cX_0 G s0) rfl dX6_shut_10 ?_
    refine lv_iload_n hx hb dX6_shut_13 rfl (lv_at hl 2 rfl) ?_
    obtain ⟨r5, q4, h⟩ := bd_o h
    refine r_callVi (rest := []) C B hl (c_X4_isSet G s0 v2 r5 q4) cs_X6_81 (cX_1 G s0) rfl rfl rfl (Nat.le_of_ble_eq_true rfl) ⟨rfl, rfl, Nat.le_of_ble_eq_true rfl, Nat.le_of_ble_eq_true rfl⟩ dX6_shut_14 (fun H locs B => ?_)
    refine lv_if_ne (tgt := 23) hx hb dX6_shut_17 (by decide) (fun q6 => ?_) (fun q6 => ?_)
    · have h := ig h q6
      refine lv_aload_n hx hb dX6_shut_23 rfl (lv_at hl 0 rfl) ?_
      obtain ⟨s8, q7, h⟩ := bd_o h
      refine r_callVa (rest := []) C B hl (c_X6_freshRanks G n s0 s8 q7) cs_X6_118 (cX_0 G s0) rfl rfl rfl (Nat.le_of_ble_eq_true rfl) ⟨rfl, rfl, Nat.le_of_ble_eq_true rfl, Nat.le_of_ble_eq_true rfl⟩ dX6_shut_24 (fun H locs B => ?_)
      refine lv_iload_n hx hb dX6_shut_27 rfl (lv_at hl 1 rfl) ?_
      refine lv_iload_n hx hb dX6_shut_28 rfl (lv_at hl 2 rfl) ?_
      obtain ⟨r10, q9, h⟩ := bd_o h
      refine r_callVi (rest := []) C B hl (c_X2_shutOf G n s8 v1 v2 r10 q9) cs_X6_134 (cX_9 G s8) rfl rfl rfl (Nat.le_of_ble_eq_true rfl) ⟨rfl, rfl, Nat.le_of_ble_eq_true rfl, Nat.le_of_ble_eq_true rfl⟩ dX6_shut_29 (fun H locs B => ?_)
      obtain ⟨rfl, rfl⟩ := ret2 h
      exact r_iret C B hr rfl dX6_shut_32
    · have h := ip h q6
      refine lv_bipush (v := (-2 : Int32)) hx hb dX6_shut_20 rfl ?_
      obtain ⟨rfl, rfl⟩ := ret2 h
      exact r_iret C B hr rfl dX6_shut_22
  · have h := ip h q3
    refine lv_iconst (v := (-1 : Int32)) hx hb dX6_shut_7 rfl ?_
    obtain ⟨rfl, rfl⟩ := ret2 h
    exact r_iret C B hr rfl dX6_shut_8
def rm_X6_isEither : Room := { frames := 0, cells := 0, slots := 0, locals := 0 }
set_option maxRecDepth 100000 in
set_option maxHeartbeats 4000000 in
theorem c_X6_isEither (G : GT) (v0 : Int32) (r : Int32) (h : X6_isEither v0 = some r) : ConP G yX6_isEither cX6_isEither 1 (some .boolean) rm_X6_isEither [.int v0] (some (.int r)) := by
  unfold X6_isEither at h
  refine conP_of (by decide +kernel) (Nat.le_of_ble_eq_true rfl) (fun {p e s m below meth c} C hr {ls} hl => ?_)
  have hx := C.1
  have hb := C.2.1
  have hl : lv_has ls 1 [(0, .int v0)] := hl
  refine lv_iload_n hx hb dX6_isEither_0 rfl (lv_at hl 0 rfl) ?_
  refine lv_if_eq (tgt := 9) hx hb dX6_isEither_1 (by decide) (fun q1 => ?_) (fun q1 => ?_)
  · have h := ip h q1
    refine lv_iconst (v := (1 : Int32)) hx hb dX6_isEither_9 rfl ?_
    refine lv_goto (tgt := 14) hx hb dX6_isEither_10 (by decide) ?_
    obtain rfl := ret1 h
    exact r_iretP C hr nar_1 dX6_isEither_14
  · have h := ig h q1
    refine lv_iload_n hx hb dX6_isEither_4 rfl (lv_at hl 0 rfl) ?_
    refine lv_iconst (v := (1 : Int32)) hx hb dX6_isEither_5 rfl ?_
    refine lv_icmp_ne (tgt := 13) hx hb dX6_isEither_6 (by decide) (fun q2 => ?_) (fun q2 => ?_)
    · have h := ig h q2
      refine lv_iconst (v := (0 : Int32)) hx hb dX6_isEither_13 rfl ?_
      obtain rfl := ret1 h
      exact r_iretP C hr nar_0 dX6_isEither_14
    · have h := ip h q2
      refine lv_iconst (v := (1 : Int32)) hx hb dX6_isEither_9 rfl ?_
      refine lv_goto (tgt := 14) hx hb dX6_isEither_10 (by decide) ?_
      obtain rfl := ret1 h
      exact r_iretP C hr nar_1 dX6_isEither_14
def rm_X2_boundOf : Room := { frames := 2, cells := 0, slots := 0, locals := 44 }
set_option maxRecDepth 100000 in
set_option maxHeartbeats 4000000 in
theorem l_X2_boundOf_L1 {G : GT} {p : Program} {e : Env} {s : State} {m : MethodId} {args : Array Value} {below : List Frame} {meth : Method} {c : Code} {Q : State → Prop} (C : CT G p s m meth c args cX2_boundOf 5 RX2) (hr : meth.sig.returnType = (some .int)) (s0 : ST) (v2 : Int32) (v1 : Int32) : ∀ (k : Nat) (v4 : Int32) (v3 : Int32) (e1 : Int32), X2_boundOf_L1 s0 v2 v1 k v4 v3 = some e1 → Kn G p e rm_X2_boundOf s m args below meth c Q 5 60 [(3, .int e1)] (wX G s0) → Kn G p e rm_X2_boundOf s m args below meth c Q 5 13 [(0, .ref (gad G 9)), (2, .int v2), (1, .int v1), (4, .int v4), (3, .int v3)] (wX G s0) := by
  have hx := C.1
  have hb := C.2.1
  intro k
  induction k with
  | zero =>
    intro v4 v3 e1 h
    exact nso h
  | succ k ih =>
    intro v4 v3 e1 h hk H locs ls B hl
    have h : X2_boundOf_L1_b s0 v2 v1 (X2_boundOf_L1 s0 v2 v1 k) v4 v3 = some e1 := h
    unfold X2_boundOf_L1_b at h
    refine lv_iload hx hb dX2_boundOf_13 (lv_at hl 3 rfl) ?_
    refine lv_aload_n hx hb dX2_boundOf_15 rfl (lv_at hl 0 rfl) ?_
    refine r_get C B fo_X2_32 (cX_9 G s0) rfl dX2_boundOf_16 ?_
    refine r_get C B fo_X2_44 (cX_1 G s0) rfl dX2_boundOf_19 ?_
    refine lv_icmp_ge (tgt := 60) hx hb dX2_boundOf_22 (by decide) (fun q3 => ?_) (fun q3 => ?_)
    · have h := ip h q3
      obtain rfl := ret1 h
      exact hk H locs ls B (lv_sub hl [4] rfl)
    · have h := ig h q3
      refine lv_aload_n hx hb dX2_boundOf_25 rfl (lv_at hl 0 rfl) ?_
      refine lv_iload_n hx hb dX2_boundOf_26 rfl (lv_at hl 2 rfl) ?_
      refine lv_iload_n hx hb dX2_boundOf_27 rfl (lv_at hl 1 rfl) ?_
      refine lv_iconst (v := (1 : Int32)) hx hb dX2_boundOf_28 rfl ?_
      refine lv_iload hx hb dX2_boundOf_29 (lv_at hl 3 rfl) ?_
      refine lv_ishl hx hb dX2_boundOf_31 ?_
      refine lv_iconst (v := (-1 : Int32)) hx hb dX2_boundOf_32 rfl ?_
      refine lv_ixor hx hb dX2_boundOf_33 ?_
      refine lv_iand hx hb dX2_boundOf_34 ?_
      obtain ⟨r5, q4, h⟩ := bd_o h
      refine r_callVi (rest := []) C B hl (c_X2_of G s0 v1 (v2 &&& (((1 : Int32) <<< (v4 &&& 31)) ^^^ (-1 : Int32))) r5 q4) cs_X2_95 (cX_9 G s0) rfl rfl rfl (Nat.le_of_ble_eq_true rfl) ⟨rfl, rfl, Nat.le_of_ble_eq_true rfl, Nat.le_of_ble_eq_true rfl⟩ dX2_boundOf_35 (fun H locs B => ?_)
      refine lv_aload_n hx hb dX2_boundOf_38 rfl (lv_at hl 0 rfl) ?_
      refine lv_iload_n hx hb dX2_boundOf_39 rfl (lv_at hl 2 rfl) ?_
      refine lv_iload_n hx hb dX2_boundOf_40 rfl (lv_at hl 1 rfl) ?_
      obtain ⟨r7, q6, h⟩ := bd_o h
      refine r_callVi (rest := [.int r5]) C B hl (c_X2_of G s0 v1 v2 r7 q6) cs_X2_95 (cX_9 G s0) rfl rfl rfl (Nat.le_of_ble_eq_true rfl) ⟨rfl, rfl, Nat.le_of_ble_eq_true rfl, Nat.le_of_ble_eq_true rfl⟩ dX2_boundOf_41 (fun H locs B => ?_)
      refine lv_icmp_ge (tgt := 54) hx hb dX2_boundOf_44 (by decide) (fun q8 => ?_) (fun q8 => ?_)
      · have h := ip h q8
        obtain ⟨v4_9, q10, h⟩ := nm_o h
        refine lv_iinc (v := v4_9) (lv' := [(4, .int v4_9), (0, .ref (gad G 9)), (2, .int v2), (1, .int v1), (3, .int v3)]) hx hb dX2_boundOf_54 hl (k := 3) rfl q10.symm (by decide) rfl (fun ls hl => ?_)
        refine lv_goto (tgt := 13) hx hb dX2_boundOf_57 (by decide) ?_
        exact ih v4_9 v3 e1 h hk H locs ls B (lv_sub hl [1, 2, 3, 0, 4] rfl)
      · have h := ig h q8
        refine lv_iload_n hx hb dX2_boundOf_47 rfl (lv_at hl 4 rfl) ?_
        refine lv_iconst (v := (1 : Int32)) hx hb dX2_boundOf_48 rfl ?_
        refine lv_iload hx hb dX2_boundOf_49 (lv_at hl 3 rfl) ?_
        refine lv_ishl hx hb dX2_boundOf_51 ?_
        refine lv_ior hx hb dX2_boundOf_52 ?_
        obtain ⟨v3_11, q12, h⟩ := nm_o h
        refine r_nm q12 ?_
        refine lv_istore_n (lv' := [(3, .int v3_11), (0, .ref (gad G 9)), (2, .int v2), (1, .int v1), (4, .int v4)]) hx hb dX2_boundOf_53 rfl hl (by decide) rfl (fun ls hl => ?_)
        obtain ⟨v4_13, q14, h⟩ := nm_o h
        refine lv_iinc (v := v4_13) (lv' := [(4, .int v4_13), (3, .int v3_11), (0, .ref (gad G 9)), (2, .int v2), (1, .int v1)]) hx hb dX2_boundOf_54 hl (k := 4) rfl q14.symm (by decide) rfl (fun ls hl => ?_)
        refine lv_goto (tgt := 13) hx hb dX2_boundOf_57 (by decide) ?_
        exact ih v4_13 v3_11 e1 h hk H locs ls B (lv_sub hl [2, 3, 4, 0, 1] rfl)
set_option maxRecDepth 100000 in
set_option maxHeartbeats 4000000 in
theorem c_X2_boundOf (G : GT) (n : Nat) (s0 : ST) (v1 : Int32) (r : Int32) (h : X2_boundOf n s0 v1 = some r) : Con G yX2_boundOf cX2_boundOf 5 (some .int) rm_X2_boundOf [.ref (gad G 9), .int v1] (wX G s0) (some (.int r)) (wX G s0) := by
  unfold X2_boundOf at h
  refine con_of (by decide +kernel) (Nat.le_of_ble_eq_true rfl) (fun {p e s m below meth c} C hr {H locs ls} B hl => ?_)
  have hx := C.1
  have hb := C.2.1
  have hl : lv_has ls 5 [(0, .ref (gad G 9)), (1, .int v1)] := hl
  refine lv_aload_n hx hb dX2_boundOf_0 rfl (lv_at hl 0 rfl) ?_
  refine r_get C B fo_X2_32 (cX_9 G s0) rfl dX2_boundOf_1 ?_
  obtain ⟨r2, q1, h⟩ := bd_o h
  refine r_callVi (rest := []) C B hl (c_X4_all G s0 r2 q1) cs_X2_71 (cX_1 G s0) rfl rfl rfl (Nat.le_of_ble_eq_true rfl) ⟨rfl, rfl, Nat.le_of_ble_eq_true rfl, Nat.le_of_ble_eq_true rfl⟩ dX2_boundOf_4 (fun H locs B => ?_)
  refine lv_istore_n (lv' := [(2, .int r2), (0, .ref (gad G 9)), (1, .int v1)]) hx hb dX2_boundOf_7 rfl hl (by decide) rfl (fun ls hl => ?_)
  refine lv_iconst (v := (0 : Int32)) hx hb dX2_boundOf_8 rfl ?_
  refine lv_istore_n (lv' := [(3, .int (0 : Int32)), (2, .int r2), (0, .ref (gad G 9)), (1, .int v1)]) hx hb dX2_boundOf_9 rfl hl (by decide) rfl (fun ls hl => ?_)
  refine lv_iconst (v := (0 : Int32)) hx hb dX2_boundOf_10 rfl ?_
  refine lv_istore (lv' := [(4, .int (0 : Int32)), (3, .int (0 : Int32)), (2, .int r2), (0, .ref (gad G 9)), (1, .int v1)]) hx hb dX2_boundOf_11 hl (by decide) rfl (fun ls hl => ?_)
  obtain ⟨e15, q16, h⟩ := bd_o h
  refine l_X2_boundOf_L1 C hr s0 r2 v1 n (0 : Int32) (0 : Int32) e15 q16 ?_ H locs ls B (lv_sub hl [3, 2, 4, 0, 1] rfl)
  intro H locs ls B hl
  refine lv_iload_n hx hb dX2_boundOf_60 rfl (lv_at hl 0 rfl) ?_
  obtain rfl := ret1 h
  exact r_iret C B hr rfl dX2_boundOf_61
def rm_X6_loops : Room := { frames := 5, cells := 0, slots := 0, locals := 110 }
set_option maxRecDepth 100000 in
set_option maxHeartbeats 4000000 in
theorem c_X6_loops (G : GT) (n : Nat) (s0 : ST) (v1 : Int32) (v2 : Int32) (r : Int32) (s' : ST) (h : X6_loops n s0 v1 v2 = some (r, s')) : Con G yX6_loops cX6_loops 4 (some .int) rm_X6_loops [.ref (gad G 0), .int v1, .int v2] (wX G s0) (some (.int r)) (wX G s') := by
  unfold X6_loops at h
  refine con_of (by decide +kernel) (Nat.le_of_ble_eq_true rfl) (fun {p e s m below meth c} C hr {H locs ls} B hl => ?_)
  have hx := C.1
  have hb := C.2.1
  have hl : lv_has ls 4 [(0, .ref (gad G 0)), (1, .int v1), (2, .int v2)] := hl
  refine lv_iload_n hx hb dX6_loops_0 rfl (lv_at hl 1 rfl) ?_
  obtain ⟨r1, q2, h⟩ := bd_o h
  refine r_callSi (rest := []) C B.2.2 hl (c_X6_isSide G v1 r1 q2) cs_X6_115 rfl rfl (Nat.le_of_ble_eq_true rfl) ⟨rfl, rfl, Nat.le_of_ble_eq_true rfl, Nat.le_of_ble_eq_true rfl⟩ dX6_loops_1 ?_
  refine lv_if_eq (tgt := 14) hx hb dX6_loops_4 (by decide) (fun q3 => ?_) (fun q3 => ?_)
  · have h := ip h q3
    refine lv_iconst (v := (-1 : Int32)) hx hb dX6_loops_14 rfl ?_
    obtain ⟨rfl, rfl⟩ := ret2 h
    exact r_iret C B hr rfl dX6_loops_15
  · have h := ig h q3
    refine lv_iload_n hx hb dX6_loops_7 rfl (lv_at hl 2 rfl) ?_
    obtain ⟨r4, q5, h⟩ := bd_o h
    refine r_callSi (rest := []) C B.2.2 hl (c_X6_isEither G v2 r4 q5) cs_X6_137 rfl rfl (Nat.le_of_ble_eq_true rfl) ⟨rfl, rfl, Nat.le_of_ble_eq_true rfl, Nat.le_of_ble_eq_true rfl⟩ dX6_loops_8 ?_
    refine lv_if_ne (tgt := 16) hx hb dX6_loops_11 (by decide) (fun q6 => ?_) (fun q6 => ?_)
    · have h := ig h q6
      refine lv_aload_n hx hb dX6_loops_16 rfl (lv_at hl 0 rfl) ?_
      obtain ⟨s8, q7, h⟩ := bd_o h
      refine r_callVa (rest := []) C B hl (c_X6_freshRanks G n s0 s8 q7) cs_X6_118 (cX_0 G s0) rfl rfl rfl (Nat.le_of_ble_eq_true rfl) ⟨rfl, rfl, Nat.le_of_ble_eq_true rfl, Nat.le_of_ble_eq_true rfl⟩ dX6_loops_17 (fun H locs B => ?_)
      refine lv_astore_n (lv' := [(3, .ref (gad G 9)), (0, .ref (gad G 0)), (1, .int v1), (2, .int v2)]) hx hb dX6_loops_20 rfl hl (by decide) rfl (fun ls hl => ?_)
      refine lv_iload_n hx hb dX6_loops_21 rfl (lv_at hl 3 rfl) ?_
      refine lv_if_ne (tgt := 34) hx hb dX6_loops_22 (by decide) (fun q9 => ?_) (fun q9 => ?_)
      · have h := ig h q9
        refine lv_aload_n hx hb dX6_loops_34 rfl (lv_at hl 0 rfl) ?_
        refine lv_iload_n hx hb dX6_loops_35 rfl (lv_at hl 2 rfl) ?_
        obtain ⟨r11, q10, h⟩ := bd_o h
        refine r_callVi (rest := []) C B hl (c_X2_boundOf G n s8 v1 r11 q10) cs_X6_140 (cX_9 G s8) rfl rfl rfl (Nat.le_of_ble_eq_true rfl) ⟨rfl, rfl, Nat.le_of_ble_eq_true rfl, Nat.le_of_ble_eq_true rfl⟩ dX6_loops_36 (fun H locs B => ?_)
        obtain ⟨rfl, rfl⟩ := ret2 h
        exact r_iret C B hr rfl dX6_loops_39
      · have h := ip h q9
        refine lv_aload_n hx hb dX6_loops_25 rfl (lv_at hl 0 rfl) ?_
        refine lv_iload_n hx hb dX6_loops_26 rfl (lv_at hl 2 rfl) ?_
        refine lv_iconst (v := (0 : Int32)) hx hb dX6_loops_27 rfl ?_
        obtain ⟨r13, q12, h⟩ := bd_o h
        refine r_callVi (rest := []) C B hl (c_X2_shutOf G n s8 v1 (0 : Int32) r13 q12) cs_X6_134 (cX_9 G s8) rfl rfl rfl (Nat.le_of_ble_eq_true rfl) ⟨rfl, rfl, Nat.le_of_ble_eq_true rfl, Nat.le_of_ble_eq_true rfl⟩ dX6_loops_28 (fun H locs B => ?_)
        refine lv_goto (tgt := 39) hx hb dX6_loops_31 (by decide) ?_
        obtain ⟨rfl, rfl⟩ := ret2 h
        exact r_iret C B hr rfl dX6_loops_39
    · have h := ip h q6
      refine lv_iconst (v := (-1 : Int32)) hx hb dX6_loops_14 rfl ?_
      obtain ⟨rfl, rfl⟩ := ret2 h
      exact r_iret C B hr rfl dX6_loops_15
def rm_X2_roundOf : Room := { frames := 4, cells := 0, slots := 0, locals := 88 }
set_option maxRecDepth 100000 in
set_option maxHeartbeats 4000000 in
theorem l_X2_roundOf_L1 {G : GT} {p : Program} {e : Env} {s : State} {m : MethodId} {args : Array Value} {below : List Frame} {meth : Method} {c : Code} {Q : State → Prop} (C : CT G p s m meth c args cX2_roundOf 5 RX2) (hr : meth.sig.returnType = (some .int)) (s0 : ST) (v1 : Int32) (v2 : Int32) : ∀ (k : Nat) (v4 : Int32) (v3 : Int32) (e1 : Int32), X2_roundOf_L1 s0 v1 v2 k v4 v3 = some e1 → Kn G p e rm_X2_roundOf s m args below meth c Q 5 55 [(3, .int e1)] (wX G s0) → Kn G p e rm_X2_roundOf s m args below meth c Q 5 5 [(0, .ref (gad G 9)), (1, .int v1), (2, .int v2), (4, .int v4), (3, .int v3)] (wX G s0) := by
  have hx := C.1
  have hb := C.2.1
  intro k
  induction k with
  | zero =>
    intro v4 v3 e1 h
    exact nso h
  | succ k ih =>
    intro v4 v3 e1 h hk H locs ls B hl
    have h : X2_roundOf_L1_b s0 v1 v2 (X2_roundOf_L1 s0 v1 v2 k) v4 v3 = some e1 := h
    unfold X2_roundOf_L1_b at h
    refine lv_iload hx hb dX2_roundOf_5 (lv_at hl 3 rfl) ?_
    refine lv_aload_n hx hb dX2_roundOf_7 rfl (lv_at hl 0 rfl) ?_
    refine r_get C B fo_X2_32 (cX_9 G s0) rfl dX2_roundOf_8 ?_
    refine r_get C B fo_X2_44 (cX_1 G s0) rfl dX2_roundOf_11 ?_
    refine lv_icmp_ge (tgt := 55) hx hb dX2_roundOf_14 (by decide) (fun q1 => ?_) (fun q1 => ?_)
    · have h := ip h q1
      obtain rfl := ret1 h
      exact hk H locs ls B (lv_sub hl [4] rfl)
    · have h := ig h q1
      refine lv_iload_n hx hb dX2_roundOf_17 rfl (lv_at hl 2 rfl) ?_
      refine lv_iload hx hb dX2_roundOf_18 (lv_at hl 3 rfl) ?_
      obtain ⟨r2, q3, h⟩ := bd_o h
      refine r_callSNi (rest := []) C B.2.2 hl (c_X6_has G v2 v4 r2 q3) cs_X2_50 rfl rfl (Nat.le_of_ble_eq_true rfl) ⟨rfl, rfl, Nat.le_of_ble_eq_true rfl, Nat.le_of_ble_eq_true rfl⟩ dX2_roundOf_20 ?_
      refine lv_if_eq (tgt := 49) hx hb dX2_roundOf_23 (by decide) (fun q4 => ?_) (fun q4 => ?_)
      · have h := ip h q4
        obtain ⟨v4_5, q6, h⟩ := nm_o h
        refine lv_iinc (v := v4_5) (lv' := [(4, .int v4_5), (0, .ref (gad G 9)), (1, .int v1), (2, .int v2), (3, .int v3)]) hx hb dX2_roundOf_49 hl (k := 3) rfl q6.symm (by decide) rfl (fun ls hl => ?_)
        refine lv_goto (tgt := 5) hx hb dX2_roundOf_52 (by decide) ?_
        exact ih v4_5 v3 e1 h hk H locs ls B (lv_sub hl [1, 2, 3, 0, 4] rfl)
      · have h := ig h q4
        refine lv_aload_n hx hb dX2_roundOf_26 rfl (lv_at hl 0 rfl) ?_
        refine lv_iload_n hx hb dX2_roundOf_27 rfl (lv_at hl 1 rfl) ?_
        refine lv_iload_n hx hb dX2_roundOf_28 rfl (lv_at hl 2 rfl) ?_
        refine lv_iconst (v := (1 : Int32)) hx hb dX2_roundOf_29 rfl ?_
        refine lv_iload hx hb dX2_roundOf_30 (lv_at hl 3 rfl) ?_
        refine lv_ishl hx hb dX2_roundOf_32 ?_
        refine lv_iconst (v := (-1 : Int32)) hx hb dX2_roundOf_33 rfl ?_
        refine lv_ixor hx hb dX2_roundOf_34 ?_
        refine lv_iand hx hb dX2_roundOf_35 ?_
        obtain ⟨r8, q7, h⟩ := bd_o h
        refine r_callVi (rest := []) C B hl (c_X2_isBase G s0 v1 (v2 &&& (((1 : Int32) <<< (v4 &&& 31)) ^^^ (-1 : Int32))) r8 q7) cs_X2_101 (cX_9 G s0) rfl rfl rfl (Nat.le_of_ble_eq_true rfl) ⟨rfl, rfl, Nat.le_of_ble_eq_true rfl, Nat.le_of_ble_eq_true rfl⟩ dX2_roundOf_36 (fun H locs B => ?_)
        refine lv_if_eq (tgt := 49) hx hb dX2_roundOf_39 (by decide) (fun q9 => ?_) (fun q9 => ?_)
        · have h := ip h q9
          obtain ⟨v4_10, q11, h⟩ := nm_o h
          refine lv_iinc (v := v4_10) (lv' := [(4, .int v4_10), (0, .ref (gad G 9)), (1, .int v1), (2, .int v2), (3, .int v3)]) hx hb dX2_roundOf_49 hl (k := 3) rfl q11.symm (by decide) rfl (fun ls hl => ?_)
          refine lv_goto (tgt := 5) hx hb dX2_roundOf_52 (by decide) ?_
          exact ih v4_10 v3 e1 h hk H locs ls B (lv_sub hl [1, 2, 3, 0, 4] rfl)
        · have h := ig h q9
          refine lv_iload_n hx hb dX2_roundOf_42 rfl (lv_at hl 4 rfl) ?_
          refine lv_iconst (v := (1 : Int32)) hx hb dX2_roundOf_43 rfl ?_
          refine lv_iload hx hb dX2_roundOf_44 (lv_at hl 3 rfl) ?_
          refine lv_ishl hx hb dX2_roundOf_46 ?_
          refine lv_ior hx hb dX2_roundOf_47 ?_
          obtain ⟨v3_12, q13, h⟩ := nm_o h
          refine r_nm q13 ?_
          refine lv_istore_n (lv' := [(3, .int v3_12), (0, .ref (gad G 9)), (1, .int v1), (2, .int v2), (4, .int v4)]) hx hb dX2_roundOf_48 rfl hl (by decide) rfl (fun ls hl => ?_)
          obtain ⟨v4_14, q15, h⟩ := nm_o h
          refine lv_iinc (v := v4_14) (lv' := [(4, .int v4_14), (3, .int v3_12), (0, .ref (gad G 9)), (1, .int v1), (2, .int v2)]) hx hb dX2_roundOf_49 hl (k := 4) rfl q15.symm (by decide) rfl (fun ls hl => ?_)
          refine lv_goto (tgt := 5) hx hb dX2_roundOf_52 (by decide) ?_
          exact ih v4_14 v3_12 e1 h hk H locs ls B (lv_sub hl [2, 3, 4, 0, 1] rfl)
set_option maxRecDepth 100000 in
set_option maxHeartbeats 4000000 in
theorem c_X2_roundOf (G : GT) (n : Nat) (s0 : ST) (v1 : Int32) (v2 : Int32) (r : Int32) (h : X2_roundOf n s0 v1 v2 = some r) : Con G yX2_roundOf cX2_roundOf 5 (some .int) rm_X2_roundOf [.ref (gad G 9), .int v1, .int v2] (wX G s0) (some (.int r)) (wX G s0) := by
  unfold X2_roundOf at h
  refine con_of (by decide +kernel) (Nat.le_of_ble_eq_true rfl) (fun {p e s m below meth c} C hr {H locs ls} B hl => ?_)
  have hx := C.1
  have hb := C.2.1
  have hl : lv_has ls 5 [(0, .ref (gad G 9)), (1, .int v1), (2, .int v2)] := hl
  refine lv_iconst (v := (0 : Int32)) hx hb dX2_roundOf_0 rfl ?_
  refine lv_istore_n (lv' := [(3, .int (0 : Int32)), (0, .ref (gad G 9)), (1, .int v1), (2, .int v2)]) hx hb dX2_roundOf_1 rfl hl (by decide) rfl (fun ls hl => ?_)
  refine lv_iconst (v := (0 : Int32)) hx hb dX2_roundOf_2 rfl ?_
  refine lv_istore (lv' := [(4, .int (0 : Int32)), (3, .int (0 : Int32)), (0, .ref (gad G 9)), (1, .int v1), (2, .int v2)]) hx hb dX2_roundOf_3 hl (by decide) rfl (fun ls hl => ?_)
  obtain ⟨e16, q17, h⟩ := bd_o h
  refine l_X2_roundOf_L1 C hr s0 v1 v2 n (0 : Int32) (0 : Int32) e16 q17 ?_ H locs ls B (lv_sub hl [2, 3, 4, 0, 1] rfl)
  intro H locs ls B hl
  refine lv_iload_n hx hb dX2_roundOf_55 rfl (lv_at hl 0 rfl) ?_
  obtain rfl := ret1 h
  exact r_iret C B hr rfl dX2_roundOf_56
