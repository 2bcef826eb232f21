/-! WALKS (X 2): each method comes back with what its plain function says -/
set_option maxRecDepth 100000 in
set_option maxHeartbeats 4000000 in
theorem c_X1_spread_10 (G : GT) (n : Nat) (s0 : ST) (v1 : Int32) (s' : ST) (h : X1_spread_10 n s0 v1 = some s') : Con G yX1_spread cX1_spread 4 none rm_X1_spread_10 [.ref (gad G 10), .int v1] (wX G s0) none (wX G s') := by
  unfold X1_spread_10 at h
  refine con_of (by decide +kernel) (Nat.le_of_ble_eq_true rfl) (fun {p e s m below meth c} C hr {H locs ls} B hl => ?_)
  have hx := C.1
  have hb := C.2.1
  have hl : lv_has ls 4 [(0, .ref (gad G 10)), (1, .int v1)] := hl
  refine lv_iload_n hx hb dX1_spread_0 rfl (lv_at hl 1 rfl) ?_
  refine lv_bipush (v := (6 : Int32)) hx hb dX1_spread_1 rfl ?_
  refine lv_icmp_ge (tgt := 45) hx hb dX1_spread_3 (by decide) (fun q1 => ?_) (fun q1 => ?_)
  · have h := ip h q1
    refine lv_iconst (v := (1 : Int32)) hx hb dX1_spread_45 rfl ?_
    refine lv_iload_n hx hb dX1_spread_46 rfl (lv_at hl 1 rfl) ?_
    refine lv_bipush (v := (6 : Int32)) hx hb dX1_spread_47 rfl ?_
    refine lv_isub hx hb dX1_spread_49 ?_
    refine lv_ishl hx hb dX1_spread_50 ?_
    obtain ⟨v2_2, q3, h⟩ := nm_o h
    refine r_nm q3 ?_
    refine lv_istore_n (lv' := [(2, .int v2_2), (0, .ref (gad G 10)), (1, .int v1)]) hx hb dX1_spread_51 rfl hl (by decide) rfl (fun ls hl => ?_)
    refine lv_iconst (v := (0 : Int32)) hx hb dX1_spread_52 rfl ?_
    refine lv_istore_n (lv' := [(3, .int (0 : Int32)), (2, .int v2_2), (0, .ref (gad G 10)), (1, .int v1)]) hx hb dX1_spread_53 rfl hl (by decide) rfl (fun ls hl => ?_)
    obtain ⟨e15, q16, h⟩ := bd_o h
    refine l_X1_spread_10_L1 C hr v2_2 n (0 : Int32) s0 e15 q16 ?_ H locs ls B (lv_sub hl [2, 1, 0] rfl)
    intro H locs ls B hl
    obtain rfl := ret1 h
    exact r_vret C B hr dX1_spread_90
  · have h := ig h q1
    refine lv_iconst (v := (0 : Int32)) hx hb dX1_spread_6 rfl ?_
    refine lv_istore_n (lv' := [(2, .int (0 : Int32)), (0, .ref (gad G 10)), (1, .int v1)]) hx hb dX1_spread_7 rfl hl (by decide) rfl (fun ls hl => ?_)
    obtain ⟨e26, q27, h⟩ := bd_o h
    refine l_X1_spread_10_L2 C hr v1 n (0 : Int32) s0 e26 q27 ?_ H locs ls B (lv_sub hl [1, 2, 0] rfl)
    intro H locs ls B hl
    obtain rfl := ret1 h
    exact r_vret C B hr dX1_spread_44
def rm_X1_join_10 : Room := { frames := 1, cells := 0, slots := 0, locals := 23 }
set_option maxRecDepth 100000 in
set_option maxHeartbeats 4000000 in
theorem l_X1_join_10_L1 {G : GT} {p : Program} {e : Env} {s : State} {m : MethodId} {args : Array Value} {below : List Frame} {meth : Method} {c : Code} {Q : State → Prop} (C : CT G p s m meth c args cX1_join 3 RX1) (hr : meth.sig.returnType = none) (v1 : Int32) : ∀ (k : Nat) (v2 : Int32) (s0 : ST) (e1 : ST), X1_join_10_L1  k v2 s0 = some e1 → Kn G p e rm_X1_join_10 s m args below meth c Q 3 25 [(0, .ref (gad G 10)), (1, .int v1)] (wX G e1) → Kn G p e rm_X1_join_10 s m args below meth c Q 3 2 [(0, .ref (gad G 10)), (1, .int v1), (2, .int v2)] (wX G s0) := by
  have hx := C.1
  have hb := C.2.1
  intro k
  induction k with
  | zero =>
    intro v2 s0 e1 h
    exact nso h
  | succ k ih =>
    intro v2 s0 e1 h hk H locs ls B hl
    have h : X1_join_10_L1_b  (X1_join_10_L1  k) v2 s0 = some e1 := h
    unfold X1_join_10_L1_b at h
    refine lv_iload_n hx hb dX1_join_2 rfl (lv_at hl 2 rfl) ?_
    refine lv_iconst (v := (4 : Int32)) hx hb dX1_join_3 rfl ?_
    refine lv_icmp_ge (tgt := 25) hx hb dX1_join_4 (by decide) (fun q1 => ?_) (fun q1 => ?_)
    · have h := ip h q1
      obtain rfl := ret1 h
      exact hk H locs ls B (lv_sub hl [0, 1] rfl)
    · have h := ig h q1
      refine lv_aload_n hx hb dX1_join_7 rfl (lv_at hl 0 rfl) ?_
      refine r_get C B fo_X1_15 (cX_10 G s0) rfl dX1_join_8 ?_
      refine lv_iload_n hx hb dX1_join_11 rfl (lv_at hl 2 rfl) ?_
      refine lv_aload_n hx hb dX1_join_12 rfl (lv_at hl 0 rfl) ?_
      refine r_get C B fo_X1_11 (cX_10 G s0) rfl dX1_join_13 ?_
      refine lv_iload_n hx hb dX1_join_16 rfl (lv_at hl 2 rfl) ?_
      obtain ⟨q2, h⟩ := gd_o h
      refine r_lald C B (cX_11 G s0) (inb_vp q2) dX1_join_17 ?_
      obtain ⟨q3, h⟩ := gd_o h
      obtain ⟨s4, q5, h⟩ := nm_o h
      refine r_last C B (cX_12 G s0) (inb_vp q3) ((uXj_1 G s0 _).trans (congrArg (wX G) q5.symm)) dX1_join_18 (fun H locs B => ?_)
      obtain ⟨v2_6, q7, h⟩ := nm_o h
      refine lv_iinc (v := v2_6) (lv' := [(2, .int v2_6), (0, .ref (gad G 10)), (1, .int v1)]) hx hb dX1_join_19 hl (k := 2) rfl q7.symm (by decide) rfl (fun ls hl => ?_)
      refine lv_goto (tgt := 2) hx hb dX1_join_22 (by decide) ?_
      exact ih v2_6 s4 e1 h hk H locs ls B (lv_sub hl [1, 2, 0] rfl)
set_option maxRecDepth 100000 in
set_option maxHeartbeats 4000000 in
theorem l_X1_join_10_L2 {G : GT} {p : Program} {e : Env} {s : State} {m : MethodId} {args : Array Value} {below : List Frame} {meth : Method} {c : Code} {Q : State → Prop} (C : CT G p s m meth c args cX1_join 3 RX1) (hr : meth.sig.returnType = none) (n : Nat) (v1 : Int32) : ∀ (k : Nat) (v2 : Int32) (s0 : ST) (e1 : ST), X1_join_10_L2 n v1 k v2 s0 = some e1 → Kn G p e rm_X1_join_10 s m args below meth c Q 3 52 [] (wX G e1) → Kn G p e rm_X1_join_10 s m args below meth c Q 3 27 [(0, .ref (gad G 10)), (1, .int v1), (2, .int v2)] (wX G s0) := by
  have hx := C.1
  have hb := C.2.1
  intro k
  induction k with
  | zero =>
    intro v2 s0 e1 h
    exact nso h
  | succ k ih =>
    intro v2 s0 e1 h hk H locs ls B hl
    have h : X1_join_10_L2_b n v1 (X1_join_10_L2 n v1 k) v2 s0 = some e1 := h
    unfold X1_join_10_L2_b at h
    refine lv_iload_n hx hb dX1_join_27 rfl (lv_at hl 2 rfl) ?_
    refine lv_bipush (v := (8 : Int32)) hx hb dX1_join_28 rfl ?_
    refine lv_icmp_ge (tgt := 52) hx hb dX1_join_30 (by decide) (fun q10 => ?_) (fun q10 => ?_)
    · have h := ip h q10
      obtain rfl := ret1 h
      exact hk H locs ls B (lv_sub hl [] rfl)
    · have h := ig h q10
      refine lv_iload_n hx hb dX1_join_33 rfl (lv_at hl 1 rfl) ?_
      refine lv_iload_n hx hb dX1_join_34 rfl (lv_at hl 2 rfl) ?_
      obtain ⟨r11, q12, h⟩ := bd_o h
      refine r_callSNi (rest := []) C B.2.2 hl (c_X6_has G v1 v2 r11 q12) cs_X1_18 rfl rfl (Nat.le_of_ble_eq_true rfl) ⟨rfl, rfl, Nat.le_of_ble_eq_true rfl, Nat.le_of_ble_eq_true rfl⟩ dX1_join_35 ?_
      refine lv_if_eq (tgt := 46) hx hb dX1_join_38 (by decide) (fun q13 => ?_) (fun q13 => ?_)
      · have h := ip h q13
        obtain ⟨v2_14, q15, h⟩ := nm_o h
        refine lv_iinc (v := v2_14) (lv' := [(2, .int v2_14), (0, .ref (gad G 10)), (1, .int v1)]) hx hb dX1_join_46 hl (k := 2) rfl q15.symm (by decide) rfl (fun ls hl => ?_)
        refine lv_goto (tgt := 27) hx hb dX1_join_49 (by decide) ?_
        exact ih v2_14 s0 e1 h hk H locs ls B (lv_sub hl [1, 2, 0] rfl)
      · have h := ig h q13
        refine lv_aload_n hx hb dX1_join_41 rfl (lv_at hl 0 rfl) ?_
        refine lv_iload_n hx hb dX1_join_42 rfl (lv_at hl 2 rfl) ?_
        obtain ⟨s17, q16, h⟩ := bd_o h
        refine r_callVv (rest := []) C B hl (c_X1_spread_10 G n s0 v2 s17 q16) cs_X1_22 (cX_10 G s0) rfl rfl rfl (Nat.le_of_ble_eq_true rfl) ⟨rfl, rfl, Nat.le_of_ble_eq_true rfl, Nat.le_of_ble_eq_true rfl⟩ dX1_join_43 (fun H locs B => ?_)
        obtain ⟨v2_18, q19, h⟩ := nm_o h
        refine lv_iinc (v := v2_18) (lv' := [(2, .int v2_18), (0, .ref (gad G 10)), (1, .int v1)]) hx hb dX1_join_46 hl (k := 2) rfl q19.symm (by decide) rfl (fun ls hl => ?_)
        refine lv_goto (tgt := 27) hx hb dX1_join_49 (by decide) ?_
        exact ih v2_18 s17 e1 h hk H locs ls B (lv_sub hl [1, 2, 0] rfl)
set_option maxRecDepth 100000 in
set_option maxHeartbeats 4000000 in
theorem c_X1_join_10 (G : GT) (n : Nat) (s0 : ST) (v1 : Int32) (s' : ST) (h : X1_join_10 n s0 v1 = some s') : Con G yX1_join cX1_join 3 none rm_X1_join_10 [.ref (gad G 10), .int v1] (wX G s0) none (wX G s') := by
  unfold X1_join_10 at h
  refine con_of (by decide +kernel) (Nat.le_of_ble_eq_true rfl) (fun {p e s m below meth c} C hr {H locs ls} B hl => ?_)
  have hx := C.1
  have hb := C.2.1
  have hl : lv_has ls 3 [(0, .ref (gad G 10)), (1, .int v1)] := hl
  refine lv_iconst (v := (0 : Int32)) hx hb dX1_join_0 rfl ?_
  refine lv_istore_n (lv' := [(2, .int (0 : Int32)), (0, .ref (gad G 10)), (1, .int v1)]) hx hb dX1_join_1 rfl hl (by decide) rfl (fun ls hl => ?_)
  obtain ⟨e8, q9, h⟩ := bd_o h
  refine l_X1_join_10_L1 C hr v1 n (0 : Int32) s0 e8 q9 ?_ H locs ls B (lv_sub hl [1, 2, 0] rfl)
  intro H locs ls B hl
  refine lv_iconst (v := (0 : Int32)) hx hb dX1_join_25 rfl ?_
  refine lv_istore_n (lv' := [(2, .int (0 : Int32)), (0, .ref (gad G 10)), (1, .int v1)]) hx hb dX1_join_26 rfl hl (by decide) rfl (fun ls hl => ?_)
  obtain ⟨e20, q21, h⟩ := bd_o h
  refine l_X1_join_10_L2 C hr n v1 n (0 : Int32) e8 e20 q21 ?_ H locs ls B (lv_sub hl [1, 2, 0] rfl)
  intro H locs ls B hl
  obtain rfl := ret1 h
  exact r_vret C B hr dX1_join_52
def rm_X1_holds_10 : Room := { frames := 0, cells := 0, slots := 0, locals := 0 }
set_option maxRecDepth 100000 in
set_option maxHeartbeats 4000000 in
theorem c_X1_holds_10 (G : GT) (s0 : ST) (v1 : Int32) (r : Int32) (h : X1_holds_10 s0 v1 = some r) : Con G yX1_holds cX1_holds 2 (some .boolean) rm_X1_holds_10 [.ref (gad G 10), .int v1] (wX G s0) (some (.int r)) (wX G s0) := by
  unfold X1_holds_10 at h
  refine con_of (by decide +kernel) (Nat.le_of_ble_eq_true rfl) (fun {p e s m below meth c} C hr {H locs ls} B hl => ?_)
  have hx := C.1
  have hb := C.2.1
  have hl : lv_has ls 2 [(0, .ref (gad G 10)), (1, .int v1)] := hl
  refine lv_aload_n hx hb dX1_holds_0 rfl (lv_at hl 0 rfl) ?_
  refine r_get C B fo_X1_11 (cX_10 G s0) rfl dX1_holds_1 ?_
  refine lv_iload_n hx hb dX1_holds_4 rfl (lv_at hl 1 rfl) ?_
  refine lv_bipush (v := (6 : Int32)) hx hb dX1_holds_5 rfl ?_
  refine lv_ishr hx hb dX1_holds_7 ?_
  obtain ⟨q1, h⟩ := gd_o h
  refine r_lald C B (cX_11 G s0) (inb_vp q1) dX1_holds_8 ?_
  refine lv_iload_n hx hb dX1_holds_9 rfl (lv_at hl 1 rfl) ?_
  refine lv_bipush (v := (63 : Int32)) hx hb dX1_holds_10 rfl ?_
  refine lv_iand hx hb dX1_holds_12 ?_
  refine lv_lushr hx hb dX1_holds_13 rfl ?_
  refine lv_lconst (v := (1 : Int64)) hx hb dX1_holds_14 rfl ?_
  refine lv_land hx hb dX1_holds_15 ?_
  refine lv_lconst (v := (1 : Int64)) hx hb dX1_holds_16 rfl ?_
  refine W.lcmp hx hb dX1_holds_17 ?_
  refine lv_if_ne (tgt := 25) hx hb dX1_holds_18 (by decide) (fun q2 => ?_) (fun q2 => ?_)
  · have h := ig h q2
    refine lv_iconst (v := (0 : Int32)) hx hb dX1_holds_25 rfl ?_
    obtain rfl := ret1 h
    exact r_iret C B hr nar_0 dX1_holds_26
  · have h := ip h q2
    refine lv_iconst (v := (1 : Int32)) hx hb dX1_holds_21 rfl ?_
    refine lv_goto (tgt := 26) hx hb dX1_holds_22 (by decide) ?_
    obtain rfl := ret1 h
    exact r_iret C B hr nar_1 dX1_holds_26
def rm_X2_greatestWithin_a17 : Room := { frames := 1, cells := 0, slots := 0, locals := 21 }
set_option maxRecDepth 100000 in
set_option maxHeartbeats 4000000 in
theorem l_X2_greatestWithin_a17_L1 {G : GT} {p : Program} {e : Env} {s : State} {m : MethodId} {args : Array Value} {below : List Frame} {meth : Method} {c : Code} {Q : State → Prop} (C : CT G p s m meth c args cX2_greatestWithin 5 RX2) (hr : meth.sig.returnType = (some .int)) (s0 : ST) (v2 : Int32) : ∀ (k : Nat) (v4 : Int32) (v3 : Int32) (e1 : Int32), X2_greatestWithin_a17_L1 s0 v2 k v4 v3 = some e1 → Kn G p e rm_X2_greatestWithin_a17 s m args below meth c Q 5 44 [(3, .int e1)] (wX G s0) → Kn G p e rm_X2_greatestWithin_a17 s m args below meth c Q 5 5 [(0, .ref (gad G 9)), (1, .ref (gad G 17)), (2, .int v2), (4, .int v4), (3, .int v3)] (wX G s0) := by
  have hx := C.1
  have hb := C.2.1
  intro k
  induction k with
  | zero =>
    intro v4 v3 e1 h
    exact nso h
  | succ k ih =>
    intro v4 v3 e1 h hk H locs ls B hl
    have h : X2_greatestWithin_a17_L1_b s0 v2 (X2_greatestWithin_a17_L1 s0 v2 k) v4 v3 = some e1 := h
    unfold X2_greatestWithin_a17_L1_b at h
    refine lv_iload hx hb dX2_greatestWithin_5 (lv_at hl 3 rfl) ?_
    refine lv_aload_n hx hb dX2_greatestWithin_7 rfl (lv_at hl 0 rfl) ?_
    refine r_get C B fo_X2_28 (cX_9 G s0) rfl dX2_greatestWithin_8 ?_
    refine lv_icmp_ge (tgt := 44) hx hb dX2_greatestWithin_11 (by decide) (fun q1 => ?_) (fun q1 => ?_)
    · have h := ip h q1
      obtain rfl := ret1 h
      exact hk H locs ls B (lv_sub hl [4] rfl)
    · have h := ig h q1
      refine lv_iload_n hx hb dX2_greatestWithin_14 rfl (lv_at hl 2 rfl) ?_
      refine lv_iload hx hb dX2_greatestWithin_15 (lv_at hl 3 rfl) ?_
      obtain ⟨r2, q3, h⟩ := bd_o h
      refine r_callSNi (rest := []) C B.2.2 hl (c_X6_has G v2 v4 r2 q3) cs_X2_53 rfl rfl (Nat.le_of_ble_eq_true rfl) ⟨rfl, rfl, Nat.le_of_ble_eq_true rfl, Nat.le_of_ble_eq_true rfl⟩ dX2_greatestWithin_17 ?_
      refine lv_if_eq (tgt := 38) hx hb dX2_greatestWithin_20 (by decide) (fun q4 => ?_) (fun q4 => ?_)
      · have h := ip h q4
        obtain ⟨v4_5, q6, h⟩ := nm_o h
        refine lv_iinc (v := v4_5) (lv' := [(4, .int v4_5), (0, .ref (gad G 9)), (1, .ref (gad G 17)), (2, .int v2), (3, .int v3)]) hx hb dX2_greatestWithin_38 hl (k := 3) rfl q6.symm (by decide) rfl (fun ls hl => ?_)
        refine lv_goto (tgt := 5) hx hb dX2_greatestWithin_41 (by decide) ?_
        exact ih v4_5 v3 e1 h hk H locs ls B (lv_sub hl [1, 2, 3, 0, 4] rfl)
      · have h := ig h q4
        refine lv_iload_n hx hb dX2_greatestWithin_23 rfl (lv_at hl 4 rfl) ?_
        refine lv_aload_n hx hb dX2_greatestWithin_24 rfl (lv_at hl 1 rfl) ?_
        refine lv_iload_n hx hb dX2_greatestWithin_25 rfl (lv_at hl 2 rfl) ?_
        refine lv_iconst (v := (1 : Int32)) hx hb dX2_greatestWithin_26 rfl ?_
        refine lv_iload hx hb dX2_greatestWithin_27 (lv_at hl 3 rfl) ?_
        refine lv_ishl hx hb dX2_greatestWithin_29 ?_
        refine lv_iconst (v := (-1 : Int32)) hx hb dX2_greatestWithin_30 rfl ?_
        refine lv_ixor hx hb dX2_greatestWithin_31 ?_
        refine lv_iand hx hb dX2_greatestWithin_32 ?_
        obtain ⟨q7, h⟩ := gd_o h
        refine r_iald C B (cX_17 G s0) (inb_vp q7) dX2_greatestWithin_33 ?_
        obtain ⟨r8, q9, h⟩ := nm_o h
        refine va_mmax hx hb (C.2.2.1.trans hl.1.symm) C.2.2.2.1 (C.2.2.2.2.1 _ wm_414) (C.2.2.2.2.1 _ wm_415) (C.2.2.2.2.1 _ wm_70) (C.2.2.2.2.1 _ wm_416) (Nat.le_of_ble_eq_true rfl) (Nat.le_of_ble_eq_true rfl) (Nat.zero_le _) (Nat.zero_le _) dX2_greatestWithin_34 ?_
        refine r_nm q9 ?_
        refine lv_istore_n (lv' := [(3, .int r8), (0, .ref (gad G 9)), (1, .ref (gad G 17)), (2, .int v2), (4, .int v4)]) hx hb dX2_greatestWithin_37 rfl hl (by decide) rfl (fun ls hl => ?_)
        obtain ⟨v4_10, q11, h⟩ := nm_o h
        refine lv_iinc (v := v4_10) (lv' := [(4, .int v4_10), (3, .int r8), (0, .ref (gad G 9)), (1, .ref (gad G 17)), (2, .int v2)]) hx hb dX2_greatestWithin_38 hl (k := 4) rfl q11.symm (by decide) rfl (fun ls hl => ?_)
        refine lv_goto (tgt := 5) hx hb dX2_greatestWithin_41 (by decide) ?_
        exact ih v4_10 r8 e1 h hk H locs ls B (lv_sub hl [2, 3, 4, 0, 1] rfl)
set_option maxRecDepth 100000 in
set_option maxHeartbeats 4000000 in
theorem c_X2_greatestWithin_a17 (G : GT) (n : Nat) (s0 : ST) (v2 : Int32) (r : Int32) (h : X2_greatestWithin_a17 n s0 v2 = some r) : Con G yX2_greatestWithin cX2_greatestWithin 5 (some .int) rm_X2_greatestWithin_a17 [.ref (gad G 9), .ref (gad G 17), .int v2] (wX G s0) (some (.int r)) (wX G s0) := by
  unfold X2_greatestWithin_a17 at h
  refine con_of (by decide +kernel) (Nat.le_of_ble_eq_true rfl) (fun {p e s m below meth c} C hr {H locs ls} B hl => ?_)
  have hx := C.1
  have hb := C.2.1
  have hl : lv_has ls 5 [(0, .ref (gad G 9)), (1, .ref (gad G 17)), (2, .int v2)] := hl
  refine lv_iconst (v := (0 : Int32)) hx hb dX2_greatestWithin_0 rfl ?_
  refine lv_istore_n (lv' := [(3, .int (0 : Int32)), (0, .ref (gad G 9)), (1, .ref (gad G 17)), (2, .int v2)]) hx hb dX2_greatestWithin_1 rfl hl (by decide) rfl (fun ls hl => ?_)
  refine lv_iconst (v := (0 : Int32)) hx hb dX2_greatestWithin_2 rfl ?_
  refine lv_istore (lv' := [(4, .int (0 : Int32)), (3, .int (0 : Int32)), (0, .ref (gad G 9)), (1, .ref (gad G 17)), (2, .int v2)]) hx hb dX2_greatestWithin_3 hl (by decide) rfl (fun ls hl => ?_)
  obtain ⟨e12, q13, h⟩ := bd_o h
  refine l_X2_greatestWithin_a17_L1 C hr s0 v2 n (0 : Int32) (0 : Int32) e12 q13 ?_ H locs ls B (lv_sub hl [2, 3, 4, 0, 1] rfl)
  intro H locs ls B hl
  refine lv_iload_n hx hb dX2_greatestWithin_44 rfl (lv_at hl 0 rfl) ?_
  obtain rfl := ret1 h
  exact r_iret C B hr rfl dX2_greatestWithin_45
def rm_X2_fill_a17_a10 : Room := { frames := 2, cells := 0, slots := 0, locals := 45 }
set_option maxRecDepth 100000 in
set_option maxHeartbeats 4000000 in
theorem l_X2_fill_a17_a10_L1 {G : GT} {p : Program} {e : Env} {s : State} {m : MethodId} {args : Array Value} {below : List Frame} {meth : Method} {c : Code} {Q : State → Prop} (C : CT G p s m meth c args cX2_fill 4 RX2) (hr : meth.sig.returnType = none) (n : Nat) : ∀ (k : Nat) (v3 : Int32) (s0 : ST) (e1 : ST), X2_fill_a17_a10_L1 n k v3 s0 = some e1 → Kn G p e rm_X2_fill_a17_a10 s m args below meth c Q 4 40 [] (wX G e1) → Kn G p e rm_X2_fill_a17_a10 s m args below meth c Q 4 2 [(0, .ref (gad G 9)), (1, .ref (gad G 17)), (2, .ref (gad G 10)), (3, .int v3)] (wX G s0) := by
  have hx := C.1
  have hb := C.2.1
  intro k
  induction k with
  | zero =>
    intro v3 s0 e1 h
    exact nso h
  | succ k ih =>
    intro v3 s0 e1 h hk H locs ls B hl
    have h : X2_fill_a17_a10_L1_b n (X2_fill_a17_a10_L1 n k) v3 s0 = some e1 := h
    unfold X2_fill_a17_a10_L1_b at h
    refine lv_iload_n hx hb dX2_fill_2 rfl (lv_at hl 3 rfl) ?_
    refine lv_aload_n hx hb dX2_fill_3 rfl (lv_at hl 0 rfl) ?_
    refine r_get C B fo_X2_32 (cX_9 G s0) rfl dX2_fill_4 ?_
    refine lv_icmp_gt (tgt := 40) hx hb dX2_fill_7 (by decide) (fun q1 => ?_) (fun q1 => ?_)
    · have h := ip h q1
      obtain rfl := ret1 h
      exact hk H locs ls B (lv_sub hl [] rfl)
    · have h := ig h q1
      refine lv_aload_n hx hb dX2_fill_10 rfl (lv_at hl 1 rfl) ?_
      refine lv_iload_n hx hb dX2_fill_11 rfl (lv_at hl 3 rfl) ?_
      refine lv_aload_n hx hb dX2_fill_12 rfl (lv_at hl 2 rfl) ?_
      refine lv_iload_n hx hb dX2_fill_13 rfl (lv_at hl 3 rfl) ?_
      obtain ⟨r3, q2, h⟩ := bd_o h
      refine r_callVi (rest := [.int v3, .ref (gad G 17)]) C B hl (c_X1_holds_10 G s0 v3 r3 q2) cs_X2_74 (cX_10 G s0) rfl rfl rfl (Nat.le_of_ble_eq_true rfl) ⟨rfl, rfl, Nat.le_of_ble_eq_true rfl, Nat.le_of_ble_eq_true rfl⟩ dX2_fill_14 (fun H locs B => ?_)
      refine lv_if_eq (tgt := 27) hx hb dX2_fill_17 (by decide) (fun q4 => ?_) (fun q4 => ?_)
      · have h := ip h q4
        refine lv_aload_n hx hb dX2_fill_27 rfl (lv_at hl 0 rfl) ?_
        refine lv_aload_n hx hb dX2_fill_28 rfl (lv_at hl 1 rfl) ?_
        refine lv_iload_n hx hb dX2_fill_29 rfl (lv_at hl 3 rfl) ?_
        obtain ⟨r6, q5, h⟩ := bd_o h
        refine r_callVi (rest := [.int v3, .ref (gad G 17)]) C B hl (c_X2_greatestWithin_a17 G n s0 v3 r6 q5) cs_X2_84 (cX_9 G s0) rfl rfl rfl (Nat.le_of_ble_eq_true rfl) ⟨rfl, rfl, Nat.le_of_ble_eq_true rfl, Nat.le_of_ble_eq_true rfl⟩ dX2_fill_30 (fun H locs B => ?_)
        obtain ⟨q7, h⟩ := gd_o h
        obtain ⟨s8, q9, h⟩ := nm_o h
        refine r_iast C B (cX_17 G s0) (inb_vp q7) ((uXa_7 G s0 _).trans (congrArg (wX G) q9.symm)) dX2_fill_33 (fun H locs B => ?_)
        obtain ⟨v3_10, q11, h⟩ := nm_o h
        refine lv_iinc (v := v3_10) (lv' := [(3, .int v3_10), (0, .ref (gad G 9)), (1, .ref (gad G 17)), (2, .ref (gad G 10))]) hx hb dX2_fill_34 hl (k := 3) rfl q11.symm (by decide) rfl (fun ls hl => ?_)
        refine lv_goto (tgt := 2) hx hb dX2_fill_37 (by decide) ?_
        exact ih v3_10 s8 e1 h hk H locs ls B (lv_sub hl [1, 2, 3, 0] rfl)
      · have h := ig h q4
        refine lv_iload_n hx hb dX2_fill_20 rfl (lv_at hl 3 rfl) ?_
        obtain ⟨r12, q13, h⟩ := bd_o h
        refine r_callSi (rest := [.int v3, .ref (gad G 17)]) C B.2.2 hl (c_J6_bitCount G v3 r12 q13) cs_X2_78 rfl rfl (Nat.le_of_ble_eq_true rfl) ⟨rfl, rfl, Nat.le_of_ble_eq_true rfl, Nat.le_of_ble_eq_true rfl⟩ dX2_fill_21 ?_
        refine lv_goto (tgt := 33) hx hb dX2_fill_24 (by decide) ?_
        obtain ⟨q14, h⟩ := gd_o h
        obtain ⟨s15, q16, h⟩ := nm_o h
        refine r_iast C B (cX_17 G s0) (inb_vp q14) ((uXa_7 G s0 _).trans (congrArg (wX G) q16.symm)) dX2_fill_33 (fun H locs B => ?_)
        obtain ⟨v3_17, q18, h⟩ := nm_o h
        refine lv_iinc (v := v3_17) (lv' := [(3, .int v3_17), (0, .ref (gad G 9)), (1, .ref (gad G 17)), (2, .ref (gad G 10))]) hx hb dX2_fill_34 hl (k := 3) rfl q18.symm (by decide) rfl (fun ls hl => ?_)
        refine lv_goto (tgt := 2) hx hb dX2_fill_37 (by decide) ?_
        exact ih v3_17 s15 e1 h hk H locs ls B (lv_sub hl [1, 2, 3, 0] rfl)
set_option maxRecDepth 100000 in
set_option maxHeartbeats 4000000 in
theorem c_X2_fill_a17_a10 (G : GT) (n : Nat) (s0 : ST)  (s' : ST) (h : X2_fill_a17_a10 n s0  = some s') : Con G yX2_fill cX2_fill 4 none rm_X2_fill_a17_a10 [.ref (gad G 9), .ref (gad G 17), .ref (gad G 10)] (wX G s0) none (wX G s') := by
  unfold X2_fill_a17_a10 at h
  refine con_of (by decide +kernel) (Nat.le_of_ble_eq_true rfl) (fun {p e s m below meth c} C hr {H locs ls} B hl => ?_)
  have hx := C.1
  have hb := C.2.1
  have hl : lv_has ls 4 [(0, .ref (gad G 9)), (1, .ref (gad G 17)), (2, .ref (gad G 10))] := hl
  refine lv_iconst (v := (0 : Int32)) hx hb dX2_fill_0 rfl ?_
  refine lv_istore_n (lv' := [(3, .int (0 : Int32)), (0, .ref (gad G 9)), (1, .ref (gad G 17)), (2, .ref (gad G 10))]) hx hb dX2_fill_1 rfl hl (by decide) rfl (fun ls hl => ?_)
  obtain ⟨e19, q20, h⟩ := bd_o h
  refine l_X2_fill_a17_a10_L1 C hr n n (0 : Int32) s0 e19 q20 ?_ H locs ls B (lv_sub hl [1, 2, 3, 0] rfl)
  intro H locs ls B hl
  obtain rfl := ret1 h
  exact r_vret C B hr dX2_fill_40
def rm_X2_refresh : Room := { frames := 3, cells := 0, slots := 0, locals := 68 }
set_option maxRecDepth 100000 in
set_option maxHeartbeats 4000000 in
theorem l_X2_refresh_L1 {G : GT} {p : Program} {e : Env} {s : State} {m : MethodId} {args : Array Value} {below : List Frame} {meth : Method} {c : Code} {Q : State → Prop} (C : CT G p s m meth c args cX2_refresh 3 RX2) (hr : meth.sig.returnType = none) (n : Nat) : ∀ (k : Nat) (v2 : Int32) (s0 : ST) (e1 : ST), X2_refresh_L1 n k v2 s0 = some e1 → Kn G p e rm_X2_refresh s m args below meth c Q 3 79 [(0, .ref (gad G 9)), (1, .ref (gad G 1))] (wX G e1) → Kn G p e rm_X2_refresh s m args below meth c Q 3 37 [(0, .ref (gad G 9)), (1, .ref (gad G 1)), (2, .int v2)] (wX G s0) := by
  have hx := C.1
  have hb := C.2.1
  intro k
  induction k with
  | zero =>
    intro v2 s0 e1 h
    exact nso h
  | succ k ih =>
    intro v2 s0 e1 h hk H locs ls B hl
    have h : X2_refresh_L1_b n (X2_refresh_L1 n k) v2 s0 = some e1 := h
    unfold X2_refresh_L1_b at h
    refine lv_iload_n hx hb dX2_refresh_37 rfl (lv_at hl 2 rfl) ?_
    refine lv_aload_n hx hb dX2_refresh_38 rfl (lv_at hl 1 rfl) ?_
    refine r_get C B fo_X2_43 (cX_1 G s0) rfl dX2_refresh_39 ?_
    refine lv_icmp_ge (tgt := 79) hx hb dX2_refresh_42 (by decide) (fun q10 => ?_) (fun q10 => ?_)
    · have h := ip h q10
      obtain rfl := ret1 h
      exact hk H locs ls B (lv_sub hl [0, 1] rfl)
    · have h := ig h q10
      refine lv_aload_n hx hb dX2_refresh_45 rfl (lv_at hl 1 rfl) ?_
      refine r_get C B fo_X2_50 (cX_1 G s0) rfl dX2_refresh_46 ?_
      refine lv_iload_n hx hb dX2_refresh_49 rfl (lv_at hl 2 rfl) ?_
      obtain ⟨r11, q12, h⟩ := bd_o h
      refine r_callSNi (rest := []) C B.2.2 hl (c_X6_has G (s0.1 2) v2 r11 q12) cs_X2_53 rfl rfl (Nat.le_of_ble_eq_true rfl) ⟨rfl, rfl, Nat.le_of_ble_eq_true rfl, Nat.le_of_ble_eq_true rfl⟩ dX2_refresh_50 ?_
      refine lv_if_ne (tgt := 73) hx hb dX2_refresh_53 (by decide) (fun q13 => ?_) (fun q13 => ?_)
      · have h := ig h q13
        obtain ⟨v2_14, q15, h⟩ := nm_o h
        refine lv_iinc (v := v2_14) (lv' := [(2, .int v2_14), (0, .ref (gad G 9)), (1, .ref (gad G 1))]) hx hb dX2_refresh_73 hl (k := 2) rfl q15.symm (by decide) rfl (fun ls hl => ?_)
        refine lv_goto (tgt := 37) hx hb dX2_refresh_76 (by decide) ?_
        exact ih v2_14 s0 e1 h hk H locs ls B (lv_sub hl [1, 2, 0] rfl)
      · have h := ip h q13
        refine lv_aload_n hx hb dX2_refresh_56 rfl (lv_at hl 0 rfl) ?_
        refine r_get C B fo_X2_18 (cX_9 G s0) rfl dX2_refresh_57 ?_
        refine lv_aload_n hx hb dX2_refresh_60 rfl (lv_at hl 1 rfl) ?_
        refine r_get C B fo_X2_57 (cX_1 G s0) rfl dX2_refresh_61 ?_
        refine lv_iload_n hx hb dX2_refresh_64 rfl (lv_at hl 2 rfl) ?_
        obtain ⟨q16, h⟩ := gd_o h
        refine r_iald C B (cX_2 G s0) (inb_vp q16) dX2_refresh_65 ?_
        refine lv_iconst (v := (1 : Int32)) hx hb dX2_refresh_66 rfl ?_
        refine lv_iload_n hx hb dX2_refresh_67 rfl (lv_at hl 2 rfl) ?_
        refine lv_ishl hx hb dX2_refresh_68 ?_
        refine lv_ior hx hb dX2_refresh_69 ?_
        obtain ⟨s18, q17, h⟩ := bd_o h
        refine r_callVv (rest := []) C B hl (c_X1_join_13 G n s0 ((s0.2.1 0 (v2).toNatClampNeg) ||| ((1 : Int32) <<< (v2 &&& 31))) s18 q17) cs_X2_60 (cX_13 G s0) rfl rfl rfl (Nat.le_of_ble_eq_true rfl) ⟨rfl, rfl, Nat.le_of_ble_eq_true rfl, Nat.le_of_ble_eq_true rfl⟩ dX2_refresh_70 (fun H locs B => ?_)
        obtain ⟨v2_19, q20, h⟩ := nm_o h
        refine lv_iinc (v := v2_19) (lv' := [(2, .int v2_19), (0, .ref (gad G 9)), (1, .ref (gad G 1))]) hx hb dX2_refresh_73 hl (k := 2) rfl q20.symm (by decide) rfl (fun ls hl => ?_)
        refine lv_goto (tgt := 37) hx hb dX2_refresh_76 (by decide) ?_
        exact ih v2_19 s18 e1 h hk H locs ls B (lv_sub hl [1, 2, 0] rfl)
set_option maxRecDepth 100000 in
set_option maxHeartbeats 4000000 in
theorem l_X2_refresh_L2 {G : GT} {p : Program} {e : Env} {s : State} {m : MethodId} {args : Array Value} {below : List Frame} {meth : Method} {c : Code} {Q : State → Prop} (C : CT G p s m meth c args cX2_refresh 3 RX2) (hr : meth.sig.returnType = none) (n : Nat) : ∀ (k : Nat) (v2 : Int32) (s0 : ST) (e1 : ST), X2_refresh_L2 n k v2 s0 = some e1 → Kn G p e rm_X2_refresh s m args below meth c Q 3 127 [(0, .ref (gad G 9)), (1, .ref (gad G 1))] (wX G e1) → Kn G p e rm_X2_refresh s m args below meth c Q 3 100 [(0, .ref (gad G 9)), (1, .ref (gad G 1)), (2, .int v2)] (wX G s0) := by
  have hx := C.1
  have hb := C.2.1
  intro k
  induction k with
  | zero =>
    intro v2 s0 e1 h
    exact nso h
  | succ k ih =>
    intro v2 s0 e1 h hk H locs ls B hl
    have h : X2_refresh_L2_b n (X2_refresh_L2 n k) v2 s0 = some e1 := h
    unfold X2_refresh_L2_b at h
    refine lv_iload_n hx hb dX2_refresh_100 rfl (lv_at hl 2 rfl) ?_
    refine lv_aload_n hx hb dX2_refresh_101 rfl (lv_at hl 1 rfl) ?_
    refine r_get C B fo_X2_68 (cX_1 G s0) rfl dX2_refresh_102 ?_
    refine lv_icmp_ge (tgt := 127) hx hb dX2_refresh_105 (by decide) (fun q27 => ?_) (fun q27 => ?_)
    · have h := ip h q27
      obtain rfl := ret1 h
      exact hk H locs ls B (lv_sub hl [0, 1] rfl)
    · have h := ig h q27
      refine lv_aload_n hx hb dX2_refresh_108 rfl (lv_at hl 0 rfl) ?_
      refine r_get C B fo_X2_12 (cX_9 G s0) rfl dX2_refresh_109 ?_
      refine lv_aload_n hx hb dX2_refresh_112 rfl (lv_at hl 1 rfl) ?_
      refine r_get C B fo_X2_71 (cX_1 G s0) rfl dX2_refresh_113 ?_
      refine lv_iload_n hx hb dX2_refresh_116 rfl (lv_at hl 2 rfl) ?_
      obtain ⟨q28, h⟩ := gd_o h
      refine r_iald C B (cX_4 G s0) (inb_vp q28) dX2_refresh_117 ?_
      obtain ⟨s30, q29, h⟩ := bd_o h
      refine r_callVv (rest := []) C B hl (c_X1_join_10 G n s0 (s0.2.1 2 (v2).toNatClampNeg) s30 q29) cs_X2_60 (cX_10 G s0) rfl rfl rfl (Nat.le_of_ble_eq_true rfl) ⟨rfl, rfl, Nat.le_of_ble_eq_true rfl, Nat.le_of_ble_eq_true rfl⟩ dX2_refresh_118 (fun H locs B => ?_)
      obtain ⟨v2_31, q32, h⟩ := nm_o h
      refine lv_iinc (v := v2_31) (lv' := [(2, .int v2_31), (0, .ref (gad G 9)), (1, .ref (gad G 1))]) hx hb dX2_refresh_121 hl (k := 2) rfl q32.symm (by decide) rfl (fun ls hl => ?_)
      refine lv_goto (tgt := 100) hx hb dX2_refresh_124 (by decide) ?_
      exact ih v2_31 s30 e1 h hk H locs ls B (lv_sub hl [1, 2, 0] rfl)
set_option maxRecDepth 100000 in
set_option maxHeartbeats 4000000 in
theorem c_X2_refresh (G : GT) (n : Nat) (s0 : ST)  (s' : ST) (h : X2_refresh n s0  = some s') : Con G yX2_refresh cX2_refresh 3 none rm_X2_refresh [.ref (gad G 9), .ref (gad G 1)] (wX G s0) none (wX G s') := by
  unfold X2_refresh at h
  refine con_of (by decide +kernel) (Nat.le_of_ble_eq_true rfl) (fun {p e s m below meth c} C hr {H locs ls} B hl => ?_)
  have hx := C.1
  have hb := C.2.1
  have hl : lv_has ls 3 [(0, .ref (gad G 9)), (1, .ref (gad G 1))] := hl
  refine lv_aload_n hx hb dX2_refresh_0 rfl (lv_at hl 0 rfl) ?_
  refine r_get C B fo_X2_35 (cX_9 G s0) rfl dX2_refresh_1 ?_
  refine lv_aload_n hx hb dX2_refresh_4 rfl (lv_at hl 1 rfl) ?_
  refine r_get C B fo_X2_38 (cX_1 G s0) rfl dX2_refresh_5 ?_
  refine lv_icmp_ne (tgt := 12) hx hb dX2_refresh_8 (by decide) (fun q1 => ?_) (fun q1 => ?_)
  · have h := ig h q1
    refine lv_aload_n hx hb dX2_refresh_12 rfl (lv_at hl 0 rfl) ?_
    refine lv_aload_n hx hb dX2_refresh_13 rfl (lv_at hl 1 rfl) ?_
    refine r_get C B fo_X2_43 (cX_1 G s0) rfl dX2_refresh_14 ?_
    obtain ⟨s2, q3, h⟩ := nm_o h
    refine r_put C B fp_X2_28 (cX_9 G s0) (Nat.le_of_ble_eq_true rfl) rfl rfl ((uXs_20 G s0 _).trans (congrArg (wX G) q3.symm)) dX2_refresh_17 (fun H locs B => ?_)
    refine lv_aload_n hx hb dX2_refresh_20 rfl (lv_at hl 0 rfl) ?_
    refine lv_aload_n hx hb dX2_refresh_21 rfl (lv_at hl 1 rfl) ?_
    obtain ⟨r5, q4, h⟩ := bd_o h
    refine r_callVi (rest := [.ref (gad G 9)]) C B hl (c_X4_all G s2 r5 q4) cs_X2_44 (cX_1 G s2) rfl rfl rfl (Nat.le_of_ble_eq_true rfl) ⟨rfl, rfl, Nat.le_of_ble_eq_true rfl, Nat.le_of_ble_eq_true rfl⟩ dX2_refresh_22 (fun H locs B => ?_)
    obtain ⟨s6, q7, h⟩ := nm_o h
    refine r_put C B fp_X2_32 (cX_9 G s2) (Nat.le_of_ble_eq_true rfl) rfl rfl ((uXs_21 G s2 _).trans (congrArg (wX G) q7.symm)) dX2_refresh_25 (fun H locs B => ?_)
    refine lv_aload_n hx hb dX2_refresh_28 rfl (lv_at hl 0 rfl) ?_
    refine r_get C B fo_X2_18 (cX_9 G s6) rfl dX2_refresh_29 ?_
    obtain ⟨s9, q8, h⟩ := bd_o h
    refine r_callVv (rest := []) C B hl (c_X1_begin_13 G n s6 s9 q8) cs_X2_47 (cX_13 G s6) rfl rfl rfl (Nat.le_of_ble_eq_true rfl) ⟨rfl, rfl, Nat.le_of_ble_eq_true rfl, Nat.le_of_ble_eq_true rfl⟩ dX2_refresh_32 (fun H locs B => ?_)
    refine lv_iconst (v := (0 : Int32)) hx hb dX2_refresh_35 rfl ?_
    refine lv_istore_n (lv' := [(2, .int (0 : Int32)), (0, .ref (gad G 9)), (1, .ref (gad G 1))]) hx hb dX2_refresh_36 rfl hl (by decide) rfl (fun ls hl => ?_)
    obtain ⟨e21, q22, h⟩ := bd_o h
    refine l_X2_refresh_L1 C hr n n (0 : Int32) s9 e21 q22 ?_ H locs ls B (lv_sub hl [1, 2, 0] rfl)
    intro H locs ls B hl
    refine lv_aload_n hx hb dX2_refresh_79 rfl (lv_at hl 0 rfl) ?_
    refine lv_aload_n hx hb dX2_refresh_80 rfl (lv_at hl 0 rfl) ?_
    refine r_get C B fo_X2_21 (cX_9 G e21) rfl dX2_refresh_81 ?_
    refine lv_aload_n hx hb dX2_refresh_84 rfl (lv_at hl 0 rfl) ?_
    refine r_get C B fo_X2_18 (cX_9 G e21) rfl dX2_refresh_85 ?_
    obtain ⟨s24, q23, h⟩ := bd_o h
    refine r_callVv (rest := []) C B hl (c_X2_fill_a16_a13 G n e21 s24 q23) cs_X2_64 (cX_9 G e21) rfl rfl rfl (Nat.le_of_ble_eq_true rfl) ⟨rfl, rfl, Nat.le_of_ble_eq_true rfl, Nat.le_of_ble_eq_true rfl⟩ dX2_refresh_88 (fun H locs B => ?_)
    refine lv_aload_n hx hb dX2_refresh_91 rfl (lv_at hl 0 rfl) ?_
    refine r_get C B fo_X2_12 (cX_9 G s24) rfl dX2_refresh_92 ?_
    obtain ⟨s26, q25, h⟩ := bd_o h
    refine r_callVv (rest := []) C B hl (c_X1_begin_10 G n s24 s26 q25) cs_X2_47 (cX_10 G s24) rfl rfl rfl (Nat.le_of_ble_eq_true rfl) ⟨rfl, rfl, Nat.le_of_ble_eq_true rfl, Nat.le_of_ble_eq_true rfl⟩ dX2_refresh_95 (fun H locs B => ?_)
    refine lv_iconst (v := (0 : Int32)) hx hb dX2_refresh_98 rfl ?_
    refine lv_istore_n (lv' := [(2, .int (0 : Int32)), (0, .ref (gad G 9)), (1, .ref (gad G 1))]) hx hb dX2_refresh_99 rfl hl (by decide) rfl (fun ls hl => ?_)
    obtain ⟨e33, q34, h⟩ := bd_o h
    refine l_X2_refresh_L2 C hr n n (0 : Int32) s26 e33 q34 ?_ H locs ls B (lv_sub hl [1, 2, 0] rfl)
    intro H locs ls B hl
    refine lv_aload_n hx hb dX2_refresh_127 rfl (lv_at hl 0 rfl) ?_
    refine lv_aload_n hx hb dX2_refresh_128 rfl (lv_at hl 0 rfl) ?_
    refine r_get C B fo_X2_25 (cX_9 G e33) rfl dX2_refresh_129 ?_
    refine lv_aload_n hx hb dX2_refresh_132 rfl (lv_at hl 0 rfl) ?_
    refine r_get C B fo_X2_12 (cX_9 G e33) rfl dX2_refresh_133 ?_
    obtain ⟨s36, q35, h⟩ := bd_o h
    refine r_callVv (rest := []) C B hl (c_X2_fill_a17_a10 G n e33 s36 q35) cs_X2_64 (cX_9 G e33) rfl rfl rfl (Nat.le_of_ble_eq_true rfl) ⟨rfl, rfl, Nat.le_of_ble_eq_true rfl, Nat.le_of_ble_eq_true rfl⟩ dX2_refresh_136 (fun H locs B => ?_)
    refine lv_aload_n hx hb dX2_refresh_139 rfl (lv_at hl 0 rfl) ?_
    refine lv_aload_n hx hb dX2_refresh_140 rfl (lv_at hl 1 rfl) ?_
    refine r_get C B fo_X2_38 (cX_1 G s36) rfl dX2_refresh_141 ?_
    obtain ⟨s37, q38, h⟩ := nm_o h
    refine r_put C B fp_X2_35 (cX_9 G s36) (Nat.le_of_ble_eq_true rfl) rfl rfl ((uXs_9 G s36 _).trans (congrArg (wX G) q38.symm)) dX2_refresh_144 (fun H locs B => ?_)
    obtain rfl := ret1 h
    exact r_vret C B hr dX2_refresh_147
  · have h := ip h q1
    obtain rfl := ret1 h
    exact r_vret C B hr dX2_refresh_11
def rm_X6_freshRanks : Room := { frames := 4, cells := 0, slots := 0, locals := 90 }
set_option maxRecDepth 100000 in
set_option maxHeartbeats 4000000 in
theorem c_X6_freshRanks (G : GT) (n : Nat) (s0 : ST)  (s' : ST) (h : X6_freshRanks n s0  = some s') : Con G yX6_freshRanks cX6_freshRanks 1 (some (.object "RoadLinks$Ranks")) rm_X6_freshRanks [.ref (gad G 0)] (wX G s0) (some (.ref (gad G 9))) (wX G s') := by
  unfold X6_freshRanks at h
  refine con_of (by decide +kernel) (Nat.le_of_ble_eq_true rfl) (fun {p e s m below meth c} C hr {H locs ls} B hl => ?_)
  have hx := C.1
  have hb := C.2.1
  have hl : lv_has ls 1 [(0, .ref (gad G 0))] := hl
  refine lv_aload_n hx hb dX6_freshRanks_0 rfl (lv_at hl 0 rfl) ?_
  refine r_get C B fo_X6_26 (cX_0 G s0) rfl dX6_freshRanks_1 ?_
  refine lv_aload_n hx hb dX6_freshRanks_4 rfl (lv_at hl 0 rfl) ?_
  refine r_get C B fo_X6_10 (cX_0 G s0) rfl dX6_freshRanks_5 ?_
  obtain ⟨s2, q1, h⟩ := bd_o h
  refine r_callVv (rest := []) C B hl (c_X2_refresh G n s0 s2 q1) cs_X6_258 (cX_9 G s0) rfl rfl rfl (Nat.le_of_ble_eq_true rfl) ⟨rfl, rfl, Nat.le_of_ble_eq_true rfl, Nat.le_of_ble_eq_true rfl⟩ dX6_freshRanks_8 (fun H locs B => ?_)
  refine lv_aload_n hx hb dX6_freshRanks_11 rfl (lv_at hl 0 rfl) ?_
  refine r_get C B fo_X6_26 (cX_0 G s2) rfl dX6_freshRanks_12 ?_
  obtain rfl := ret1 h
  exact r_aret C B hr dX6_freshRanks_15
def rm_X2_of : Room := { frames := 1, cells := 0, slots := 0, locals := 20 }
set_option maxRecDepth 100000 in
set_option maxHeartbeats 4000000 in
theorem c_X2_of (G : GT) (s0 : ST) (v1 : Int32) (v2 : Int32) (r : Int32) (h : X2_of s0 v1 v2 = some r) : Con G yX2_of cX2_of 4 (some .int) rm_X2_of [.ref (gad G 9), .int v1, .int v2] (wX G s0) (some (.int r)) (wX G s0) := by
  unfold X2_of at h
  refine con_of (by decide +kernel) (Nat.le_of_ble_eq_true rfl) (fun {p e s m below meth c} C hr {H locs ls} B hl => ?_)
  have hx := C.1
  have hb := C.2.1
  have hl : lv_has ls 4 [(0, .ref (gad G 9)), (1, .int v1), (2, .int v2)] := hl
  refine lv_iload_n hx hb dX2_of_0 rfl (lv_at hl 1 rfl) ?_
  refine lv_if_eq (tgt := 9) hx hb dX2_of_1 (by decide) (fun q1 => ?_) (fun q1 => ?_)
  · have h := ip h q1
    refine lv_aload_n hx hb dX2_of_9 rfl (lv_at hl 0 rfl) ?_
    refine r_get C B fo_X2_21 (cX_9 G s0) rfl dX2_of_10 ?_
    refine lv_goto (tgt := 20) hx hb dX2_of_13 (by decide) ?_
    refine lv_astore_n (lv' := [(3, .ref (gad G 16)), (0, .ref (gad G 9)), (1, .int v1), (2, .int v2)]) hx hb dX2_of_20 rfl hl (by decide) rfl (fun ls hl => ?_)
    refine lv_iload_n hx hb dX2_of_21 rfl (lv_at hl 2 rfl) ?_
    refine lv_iconst (v := (1 : Int32)) hx hb dX2_of_22 rfl ?_
    refine lv_icmp_eq (tgt := 31) hx hb dX2_of_23 (by decide) (fun q2 => ?_) (fun q2 => ?_)
    · have h := ip h q2
      refine lv_aload_n hx hb dX2_of_31 rfl (lv_at hl 0 rfl) ?_
      refine lv_iload_n hx hb dX2_of_32 rfl (lv_at hl 3 rfl) ?_
      obtain ⟨q3, h⟩ := gd_o h
      refine r_iald C B (cX_16 G s0) (inb_vp q3) dX2_of_33 ?_
      obtain rfl := ret1 h
      exact r_iret C B hr rfl dX2_of_34
    · have h := ig h q2
      refine lv_iload_n hx hb dX2_of_26 rfl (lv_at hl 2 rfl) ?_
      refine lv_iconst (v := (2 : Int32)) hx hb dX2_of_27 rfl ?_
      refine lv_icmp_ne (tgt := 35) hx hb dX2_of_28 (by decide) (fun q4 => ?_) (fun q4 => ?_)
      · have h := ig h q4
        refine lv_iload_n hx hb dX2_of_35 rfl (lv_at hl 3 rfl) ?_
        obtain ⟨r5, q6, h⟩ := bd_o h
        refine r_callSi (rest := []) C B.2.2 hl (c_J6_bitCount G v2 r5 q6) cs_X2_78 rfl rfl (Nat.le_of_ble_eq_true rfl) ⟨rfl, rfl, Nat.le_of_ble_eq_true rfl, Nat.le_of_ble_eq_true rfl⟩ dX2_of_36 ?_
        refine lv_aload_n hx hb dX2_of_39 rfl (lv_at hl 0 rfl) ?_
        refine lv_aload_n hx hb dX2_of_40 rfl (lv_at hl 1 rfl) ?_
        refine r_get C B fo_X2_32 (cX_9 G s0) rfl dX2_of_41 ?_
        refine lv_iload_n hx hb dX2_of_44 rfl (lv_at hl 3 rfl) ?_
        refine lv_iconst (v := (-1 : Int32)) hx hb dX2_of_45 rfl ?_
        refine lv_ixor hx hb dX2_of_46 ?_
        refine lv_iand hx hb dX2_of_47 ?_
        obtain ⟨q7, h⟩ := gd_o h
        refine r_iald C B (cX_16 G s0) (inb_vp q7) dX2_of_48 ?_
        refine lv_iadd hx hb dX2_of_49 ?_
        refine lv_aload_n hx hb dX2_of_50 rfl (lv_at hl 0 rfl) ?_
        refine lv_aload_n hx hb dX2_of_51 rfl (lv_at hl 1 rfl) ?_
        refine r_get C B fo_X2_32 (cX_9 G s0) rfl dX2_of_52 ?_
        obtain ⟨q8, h⟩ := gd_o h
        refine r_iald C B (cX_16 G s0) (inb_vp q8) dX2_of_55 ?_
        refine lv_isub hx hb dX2_of_56 ?_
        obtain rfl := ret1 h
        exact r_iret C B hr rfl dX2_of_57
      · have h := ip h q4
        refine lv_aload_n hx hb dX2_of_31 rfl (lv_at hl 0 rfl) ?_
        refine lv_iload_n hx hb dX2_of_32 rfl (lv_at hl 3 rfl) ?_
        obtain ⟨q9, h⟩ := gd_o h
        refine r_iald C B (cX_16 G s0) (inb_vp q9) dX2_of_33 ?_
        obtain rfl := ret1 h
        exact r_iret C B hr rfl dX2_of_34
  · have h := ig h q1
    refine lv_iload_n hx hb dX2_of_4 rfl (lv_at hl 1 rfl) ?_
    refine lv_iconst (v := (2 : Int32)) hx hb dX2_of_5 rfl ?_
    refine lv_icmp_ne (tgt := 16) hx hb dX2_of_6 (by decide) (fun q10 => ?_) (fun q10 => ?_)
    · have h := ig h q10
      refine lv_aload_n hx hb dX2_of_16 rfl (lv_at hl 0 rfl) ?_
      refine r_get C B fo_X2_25 (cX_9 G s0) rfl dX2_of_17 ?_
      refine lv_astore_n (lv' := [(3, .ref (gad G 17)), (0, .ref (gad G 9)), (1, .int v1), (2, .int v2)]) hx hb dX2_of_20 rfl hl (by decide) rfl (fun ls hl => ?_)
      refine lv_iload_n hx hb dX2_of_21 rfl (lv_at hl 2 rfl) ?_
      refine lv_iconst (v := (1 : Int32)) hx hb dX2_of_22 rfl ?_
      refine lv_icmp_eq (tgt := 31) hx hb dX2_of_23 (by decide) (fun q11 => ?_) (fun q11 => ?_)
      · have h := ip h q11
        refine lv_aload_n hx hb dX2_of_31 rfl (lv_at hl 0 rfl) ?_
        refine lv_iload_n hx hb dX2_of_32 rfl (lv_at hl 3 rfl) ?_
        obtain ⟨q12, h⟩ := gd_o h
        refine r_iald C B (cX_17 G s0) (inb_vp q12) dX2_of_33 ?_
        obtain rfl := ret1 h
        exact r_iret C B hr rfl dX2_of_34
      · have h := ig h q11
        refine lv_iload_n hx hb dX2_of_26 rfl (lv_at hl 2 rfl) ?_
        refine lv_iconst (v := (2 : Int32)) hx hb dX2_of_27 rfl ?_
        refine lv_icmp_ne (tgt := 35) hx hb dX2_of_28 (by decide) (fun q13 => ?_) (fun q13 => ?_)
        · have h := ig h q13
          refine lv_iload_n hx hb dX2_of_35 rfl (lv_at hl 3 rfl) ?_
          obtain ⟨r14, q15, h⟩ := bd_o h
          refine r_callSi (rest := []) C B.2.2 hl (c_J6_bitCount G v2 r14 q15) cs_X2_78 rfl rfl (Nat.le_of_ble_eq_true rfl) ⟨rfl, rfl, Nat.le_of_ble_eq_true rfl, Nat.le_of_ble_eq_true rfl⟩ dX2_of_36 ?_
          refine lv_aload_n hx hb dX2_of_39 rfl (lv_at hl 0 rfl) ?_
          refine lv_aload_n hx hb dX2_of_40 rfl (lv_at hl 1 rfl) ?_
          refine r_get C B fo_X2_32 (cX_9 G s0) rfl dX2_of_41 ?_
          refine lv_iload_n hx hb dX2_of_44 rfl (lv_at hl 3 rfl) ?_
          refine lv_iconst (v := (-1 : Int32)) hx hb dX2_of_45 rfl ?_
          refine lv_ixor hx hb dX2_of_46 ?_
          refine lv_iand hx hb dX2_of_47 ?_
          obtain ⟨q16, h⟩ := gd_o h
          refine r_iald C B (cX_17 G s0) (inb_vp q16) dX2_of_48 ?_
          refine lv_iadd hx hb dX2_of_49 ?_
          refine lv_aload_n hx hb dX2_of_50 rfl (lv_at hl 0 rfl) ?_
          refine lv_aload_n hx hb dX2_of_51 rfl (lv_at hl 1 rfl) ?_
          refine r_get C B fo_X2_32 (cX_9 G s0) rfl dX2_of_52 ?_
          obtain ⟨q17, h⟩ := gd_o h
          refine r_iald C B (cX_17 G s0) (inb_vp q17) dX2_of_55 ?_
          refine lv_isub hx hb dX2_of_56 ?_
          obtain rfl := ret1 h
          exact r_iret C B hr rfl dX2_of_57
        · have h := ip h q13
          refine lv_aload_n hx hb dX2_of_31 rfl (lv_at hl 0 rfl) ?_
          refine lv_iload_n hx hb dX2_of_32 rfl (lv_at hl 3 rfl) ?_
          obtain ⟨q18, h⟩ := gd_o h
          refine r_iald C B (cX_17 G s0) (inb_vp q18) dX2_of_33 ?_
          obtain rfl := ret1 h
          exact r_iret C B hr rfl dX2_of_34
    · have h := ip h q10
      refine lv_aload_n hx hb dX2_of_9 rfl (lv_at hl 0 rfl) ?_
      refine r_get C B fo_X2_21 (cX_9 G s0) rfl dX2_of_10 ?_
      refine lv_goto (tgt := 20) hx hb dX2_of_13 (by decide) ?_
      refine lv_astore_n (lv' := [(3, .ref (gad G 16)), (0, .ref (gad G 9)), (1, .int v1), (2, .int v2)]) hx hb dX2_of_20 rfl hl (by decide) rfl (fun ls hl => ?_)
      refine lv_iload_n hx hb dX2_of_21 rfl (lv_at hl 2 rfl) ?_
      refine lv_iconst (v := (1 : Int32)) hx hb dX2_of_22 rfl ?_
      refine lv_icmp_eq (tgt := 31) hx hb dX2_of_23 (by decide) (fun q19 => ?_) (fun q19 => ?_)
      · have h := ip h q19
        refine lv_aload_n hx hb dX2_of_31 rfl (lv_at hl 0 rfl) ?_
        refine lv_iload_n hx hb dX2_of_32 rfl (lv_at hl 3 rfl) ?_
        obtain ⟨q20, h⟩ := gd_o h
        refine r_iald C B (cX_16 G s0) (inb_vp q20) dX2_of_33 ?_
        obtain rfl := ret1 h
        exact r_iret C B hr rfl dX2_of_34
      · have h := ig h q19
        refine lv_iload_n hx hb dX2_of_26 rfl (lv_at hl 2 rfl) ?_
        refine lv_iconst (v := (2 : Int32)) hx hb dX2_of_27 rfl ?_
        refine lv_icmp_ne (tgt := 35) hx hb dX2_of_28 (by decide) (fun q21 => ?_) (fun q21 => ?_)
        · have h := ig h q21
          refine lv_iload_n hx hb dX2_of_35 rfl (lv_at hl 3 rfl) ?_
          obtain ⟨r22, q23, h⟩ := bd_o h
          refine r_callSi (rest := []) C B.2.2 hl (c_J6_bitCount G v2 r22 q23) cs_X2_78 rfl rfl (Nat.le_of_ble_eq_true rfl) ⟨rfl, rfl, Nat.le_of_ble_eq_true rfl, Nat.le_of_ble_eq_true rfl⟩ dX2_of_36 ?_
          refine lv_aload_n hx hb dX2_of_39 rfl (lv_at hl 0 rfl) ?_
          refine lv_aload_n hx hb dX2_of_40 rfl (lv_at hl 1 rfl) ?_
          refine r_get C B fo_X2_32 (cX_9 G s0) rfl dX2_of_41 ?_
          refine lv_iload_n hx hb dX2_of_44 rfl (lv_at hl 3 rfl) ?_
          refine lv_iconst (v := (-1 : Int32)) hx hb dX2_of_45 rfl ?_
          refine lv_ixor hx hb dX2_of_46 ?_
          refine lv_iand hx hb dX2_of_47 ?_
          obtain ⟨q24, h⟩ := gd_o h
          refine r_iald C B (cX_16 G s0) (inb_vp q24) dX2_of_48 ?_
          refine lv_iadd hx hb dX2_of_49 ?_
          refine lv_aload_n hx hb dX2_of_50 rfl (lv_at hl 0 rfl) ?_
          refine lv_aload_n hx hb dX2_of_51 rfl (lv_at hl 1 rfl) ?_
          refine r_get C B fo_X2_32 (cX_9 G s0) rfl dX2_of_52 ?_
          obtain ⟨q25, h⟩ := gd_o h
          refine r_iald C B (cX_16 G s0) (inb_vp q25) dX2_of_55 ?_
          refine lv_isub hx hb dX2_of_56 ?_
          obtain rfl := ret1 h
          exact r_iret C B hr rfl dX2_of_57
        · have h := ip h q21
          refine lv_aload_n hx hb dX2_of_31 rfl (lv_at hl 0 rfl) ?_
          refine lv_iload_n hx hb dX2_of_32 rfl (lv_at hl 3 rfl) ?_
          obtain ⟨q26, h⟩ := gd_o h
          refine r_iald C B (cX_16 G s0) (inb_vp q26) dX2_of_33 ?_
          obtain rfl := ret1 h
          exact r_iret C B hr rfl dX2_of_34
def rm_X6_rank : Room := { frames := 5, cells := 0, slots := 0, locals := 110 }
set_option maxRecDepth 100000 in
set_option maxHeartbeats 4000000 in
theorem c_X6_rank (G : GT) (n : Nat) (s0 : ST) (v1 : Int32) (v2 : Int32) (r : Int32) (s' : ST) (h : X6_rank n s0 v1 v2 = some (r, s')) : Con G yX6_rank cX6_rank 3 (some .int) rm_X6_rank [.ref (gad G 0), .int v1, .int v2] (wX G s0) (some (.int r)) (wX G s') := by
  unfold X6_rank at h
  refine con_of (by decide +kernel) (Nat.le_of_ble_eq_true rfl) (fun {p e s m below meth c} C hr {H locs ls} B hl => ?_)
  have hx := C.1
  have hb := C.2.1
  have hl : lv_has ls 3 [(0, .ref (gad G 0)), (1, .int v1), (2, .int v2)] := hl
  refine lv_iload_n hx hb dX6_rank_0 rfl (lv_at hl 1 rfl) ?_
  obtain ⟨r1, q2, h⟩ := bd_o h
  refine r_callSi (rest := []) C B.2.2 hl (c_X6_isSide G v1 r1 q2) cs_X6_113 rfl rfl (Nat.le_of_ble_eq_true rfl) ⟨rfl, rfl, Nat.le_of_ble_eq_true rfl, Nat.le_of_ble_eq_true rfl⟩ dX6_rank_1 ?_
  refine lv_if_ne (tgt := 9) hx hb dX6_rank_4 (by decide) (fun q3 => ?_) (fun q3 => ?_)
  · have h := ig h q3
    refine lv_aload_n hx hb dX6_rank_9 rfl (lv_at hl 0 rfl) ?_
    refine r_get C B fo_X6_10 (cX_0 G s0) rfl dX6_rank_10 ?_
    refine lv_iload_n hx hb dX6_rank_13 rfl (lv_at hl 2 rfl) ?_
    obtain ⟨r5, q4, h⟩ := bd_o h
    refine r_callVi (rest := []) C B hl (c_X4_isSet G s0 v2 r5 q4) cs_X6_79 (cX_1 G s0) rfl rfl rfl (Nat.le_of_ble_eq_true rfl) ⟨rfl, rfl, Nat.le_of_ble_eq_true rfl, Nat.le_of_ble_eq_true rfl⟩ dX6_rank_14 (fun H locs B => ?_)
    refine lv_if_ne (tgt := 23) hx hb dX6_rank_17 (by decide) (fun q6 => ?_) (fun q6 => ?_)
    · have h := ig h q6
      refine lv_aload_n hx hb dX6_rank_23 rfl (lv_at hl 0 rfl) ?_
      obtain ⟨s8, q7, h⟩ := bd_o h
      refine r_callVa (rest := []) C B hl (c_X6_freshRanks G n s0 s8 q7) cs_X6_116 (cX_0 G s0) rfl rfl rfl (Nat.le_of_ble_eq_true rfl) ⟨rfl, rfl, Nat.le_of_ble_eq_true rfl, Nat.le_of_ble_eq_true rfl⟩ dX6_rank_24 (fun H locs B => ?_)
      refine lv_iload_n hx hb dX6_rank_27 rfl (lv_at hl 1 rfl) ?_
      refine lv_iload_n hx hb dX6_rank_28 rfl (lv_at hl 2 rfl) ?_
      obtain ⟨r10, q9, h⟩ := bd_o h
      refine r_callVi (rest := []) C B hl (c_X2_of G s8 v1 v2 r10 q9) cs_X6_120 (cX_9 G s8) rfl rfl rfl (Nat.le_of_ble_eq_true rfl) ⟨rfl, rfl, Nat.le_of_ble_eq_true rfl, Nat.le_of_ble_eq_true rfl⟩ dX6_rank_29 (fun H locs B => ?_)
      obtain ⟨rfl, rfl⟩ := ret2 h
      exact r_iret C B hr rfl dX6_rank_32
    · have h := ip h q6
      refine lv_bipush (v := (-2 : Int32)) hx hb dX6_rank_20 rfl ?_
      obtain ⟨rfl, rfl⟩ := ret2 h
      exact r_iret C B hr rfl dX6_rank_22
  · have h := ip h q3
    refine lv_iconst (v := (-1 : Int32)) hx hb dX6_rank_7 rfl ?_
    obtain ⟨rfl, rfl⟩ := ret2 h
    exact r_iret C B hr rfl dX6_rank_8
def rm_X2_isFree : Room := { frames := 2, cells := 0, slots := 0, locals := 43 }
set_option maxRecDepth 100000 in
set_option maxHeartbeats 4000000 in
theorem c_X2_isFree (G : GT) (s0 : ST) (v1 : Int32) (v2 : Int32) (r : Int32) (h : X2_isFree s0 v1 v2 = some r) : Con G yX2_isFree cX2_isFree 3 (some .boolean) rm_X2_isFree [.ref (gad G 9), .int v1, .int v2] (wX G s0) (some (.int r)) (wX G s0) := by
  unfold X2_isFree at h
  refine con_of (by decide +kernel) (Nat.le_of_ble_eq_true rfl) (fun {p e s m below meth c} C hr {H locs ls} B hl => ?_)
  have hx := C.1
  have hb := C.2.1
  have hl : lv_has ls 3 [(0, .ref (gad G 9)), (1, .int v1), (2, .int v2)] := hl
  refine lv_aload_n hx hb dX2_isFree_0 rfl (lv_at hl 0 rfl) ?_
  refine lv_iload_n hx hb dX2_isFree_1 rfl (lv_at hl 1 rfl) ?_
  refine lv_iload_n hx hb dX2_isFree_2 rfl (lv_at hl 2 rfl) ?_
  obtain ⟨r2, q1, h⟩ := bd_o h
  refine r_callVi (rest := []) C B hl (c_X2_of G s0 v1 v2 r2 q1) cs_X2_94 (cX_9 G s0) rfl rfl rfl (Nat.le_of_ble_eq_true rfl) ⟨rfl, rfl, Nat.le_of_ble_eq_true rfl, Nat.le_of_ble_eq_true rfl⟩ dX2_isFree_3 (fun H locs B => ?_)
  refine lv_iload_n hx hb dX2_isFree_6 rfl (lv_at hl 2 rfl) ?_
  obtain ⟨r3, q4, h⟩ := bd_o h
  refine r_callSi (rest := [.int r2]) C B.2.2 hl (c_J6_bitCount G v2 r3 q4) cs_X2_78 rfl rfl (Nat.le_of_ble_eq_true rfl) ⟨rfl, rfl, Nat.le_of_ble_eq_true rfl, Nat.le_of_ble_eq_true rfl⟩ dX2_isFree_7 ?_
  refine lv_icmp_ne (tgt := 17) hx hb dX2_isFree_10 (by decide) (fun q5 => ?_) (fun q5 => ?_)
  · have h := ig h q5
    refine lv_iconst (v := (0 : Int32)) hx hb dX2_isFree_17 rfl ?_
    obtain rfl := ret1 h
    exact r_iret C B hr nar_0 dX2_isFree_18
  · have h := ip h q5
    refine lv_iconst (v := (1 : Int32)) hx hb dX2_isFree_13 rfl ?_
    refine lv_goto (tgt := 18) hx hb dX2_isFree_14 (by decide) ?_
    obtain rfl := ret1 h
    exact r_iret C B hr nar_1 dX2_isFree_18
def rm_X6_free : Room := { frames := 5, cells := 0, slots := 0, locals := 110 }
set_option maxRecDepth 100000 in
set_option maxHeartbeats 4000000 in
theorem c_X6_free (G : GT) (n : Nat) (s0 : ST) (v1 : Int32) (v2 : Int32) (r : Int32) (s' : ST) (h : X6_free n s0 v1 v2 = some (r, s')) : Con G yX6_free cX6_free 3 (some .int) rm_X6_free [.ref (gad G 0), .int v1, .int v2] (wX G s0) (some (.int r)) (wX G s') := by
  unfold X6_free at h
  refine con_of (by decide +kernel) (Nat.le_of_ble_eq_true rfl) (fun {p e s m below meth c} C hr {H locs ls} B hl => ?_)
  have hx := C.1
  have hb := C.2.1
  have hl : lv_has ls 3 [(0, .ref (gad G 0)), (1, .int v1), (2, .int v2)] := hl
  refine lv_iload_n hx hb dX6_free_0 rfl (lv_at hl 1 rfl) ?_
  obtain ⟨r1, q2, h⟩ := bd_o h
  refine r_callSi (rest := []) C B.2.2 hl (c_X6_isSide G v1 r1 q2) cs_X6_113 rfl rfl (Nat.le_of_ble_eq_true rfl) ⟨rfl, rfl, Nat.le_of_ble_eq_true rfl, Nat.le_of_ble_eq_true rfl⟩ dX6_free_1 ?_
  refine lv_if_ne (tgt := 9) hx hb dX6_free_4 (by decide) (fun q3 => ?_) (fun q3 => ?_)
  · have h := ig h q3
    refine lv_aload_n hx hb dX6_free_9 rfl (lv_at hl 0 rfl) ?_
    refine r_get C B fo_X6_10 (cX_0 G s0) rfl dX6_free_10 ?_
    refine lv_iload_n hx hb dX6_free_13 rfl (lv_at hl 2 rfl) ?_
    obtain ⟨r5, q4, h⟩ := bd_o h
    refine r_callVi (rest := []) C B hl (c_X4_isSet G s0 v2 r5 q4) cs_X6_79 (cX_1 G s0) rfl rfl rfl (Nat.le_of_ble_eq_true rfl) ⟨rfl, rfl, Nat.le_of_ble_eq_true rfl, Nat.le_of_ble_eq_true rfl⟩ dX6_free_14 (fun H locs B => ?_)
    refine lv_if_ne (tgt := 23) hx hb dX6_free_17 (by decide) (fun q6 => ?_) (fun q6 => ?_)
    · have h := ig h q6
      refine lv_aload_n hx hb dX6_free_23 rfl (lv_at hl 0 rfl) ?_
      obtain ⟨s8, q7, h⟩ := bd_o h
      refine r_callVa (rest := []) C B hl (c_X6_freshRanks G n s0 s8 q7) cs_X6_116 (cX_0 G s0) rfl rfl rfl (Nat.le_of_ble_eq_true rfl) ⟨rfl, rfl, Nat.le_of_ble_eq_true rfl, Nat.le_of_ble_eq_true rfl⟩ dX6_free_24 (fun H locs B => ?_)
      refine lv_iload_n hx hb dX6_free_27 rfl (lv_at hl 1 rfl) ?_
      refine lv_iload_n hx hb dX6_free_28 rfl (lv_at hl 2 rfl) ?_
      obtain ⟨r10, q9, h⟩ := bd_o h
      refine r_callVi (rest := []) C B hl (c_X2_isFree G s8 v1 v2 r10 q9) cs_X6_124 (cX_9 G s8) rfl rfl rfl (Nat.le_of_ble_eq_true rfl) ⟨rfl, rfl, Nat.le_of_ble_eq_true rfl, Nat.le_of_ble_eq_true rfl⟩ dX6_free_29 (fun H locs B => ?_)
      refine lv_if_eq (tgt := 39) hx hb dX6_free_32 (by decide) (fun q11 => ?_) (fun q11 => ?_)
      · have h := ip h q11
        refine lv_iconst (v := (0 : Int32)) hx hb dX6_free_39 rfl ?_
        obtain ⟨rfl, rfl⟩ := ret2 h
        exact r_iret C B hr rfl dX6_free_40
      · have h := ig h q11
        refine lv_iconst (v := (1 : Int32)) hx hb dX6_free_35 rfl ?_
        refine lv_goto (tgt := 40) hx hb dX6_free_36 (by decide) ?_
        obtain ⟨rfl, rfl⟩ := ret2 h
        exact r_iret C B hr rfl dX6_free_40
    · have h := ip h q6
      refine lv_bipush (v := (-2 : Int32)) hx hb dX6_free_20 rfl ?_
      obtain ⟨rfl, rfl⟩ := ret2 h
      exact r_iret C B hr rfl dX6_free_22
  · have h := ip h q3
    refine lv_iconst (v := (-1 : Int32)) hx hb dX6_free_7 rfl ?_
    obtain ⟨rfl, rfl⟩ := ret2 h
    exact r_iret C B hr rfl dX6_free_8
def rm_X2_isBase : Room := { frames := 3, cells := 0, slots := 0, locals := 65 }
set_option maxRecDepth 100000 in
set_option maxHeartbeats 4000000 in
theorem c_X2_isBase (G : GT) (s0 : ST) (v1 : Int32) (v2 : Int32) (r : Int32) (h : X2_isBase s0 v1 v2 = some r) : Con G yX2_isBase cX2_isBase 3 (some .boolean) rm_X2_isBase [.ref (gad G 9), .int v1, .int v2] (wX G s0) (some (.int r)) (wX G s0) := by
  unfold X2_isBase at h
  refine con_of (by decide +kernel) (Nat.le_of_ble_eq_true rfl) (fun {p e s m below meth c} C hr {H locs ls} B hl => ?_)
  have hx := C.1
  have hb := C.2.1
  have hl : lv_has ls 3 [(0, .ref (gad G 9)), (1, .int v1), (2, .int v2)] := hl
  refine lv_aload_n hx hb dX2_isBase_0 rfl (lv_at hl 0 rfl) ?_
  refine lv_iload_n hx hb dX2_isBase_1 rfl (lv_at hl 1 rfl) ?_
  refine lv_iload_n hx hb dX2_isBase_2 rfl (lv_at hl 2 rfl) ?_
  obtain ⟨r2, q1, h⟩ := bd_o h
  refine r_callVi (rest := []) C B hl (c_X2_isFree G s0 v1 v2 r2 q1) cs_X2_97 (cX_9 G s0) rfl rfl rfl (Nat.le_of_ble_eq_true rfl) ⟨rfl, rfl, Nat.le_of_ble_eq_true rfl, Nat.le_of_ble_eq_true rfl⟩ dX2_isBase_3 (fun H locs B => ?_)
  refine lv_if_eq (tgt := 31) hx hb dX2_isBase_6 (by decide) (fun q3 => ?_) (fun q3 => ?_)
  · have h := ip h q3
    refine lv_iconst (v := (0 : Int32)) hx hb dX2_isBase_31 rfl ?_
    obtain rfl := ret1 h
    exact r_iret C B hr nar_0 dX2_isBase_32
  · have h := ig h q3
    refine lv_aload_n hx hb dX2_isBase_9 rfl (lv_at hl 0 rfl) ?_
    refine lv_iload_n hx hb dX2_isBase_10 rfl (lv_at hl 1 rfl) ?_
    refine lv_iload_n hx hb dX2_isBase_11 rfl (lv_at hl 2 rfl) ?_
    obtain ⟨r5, q4, h⟩ := bd_o h
    refine r_callVi (rest := []) C B hl (c_X2_of G s0 v1 v2 r5 q4) cs_X2_94 (cX_9 G s0) rfl rfl rfl (Nat.le_of_ble_eq_true rfl) ⟨rfl, rfl, Nat.le_of_ble_eq_true rfl, Nat.le_of_ble_eq_true rfl⟩ dX2_isBase_12 (fun H locs B => ?_)
    refine lv_aload_n hx hb dX2_isBase_15 rfl (lv_at hl 0 rfl) ?_
    refine lv_iload_n hx hb dX2_isBase_16 rfl (lv_at hl 1 rfl) ?_
    refine lv_aload_n hx hb dX2_isBase_17 rfl (lv_at hl 0 rfl) ?_
    refine r_get C B fo_X2_32 (cX_9 G s0) rfl dX2_isBase_18 ?_
    obtain ⟨r7, q6, h⟩ := bd_o h
    refine r_callVi (rest := [.int r5]) C B hl (c_X2_of G s0 v1 (s0.1 21) r7 q6) cs_X2_94 (cX_9 G s0) rfl rfl rfl (Nat.le_of_ble_eq_true rfl) ⟨rfl, rfl, Nat.le_of_ble_eq_true rfl, Nat.le_of_ble_eq_true rfl⟩ dX2_isBase_21 (fun H locs B => ?_)
    refine lv_icmp_ne (tgt := 31) hx hb dX2_isBase_24 (by decide) (fun q8 => ?_) (fun q8 => ?_)
    · have h := ig h q8
      refine lv_iconst (v := (0 : Int32)) hx hb dX2_isBase_31 rfl ?_
      obtain rfl := ret1 h
      exact r_iret C B hr nar_0 dX2_isBase_32
    · have h := ip h q8
      refine lv_iconst (v := (1 : Int32)) hx hb dX2_isBase_27 rfl ?_
      refine lv_goto (tgt := 32) hx hb dX2_isBase_28 (by decide) ?_
      obtain rfl := ret1 h
      exact r_iret C B hr nar_1 dX2_isBase_32
def rm_X2_isCircuit : Room := { frames := 3, cells := 0, slots := 0, locals := 65 }
set_option maxRecDepth 100000 in
set_option maxHeartbeats 4000000 in
theorem l_X2_isCircuit_L1 {G : GT} {p : Program} {e : Env} {s : State} {m : MethodId} {args : Array Value} {below : List Frame} {meth : Method} {c : Code} {Q : State → Prop} (C : CT G p s m meth c args cX2_isCircuit 4 RX2) (hr : meth.sig.returnType = (some .boolean)) (s0 : ST) (v1 : Int32) (v2 : Int32) : ∀ (k : Nat) (v3 : Int32) (e1 : (Int32) ⊕ (Unit)), X2_isCircuit_L1 s0 v1 v2 k v3 = some e1 → (∀ rv, e1 = Sum.inl rv → Q = QR G below args s (some (.int rv)) (wX G s0)) → (∀ ex, e1 = Sum.inr ex → Kn G p e rm_X2_isCircuit s m args below meth c Q 4 52 [] (wX G s0)) → Kn G p e rm_X2_isCircuit s m args below meth c Q 4 13 [(0, .ref (gad G 9)), (1, .int v1), (2, .int v2), (3, .int v3)] (wX G s0) := by
  have hx := C.1
  have hb := C.2.1
  intro k
  induction k with
  | zero =>
    intro v3 e1 h
    exact nso h
  | succ k ih =>
    intro v3 e1 h hret hk H locs ls B hl
    have h : X2_isCircuit_L1_b s0 v1 v2 (X2_isCircuit_L1 s0 v1 v2 k) v3 = some e1 := h
    unfold X2_isCircuit_L1_b at h
    refine lv_iload_n hx hb dX2_isCircuit_13 rfl (lv_at hl 3 rfl) ?_
    refine lv_aload_n hx hb dX2_isCircuit_14 rfl (lv_at hl 0 rfl) ?_
    refine r_get C B fo_X2_28 (cX_9 G s0) rfl dX2_isCircuit_15 ?_
    refine lv_icmp_ge (tgt := 52) hx hb dX2_isCircuit_18 (by decide) (fun q4 => ?_) (fun q4 => ?_)
    · have h := ip h q4
      obtain rfl := ret1 h
      exact hk _ rfl H locs ls B (lv_sub hl [] rfl)
    · have h := ig h q4
      refine lv_iload_n hx hb dX2_isCircuit_21 rfl (lv_at hl 2 rfl) ?_
      refine lv_iload_n hx hb dX2_isCircuit_22 rfl (lv_at hl 3 rfl) ?_
      obtain ⟨r5, q6, h⟩ := bd_o h
      refine r_callSNi (rest := []) C B.2.2 hl (c_X6_has G v2 v3 r5 q6) cs_X2_53 rfl rfl (Nat.le_of_ble_eq_true rfl) ⟨rfl, rfl, Nat.le_of_ble_eq_true rfl, Nat.le_of_ble_eq_true rfl⟩ dX2_isCircuit_23 ?_
      refine lv_if_eq (tgt := 46) hx hb dX2_isCircuit_26 (by decide) (fun q7 => ?_) (fun q7 => ?_)
      · have h := ip h q7
        obtain ⟨v3_8, q9, h⟩ := nm_o h
        refine lv_iinc (v := v3_8) (lv' := [(3, .int v3_8), (0, .ref (gad G 9)), (1, .int v1), (2, .int v2)]) hx hb dX2_isCircuit_46 hl (k := 3) rfl q9.symm (by decide) rfl (fun ls hl => ?_)
        refine lv_goto (tgt := 13) hx hb dX2_isCircuit_49 (by decide) ?_
        exact ih v3_8 e1 h hret hk H locs ls B (lv_sub hl [1, 2, 3, 0] rfl)
      · have h := ig h q7
        refine lv_aload_n hx hb dX2_isCircuit_29 rfl (lv_at hl 0 rfl) ?_
        refine lv_iload_n hx hb dX2_isCircuit_30 rfl (lv_at hl 1 rfl) ?_
        refine lv_iload_n hx hb dX2_isCircuit_31 rfl (lv_at hl 2 rfl) ?_
        refine lv_iconst (v := (1 : Int32)) hx hb dX2_isCircuit_32 rfl ?_
        refine lv_iload_n hx hb dX2_isCircuit_33 rfl (lv_at hl 3 rfl) ?_
        refine lv_ishl hx hb dX2_isCircuit_34 ?_
        refine lv_iconst (v := (-1 : Int32)) hx hb dX2_isCircuit_35 rfl ?_
        refine lv_ixor hx hb dX2_isCircuit_36 ?_
        refine lv_iand hx hb dX2_isCircuit_37 ?_
        obtain ⟨r11, q10, h⟩ := bd_o h
        refine r_callVi (rest := []) C B hl (c_X2_isFree G s0 v1 (v2 &&& (((1 : Int32) <<< (v3 &&& 31)) ^^^ (-1 : Int32))) r11 q10) cs_X2_97 (cX_9 G s0) rfl rfl rfl (Nat.le_of_ble_eq_true rfl) ⟨rfl, rfl, Nat.le_of_ble_eq_true rfl, Nat.le_of_ble_eq_true rfl⟩ dX2_isCircuit_38 (fun H locs B => ?_)
        refine lv_if_ne (tgt := 46) hx hb dX2_isCircuit_41 (by decide) (fun q12 => ?_) (fun q12 => ?_)
        · have h := ig h q12
          obtain ⟨v3_13, q14, h⟩ := nm_o h
          refine lv_iinc (v := v3_13) (lv' := [(3, .int v3_13), (0, .ref (gad G 9)), (1, .int v1), (2, .int v2)]) hx hb dX2_isCircuit_46 hl (k := 3) rfl q14.symm (by decide) rfl (fun ls hl => ?_)
          refine lv_goto (tgt := 13) hx hb dX2_isCircuit_49 (by decide) ?_
          exact ih v3_13 e1 h hret hk H locs ls B (lv_sub hl [1, 2, 3, 0] rfl)
        · have h := ip h q12
          refine lv_iconst (v := (0 : Int32)) hx hb dX2_isCircuit_44 rfl ?_
          obtain rfl := ret1 h
          rw [hret _ rfl]
          exact r_iret C B hr nar_0 dX2_isCircuit_45
set_option maxRecDepth 100000 in
set_option maxHeartbeats 4000000 in
theorem c_X2_isCircuit (G : GT) (n : Nat) (s0 : ST) (v1 : Int32) (v2 : Int32) (r : Int32) (h : X2_isCircuit n s0 v1 v2 = some r) : Con G yX2_isCircuit cX2_isCircuit 4 (some .boolean) rm_X2_isCircuit [.ref (gad G 9), .int v1, .int v2] (wX G s0) (some (.int r)) (wX G s0) := by
  unfold X2_isCircuit at h
  refine con_of (by decide +kernel) (Nat.le_of_ble_eq_true rfl) (fun {p e s m below meth c} C hr {H locs ls} B hl => ?_)
  have hx := C.1
  have hb := C.2.1
  have hl : lv_has ls 4 [(0, .ref (gad G 9)), (1, .int v1), (2, .int v2)] := hl
  refine lv_aload_n hx hb dX2_isCircuit_0 rfl (lv_at hl 0 rfl) ?_
  refine lv_iload_n hx hb dX2_isCircuit_1 rfl (lv_at hl 1 rfl) ?_
  refine lv_iload_n hx hb dX2_isCircuit_2 rfl (lv_at hl 2 rfl) ?_
  obtain ⟨r2, q1, h⟩ := bd_o h
  refine r_callVi (rest := []) C B hl (c_X2_isFree G s0 v1 v2 r2 q1) cs_X2_97 (cX_9 G s0) rfl rfl rfl (Nat.le_of_ble_eq_true rfl) ⟨rfl, rfl, Nat.le_of_ble_eq_true rfl, Nat.le_of_ble_eq_true rfl⟩ dX2_isCircuit_3 (fun H locs B => ?_)
  refine lv_if_eq (tgt := 11) hx hb dX2_isCircuit_6 (by decide) (fun q3 => ?_) (fun q3 => ?_)
  · have h := ip h q3
    refine lv_iconst (v := (0 : Int32)) hx hb dX2_isCircuit_11 rfl ?_
    refine lv_istore_n (lv' := [(3, .int (0 : Int32)), (0, .ref (gad G 9)), (1, .int v1), (2, .int v2)]) hx hb dX2_isCircuit_12 rfl hl (by decide) rfl (fun ls hl => ?_)
    obtain ⟨e15, q16, h⟩ := bd_o h
    refine l_X2_isCircuit_L1 C hr s0 v1 v2 n (0 : Int32) e15 q16 (fun rv q => by have h := sm_l h q; cases h; rfl) (fun e17 q18 => ?_) H locs ls B (lv_sub hl [1, 2, 3, 0] rfl)
    have h := sm_r h q18
    intro H locs ls B hl
    refine lv_iconst (v := (1 : Int32)) hx hb dX2_isCircuit_52 rfl ?_
    obtain rfl := ret1 h
    exact r_iret C B hr nar_1 dX2_isCircuit_53
  · have h := ig h q3
    refine lv_iconst (v := (0 : Int32)) hx hb dX2_isCircuit_9 rfl ?_
    obtain rfl := ret1 h
    exact r_iret C B hr nar_0 dX2_isCircuit_10
def rm_X2_shutOf : Room := { frames := 2, cells := 0, slots := 0, locals := 43 }
set_option maxRecDepth 100000 in
set_option maxHeartbeats 4000000 in
theorem l_X2_shutOf_L1 {G : GT} {p : Program} {e : Env} {s : State} {m : MethodId} {args : Array Value} {below : List Frame} {meth : Method} {c : Code} {Q : State → Prop} (C : CT G p s m meth c args cX2_shutOf 5 RX2) (hr : meth.sig.returnType = (some .int)) (s0 : ST) (v1 : Int32) (v2 : Int32) : ∀ (k : Nat) (v4 : Int32) (v3 : Int32) (e1 : Int32), X2_shutOf_L1 s0 v1 v2 k v4 v3 = some e1 → Kn G p e rm_X2_shutOf s m args below meth c Q 5 47 [(3, .int e1)] (wX G s0) → Kn G p e rm_X2_shutOf s m args below meth c Q 5 5 [(0, .ref (gad G 9)), (1, .int v1), (2, .int v2), (4, .int v4), (3, .int v3)] (wX G s0) := by
  have hx := C.1
  have hb := C.2.1
  intro k
  induction k with
  | zero =>
    intro v4 v3 e1 h
    exact nso h
  | succ k ih =>
    intro v4 v3 e1 h hk H locs ls B hl
    have h : X2_shutOf_L1_b s0 v1 v2 (X2_shutOf_L1 s0 v1 v2 k) v4 v3 = some e1 := h
    unfold X2_shutOf_L1_b at h
    refine lv_iload hx hb dX2_shutOf_5 (lv_at hl 3 rfl) ?_
    refine lv_aload_n hx hb dX2_shutOf_7 rfl (lv_at hl 0 rfl) ?_
    refine r_get C B fo_X2_28 (cX_9 G s0) rfl dX2_shutOf_8 ?_
    refine lv_icmp_ge (tgt := 47) hx hb dX2_shutOf_11 (by decide) (fun q1 => ?_) (fun q1 => ?_)
    · have h := ip h q1
      obtain rfl := ret1 h
      exact hk H locs ls B (lv_sub hl [4] rfl)
    · have h := ig h q1
      refine lv_aload_n hx hb dX2_shutOf_14 rfl (lv_at hl 0 rfl) ?_
      refine lv_iload_n hx hb dX2_shutOf_15 rfl (lv_at hl 1 rfl) ?_
      refine lv_iload_n hx hb dX2_shutOf_16 rfl (lv_at hl 2 rfl) ?_
      refine lv_iconst (v := (1 : Int32)) hx hb dX2_shutOf_17 rfl ?_
      refine lv_iload hx hb dX2_shutOf_18 (lv_at hl 3 rfl) ?_
      refine lv_ishl hx hb dX2_shutOf_20 ?_
      refine lv_ior hx hb dX2_shutOf_21 ?_
      obtain ⟨r3, q2, h⟩ := bd_o h
      refine r_callVi (rest := []) C B hl (c_X2_of G s0 v1 (v2 ||| ((1 : Int32) <<< (v4 &&& 31))) r3 q2) cs_X2_94 (cX_9 G s0) rfl rfl rfl (Nat.le_of_ble_eq_true rfl) ⟨rfl, rfl, Nat.le_of_ble_eq_true rfl, Nat.le_of_ble_eq_true rfl⟩ dX2_shutOf_22 (fun H locs B => ?_)
      refine lv_aload_n hx hb dX2_shutOf_25 rfl (lv_at hl 0 rfl) ?_
      refine lv_iload_n hx hb dX2_shutOf_26 rfl (lv_at hl 1 rfl) ?_
      refine lv_iload_n hx hb dX2_shutOf_27 rfl (lv_at hl 2 rfl) ?_
      obtain ⟨r5, q4, h⟩ := bd_o h
      refine r_callVi (rest := [.int r3]) C B hl (c_X2_of G s0 v1 v2 r5 q4) cs_X2_94 (cX_9 G s0) rfl rfl rfl (Nat.le_of_ble_eq_true rfl) ⟨rfl, rfl, Nat.le_of_ble_eq_true rfl, Nat.le_of_ble_eq_true rfl⟩ dX2_shutOf_28 (fun H locs B => ?_)
      refine lv_icmp_ne (tgt := 41) hx hb dX2_shutOf_31 (by decide) (fun q6 => ?_) (fun q6 => ?_)
      · have h := ig h q6
        obtain ⟨v4_7, q8, h⟩ := nm_o h
        refine lv_iinc (v := v4_7) (lv' := [(4, .int v4_7), (0, .ref (gad G 9)), (1, .int v1), (2, .int v2), (3, .int v3)]) hx hb dX2_shutOf_41 hl (k := 3) rfl q8.symm (by decide) rfl (fun ls hl => ?_)
        refine lv_goto (tgt := 5) hx hb dX2_shutOf_44 (by decide) ?_
        exact ih v4_7 v3 e1 h hk H locs ls B (lv_sub hl [1, 2, 3, 0, 4] rfl)
      · have h := ip h q6
        refine lv_iload_n hx hb dX2_shutOf_34 rfl (lv_at hl 4 rfl) ?_
        refine lv_iconst (v := (1 : Int32)) hx hb dX2_shutOf_35 rfl ?_
        refine lv_iload hx hb dX2_shutOf_36 (lv_at hl 3 rfl) ?_
        refine lv_ishl hx hb dX2_shutOf_38 ?_
        refine lv_ior hx hb dX2_shutOf_39 ?_
        obtain ⟨v3_9, q10, h⟩ := nm_o h
        refine r_nm q10 ?_
        refine lv_istore_n (lv' := [(3, .int v3_9), (0, .ref (gad G 9)), (1, .int v1), (2, .int v2), (4, .int v4)]) hx hb dX2_shutOf_40 rfl hl (by decide) rfl (fun ls hl => ?_)
        obtain ⟨v4_11, q12, h⟩ := nm_o h
        refine lv_iinc (v := v4_11) (lv' := [(4, .int v4_11), (3, .int v3_9), (0, .ref (gad G 9)), (1, .int v1), (2, .int v2)]) hx hb dX2_shutOf_41 hl (k := 4) rfl q12.symm (by decide) rfl (fun ls hl => ?_)
        refine lv_goto (tgt := 5) hx hb dX2_shutOf_44 (by decide) ?_
        exact ih v4_11 v3_9 e1 h hk H locs ls B (lv_sub hl [2, 3, 4, 0, 1] rfl)
set_option maxRecDepth 100000 in
set_option maxHeartbeats 4000000 in
theorem c_X2_shutOf (G : GT) (n : Nat) (s0 : ST) (v1 : Int32) (v2 : Int32) (r : Int32) (h : X2_shutOf n s0 v1 v2 = some r) : Con G yX2_shutOf cX2_shutOf 5 (some .int) rm_X2_shutOf [.ref (gad G 9), .int v1, .int v2] (wX G s0) (some (.int r)) (wX G s0) := by
  unfold X2_shutOf at h
  refine con_of (by decide +kernel) (Nat.le_of_ble_eq_true rfl) (fun {p e s m below meth c} C hr {H locs ls} B hl => ?_)
  have hx := C.1
  have hb := C.2.1
  have hl : lv_has ls 5 [(0, .ref (gad G 9)), (1, .int v1), (2, .int v2)] := hl
  refine lv_iload_n hx hb dX2_shutOf_0 rfl (lv_at hl 2 rfl) ?_
  refine lv_istore_n (lv' := [(3, .int v2), (0, .ref (gad G 9)), (1, .int v1), (2, .int v2)]) hx hb dX2_shutOf_1 rfl hl (by decide) rfl (fun ls hl => ?_)
  refine lv_iconst (v := (0 : Int32)) hx hb dX2_shutOf_2 rfl ?_
  refine lv_istore (lv' := [(4, .int (0 : Int32)), (3, .int v2), (0, .ref (gad G 9)), (1, .int v1), (2, .int v2)]) hx hb dX2_shutOf_3 hl (by decide) rfl (fun ls hl => ?_)
  obtain ⟨e13, q14, h⟩ := bd_o h
  refine l_X2_shutOf_L1 C hr s0 v1 v2 n (0 : Int32) v2 e13 q14 ?_ H locs ls B (lv_sub hl [2, 3, 4, 0, 1] rfl)
  intro H locs ls B hl
  refine lv_iload_n hx hb dX2_shutOf_47 rfl (lv_at hl 0 rfl) ?_
  obtain rfl := ret1 h
  exact r_iret C B hr rfl dX2_shutOf_48
def rm_X2_isOf : Room := { frames := 4, cells := 0, slots := 0, locals := 88 }
set_option maxRecDepth 100000 in
set_option maxHeartbeats 4000000 in
theorem c_X2_isOf (G : GT) (n : Nat) (s0 : ST) (v1 : Int32) (v2 : Int32) (v3 : Int32) (r : Int32) (h : X2_isOf n s0 v1 v2 v3 = some r) : Con G yX2_isOf cX2_isOf 4 (some .boolean) rm_X2_isOf [.ref (gad G 9), .int v1, .int v2, .int v3] (wX G s0) (some (.int r)) (wX G s0) := by
  unfold X2_isOf at h
  refine con_of (by decide +kernel) (Nat.le_of_ble_eq_true rfl) (fun {p e s m below meth c} C hr {H locs ls} B hl => ?_)
  have hx := C.1
  have hb := C.2.1
  have hl : lv_has ls 4 [(0, .ref (gad G 9)), (1, .int v1), (2, .int v2), (3, .int v3)] := hl
  refine lv_iload_n hx hb dX2_isOf_0 rfl (lv_at hl 1 rfl) ?_
  by_cases q1 : v1 = (0 : Int32)
  · have h := ip h q1
    refine r_tab (off := 27) (tgt := 28) C q1 dX2_isOf_1 (by decide) (by decide) ?_
    refine lv_aload_n hx hb dX2_isOf_28 rfl (lv_at hl 0 rfl) ?_
    refine lv_iload_n hx hb dX2_isOf_29 rfl (lv_at hl 2 rfl) ?_
    refine lv_iload_n hx hb dX2_isOf_30 rfl (lv_at hl 3 rfl) ?_
    obtain ⟨r3, q2, h⟩ := bd_o h
    refine r_callVi (rest := []) C B hl (c_X2_isBase G s0 v2 v3 r3 q2) cs_X2_100 (cX_9 G s0) rfl rfl rfl (Nat.le_of_ble_eq_true rfl) ⟨rfl, rfl, Nat.le_of_ble_eq_true rfl, Nat.le_of_ble_eq_true rfl⟩ dX2_isOf_31 (fun H locs B => ?_)
    obtain ⟨q4, h⟩ := gd_o h
    obtain rfl := ret1 h
    exact r_iret C B hr (bz_nar q4) dX2_isOf_34
  · have h := ig h q1
    by_cases q5 : v1 = (1 : Int32)
    · have h := ip h q5
      refine r_tab (off := 34) (tgt := 35) C q5 dX2_isOf_1 (by decide) (by decide) ?_
      refine lv_aload_n hx hb dX2_isOf_35 rfl (lv_at hl 0 rfl) ?_
      refine lv_iload_n hx hb dX2_isOf_36 rfl (lv_at hl 2 rfl) ?_
      refine lv_iload_n hx hb dX2_isOf_37 rfl (lv_at hl 3 rfl) ?_
      obtain ⟨r7, q6, h⟩ := bd_o h
      refine r_callVi (rest := []) C B hl (c_X2_isCircuit G n s0 v2 v3 r7 q6) cs_X2_103 (cX_9 G s0) rfl rfl rfl (Nat.le_of_ble_eq_true rfl) ⟨rfl, rfl, Nat.le_of_ble_eq_true rfl, Nat.le_of_ble_eq_true rfl⟩ dX2_isOf_38 (fun H locs B => ?_)
      obtain ⟨q8, h⟩ := gd_o h
      obtain rfl := ret1 h
      exact r_iret C B hr (bz_nar q8) dX2_isOf_41
    · have h := ig h q5
      by_cases q9 : v1 = (2 : Int32)
      · have h := ip h q9
        refine r_tab (off := 41) (tgt := 42) C q9 dX2_isOf_1 (by decide) (by decide) ?_
        refine lv_aload_n hx hb dX2_isOf_42 rfl (lv_at hl 0 rfl) ?_
        refine lv_iload_n hx hb dX2_isOf_43 rfl (lv_at hl 2 rfl) ?_
        refine lv_iload_n hx hb dX2_isOf_44 rfl (lv_at hl 3 rfl) ?_
        obtain ⟨r11, q10, h⟩ := bd_o h
        refine r_callVi (rest := []) C B hl (c_X2_shutOf G n s0 v2 v3 r11 q10) cs_X2_106 (cX_9 G s0) rfl rfl rfl (Nat.le_of_ble_eq_true rfl) ⟨rfl, rfl, Nat.le_of_ble_eq_true rfl, Nat.le_of_ble_eq_true rfl⟩ dX2_isOf_45 (fun H locs B => ?_)
        refine lv_iload_n hx hb dX2_isOf_48 rfl (lv_at hl 3 rfl) ?_
        refine lv_icmp_ne (tgt := 56) hx hb dX2_isOf_49 (by decide) (fun q12 => ?_) (fun q12 => ?_)
        · have h := ig h q12
          refine lv_iconst (v := (0 : Int32)) hx hb dX2_isOf_56 rfl ?_
          obtain rfl := ret1 h
          exact r_iret C B hr nar_0 dX2_isOf_57
        · have h := ip h q12
          refine lv_iconst (v := (1 : Int32)) hx hb dX2_isOf_52 rfl ?_
          refine lv_goto (tgt := 57) hx hb dX2_isOf_53 (by decide) ?_
          obtain rfl := ret1 h
          exact r_iret C B hr nar_1 dX2_isOf_57
      · have h := ig h q9
        refine lv_tableOut (tgt := 58) hx hb dX2_isOf_1 (r_span (fun k h1 h2 => by have e : k = 0 ∨ k = 1 ∨ k = 2 := (by omega); rcases e with rfl | rfl | rfl; exact ne_toInt q1; exact ne_toInt q5; exact ne_toInt q9)) (by decide) ?_
        refine lv_iconst (v := (0 : Int32)) hx hb dX2_isOf_58 rfl ?_
        obtain rfl := ret1 h
        exact r_iret C B hr nar_0 dX2_isOf_59
def rm_X6_listed : Room := { frames := 5, cells := 0, slots := 0, locals := 111 }
set_option maxRecDepth 100000 in
set_option maxHeartbeats 4000000 in
theorem l_X6_listed_L1 {G : GT} {p : Program} {e : Env} {s : State} {m : MethodId} {args : Array Value} {below : List Frame} {meth : Method} {c : Code} {Q : State → Prop} (C : CT G p s m meth c args cX6_listed 8 RX6) (hr : meth.sig.returnType = (some .int)) (n : Nat) (s0 : ST) (v5 : Int32) (v1 : Int32) (v2 : Int32) (v3 : Int32) : ∀ (k : Nat) (v7 : Int32) (v6 : Int32) (e1 : (Int32 × ST) ⊕ (Int32)), X6_listed_L1 n s0 v5 v1 v2 v3 k v7 v6 = some e1 → (∀ rv, e1 = Sum.inl rv → Q = QR G below args s (some (.int rv.1)) (wX G rv.2)) → (∀ ex, e1 = Sum.inr ex → Kn G p e rm_X6_listed s m args below meth c Q 8 75 [(3, .int v3), (6, .int ex)] (wX G s0)) → Kn G p e rm_X6_listed s m args below meth c Q 8 35 [(4, .ref (gad G 9)), (5, .int v5), (1, .int v1), (2, .int v2), (3, .int v3), (7, .int v7), (6, .int v6)] (wX G s0) := by
  have hx := C.1
  have hb := C.2.1
  intro k
  induction k with
  | zero =>
    intro v7 v6 e1 h
    exact nso h
  | succ k ih =>
    intro v7 v6 e1 h hret hk H locs ls B hl
    have h : X6_listed_L1_b n s0 v5 v1 v2 v3 (X6_listed_L1 n s0 v5 v1 v2 v3 k) v7 v6 = some e1 := h
    unfold X6_listed_L1_b at h
    refine lv_iload hx hb dX6_listed_35 (lv_at hl 5 rfl) ?_
    refine lv_iload hx hb dX6_listed_37 (lv_at hl 1 rfl) ?_
    refine lv_icmp_gt (tgt := 75) hx hb dX6_listed_39 (by decide) (fun q9 => ?_) (fun q9 => ?_)
    · have h := ip h q9
      obtain rfl := ret1 h
      exact hk _ rfl H locs ls B (lv_sub hl [4, 6] rfl)
    · have h := ig h q9
      refine lv_aload hx hb dX6_listed_42 (lv_at hl 0 rfl) ?_
      refine lv_iload_n hx hb dX6_listed_44 rfl (lv_at hl 2 rfl) ?_
      refine lv_iload_n hx hb dX6_listed_45 rfl (lv_at hl 3 rfl) ?_
      refine lv_iload hx hb dX6_listed_46 (lv_at hl 5 rfl) ?_
      obtain ⟨r11, q10, h⟩ := bd_o h
      refine r_callVi (rest := []) C B hl (c_X2_isOf G n s0 v1 v2 v7 r11 q10) cs_X6_261 (cX_9 G s0) rfl rfl rfl (Nat.le_of_ble_eq_true rfl) ⟨rfl, rfl, Nat.le_of_ble_eq_true rfl, Nat.le_of_ble_eq_true rfl⟩ dX6_listed_48 (fun H locs B => ?_)
      refine lv_if_ne (tgt := 57) hx hb dX6_listed_51 (by decide) (fun q12 => ?_) (fun q12 => ?_)
      · have h := ig h q12
        refine lv_iload hx hb dX6_listed_57 (lv_at hl 6 rfl) ?_
        refine lv_iload_n hx hb dX6_listed_59 rfl (lv_at hl 4 rfl) ?_
        refine lv_icmp_ne (tgt := 66) hx hb dX6_listed_60 (by decide) (fun q13 => ?_) (fun q13 => ?_)
        · have h := ig h q13
          obtain ⟨v6_14, q15, h⟩ := nm_o h
          refine lv_iinc (v := v6_14) (lv' := [(6, .int v6_14), (4, .ref (gad G 9)), (5, .int v5), (1, .int v1), (2, .int v2), (3, .int v3), (7, .int v7)]) hx hb dX6_listed_66 hl (k := 6) rfl q15.symm (by decide) rfl (fun ls hl => ?_)
          obtain ⟨v7_16, q17, h⟩ := nm_o h
          refine lv_iinc (v := v7_16) (lv' := [(7, .int v7_16), (6, .int v6_14), (4, .ref (gad G 9)), (5, .int v5), (1, .int v1), (2, .int v2), (3, .int v3)]) hx hb dX6_listed_69 hl (k := 6) rfl q17.symm (by decide) rfl (fun ls hl => ?_)
          refine lv_goto (tgt := 35) hx hb dX6_listed_72 (by decide) ?_
          exact ih v7_16 v6_14 e1 h hret hk H locs ls B (lv_sub hl [2, 3, 4, 5, 6, 0, 1] rfl)
        · have h := ip h q13
          refine lv_iload hx hb dX6_listed_63 (lv_at hl 5 rfl) ?_
          obtain rfl := ret1 h
          rw [hret _ rfl]
          exact r_iret C B hr rfl dX6_listed_65
      · have h := ip h q12
        refine lv_goto (tgt := 69) hx hb dX6_listed_54 (by decide) ?_
        obtain ⟨v7_18, q19, h⟩ := nm_o h
        refine lv_iinc (v := v7_18) (lv' := [(7, .int v7_18), (4, .ref (gad G 9)), (5, .int v5), (1, .int v1), (2, .int v2), (3, .int v3), (6, .int v6)]) hx hb dX6_listed_69 hl (k := 5) rfl q19.symm (by decide) rfl (fun ls hl => ?_)
        refine lv_goto (tgt := 35) hx hb dX6_listed_72 (by decide) ?_
        exact ih v7_18 v6 e1 h hret hk H locs ls B (lv_sub hl [1, 2, 3, 4, 5, 0, 6] rfl)
set_option maxRecDepth 100000 in
set_option maxHeartbeats 4000000 in
theorem c_X6_listed (G : GT) (n : Nat) (s0 : ST) (v1 : Int32) (v2 : Int32) (v3 : Int32) (r : Int32) (s' : ST) (h : X6_listed n s0 v1 v2 v3 = some (r, s')) : Con G yX6_listed cX6_listed 8 (some .int) rm_X6_listed [.ref (gad G 0), .int v1, .int v2, .int v3] (wX G s0) (some (.int r)) (wX G s') := by
  unfold X6_listed at h
  refine con_of (by decide +kernel) (Nat.le_of_ble_eq_true rfl) (fun {p e s m below meth c} C hr {H locs ls} B hl => ?_)
  have hx := C.1
  have hb := C.2.1
  have hl : lv_has ls 8 [(0, .ref (gad G 0)), (1, .int v1), (2, .int v2), (3, .int v3)] := hl
  refine lv_iload_n hx hb dX6_listed_0 rfl (lv_at hl 2 rfl) ?_
  obtain ⟨r1, q2, h⟩ := bd_o h
  refine r_callSi (rest := []) C B.2.2 hl (c_X6_isSide G v2 r1 q2) cs_X6_113 rfl rfl (Nat.le_of_ble_eq_true rfl) ⟨rfl, rfl, Nat.le_of_ble_eq_true rfl, Nat.le_of_ble_eq_true rfl⟩ dX6_listed_1 ?_
  refine lv_if_eq (tgt := 12) hx hb dX6_listed_4 (by decide) (fun q3 => ?_) (fun q3 => ?_)
  · have h := ip h q3
    refine lv_iconst (v := (-1 : Int32)) hx hb dX6_listed_12 rfl ?_
    obtain ⟨rfl, rfl⟩ := ret2 h
    exact r_iret C B hr rfl dX6_listed_13
  · have h := ig h q3
    refine lv_iload_n hx hb dX6_listed_7 rfl (lv_at hl 3 rfl) ?_
    refine lv_iconst (v := (-1 : Int32)) hx hb dX6_listed_8 rfl ?_
    refine lv_icmp_ge (tgt := 14) hx hb dX6_listed_9 (by decide) (fun q4 => ?_) (fun q4 => ?_)
    · have h := ip h q4
      refine lv_aload_n hx hb dX6_listed_14 rfl (lv_at hl 0 rfl) ?_
      obtain ⟨s6, q5, h⟩ := bd_o h
      refine r_callVa (rest := []) C B hl (c_X6_freshRanks G n s0 s6 q5) cs_X6_116 (cX_0 G s0) rfl rfl rfl (Nat.le_of_ble_eq_true rfl) ⟨rfl, rfl, Nat.le_of_ble_eq_true rfl, Nat.le_of_ble_eq_true rfl⟩ dX6_listed_15 (fun H locs B => ?_)
      refine lv_astore (lv' := [(4, .ref (gad G 9)), (0, .ref (gad G 0)), (1, .int v1), (2, .int v2), (3, .int v3)]) hx hb dX6_listed_18 hl (by decide) rfl (fun ls hl => ?_)
      refine lv_aload_n hx hb dX6_listed_20 rfl (lv_at hl 1 rfl) ?_
      refine r_get C B fo_X6_10 (cX_0 G s6) rfl dX6_listed_21 ?_
      obtain ⟨r8, q7, h⟩ := bd_o h
      refine r_callVi (rest := []) C B hl (c_X4_all G s6 r8 q7) cs_X6_154 (cX_1 G s6) rfl rfl rfl (Nat.le_of_ble_eq_true rfl) ⟨rfl, rfl, Nat.le_of_ble_eq_true rfl, Nat.le_of_ble_eq_true rfl⟩ dX6_listed_24 (fun H locs B => ?_)
      refine lv_istore (lv' := [(5, .int r8), (4, .ref (gad G 9)), (0, .ref (gad G 0)), (1, .int v1), (2, .int v2), (3, .int v3)]) hx hb dX6_listed_27 hl (by decide) rfl (fun ls hl => ?_)
      refine lv_iconst (v := (0 : Int32)) hx hb dX6_listed_29 rfl ?_
      refine lv_istore (lv' := [(6, .int (0 : Int32)), (5, .int r8), (4, .ref (gad G 9)), (0, .ref (gad G 0)), (1, .int v1), (2, .int v2), (3, .int v3)]) hx hb dX6_listed_30 hl (by decide) rfl (fun ls hl => ?_)
      refine lv_iconst (v := (0 : Int32)) hx hb dX6_listed_32 rfl ?_
      refine lv_istore (lv' := [(7, .int (0 : Int32)), (6, .int (0 : Int32)), (5, .int r8), (4, .ref (gad G 9)), (0, .ref (gad G 0)), (1, .int v1), (2, .int v2), (3, .int v3)]) hx hb dX6_listed_33 hl (by decide) rfl (fun ls hl => ?_)
      obtain ⟨e20, q21, h⟩ := bd_o h
      refine l_X6_listed_L1 C hr n s6 r8 v1 v2 v3 n (0 : Int32) (0 : Int32) e20 q21 (fun rv q => by have h := sm_l h q; cases h; rfl) (fun e22 q23 => ?_) H locs ls B (lv_sub hl [3, 2, 5, 6, 7, 0, 1] rfl)
      have h := sm_r h q23
      intro H locs ls B hl
      refine lv_iload_n hx hb dX6_listed_75 rfl (lv_at hl 0 rfl) ?_
      refine lv_iconst (v := (-1 : Int32)) hx hb dX6_listed_76 rfl ?_
      refine lv_icmp_ne (tgt := 85) hx hb dX6_listed_77 (by decide) (fun q24 => ?_) (fun q24 => ?_)
      · have h := ig h q24
        refine lv_iconst (v := (-1 : Int32)) hx hb dX6_listed_85 rfl ?_
        obtain ⟨rfl, rfl⟩ := ret2 h
        exact r_iret C B hr rfl dX6_listed_86
      · have h := ip h q24
        refine lv_iload hx hb dX6_listed_80 (lv_at hl 1 rfl) ?_
        refine lv_goto (tgt := 86) hx hb dX6_listed_82 (by decide) ?_
        obtain ⟨rfl, rfl⟩ := ret2 h
        exact r_iret C B hr rfl dX6_listed_86
    · have h := ig h q4
      refine lv_iconst (v := (-1 : Int32)) hx hb dX6_listed_12 rfl ?_
      obtain ⟨rfl, rfl⟩ := ret2 h
      exact r_iret C B hr rfl dX6_listed_13
def rm_X6_base : Room := { frames := 6, cells := 0, slots := 0, locals := 138 }
set_option maxRecDepth 100000 in
set_option maxHeartbeats 4000000 in
theorem c_X6_base (G : GT) (n : Nat) (s0 : ST) (v1 : Int32) (v2 : Int32) (r : Int32) (s' : ST) (h : X6_base n s0 v1 v2 = some (r, s')) : Con G yX6_base cX6_base 3 (some .int) rm_X6_base [.ref (gad G 0), .int v1, .int v2] (wX G s0) (some (.int r)) (wX G s') := by
  unfold X6_base at h
  refine con_of (by decide +kernel) (Nat.le_of_ble_eq_true rfl) (fun {p e s m below meth c} C hr {H locs ls} B hl => ?_)
  have hx := C.1
  have hb := C.2.1
  have hl : lv_has ls 3 [(0, .ref (gad G 0)), (1, .int v1), (2, .int v2)] := hl
  refine lv_aload_n hx hb dX6_base_0 rfl (lv_at hl 0 rfl) ?_
  refine lv_iconst (v := (0 : Int32)) hx hb dX6_base_1 rfl ?_
  refine lv_iload_n hx hb dX6_base_2 rfl (lv_at hl 1 rfl) ?_
  refine lv_iload_n hx hb dX6_base_3 rfl (lv_at hl 2 rfl) ?_
  obtain ⟨r3, s2, q1, h⟩ := bd2_o h
  refine r_callVi (rest := []) C B hl (c_X6_listed G n s0 (0 : Int32) v1 v2 r3 s2 q1) cs_X6_128 (cX_0 G s0) rfl rfl rfl (Nat.le_of_ble_eq_true rfl) ⟨rfl, rfl, Nat.le_of_ble_eq_true rfl, Nat.le_of_ble_eq_true rfl⟩ dX6_base_4 (fun H locs B => ?_)
  obtain ⟨rfl, rfl⟩ := ret2 h
  exact r_iret C B hr rfl dX6_base_7
def rm_X6_circuit : Room := { frames := 6, cells := 0, slots := 0, locals := 138 }
set_option maxRecDepth 100000 in
set_option maxHeartbeats 4000000 in
theorem c_X6_circuit (G : GT) (n : Nat) (s0 : ST) (v1 : Int32) (v2 : Int32) (r : Int32) (s' : ST) (h : X6_circuit n s0 v1 v2 = some (r, s')) : Con G yX6_circuit cX6_circuit 3 (some .int) rm_X6_circuit [.ref (gad G 0), .int v1, .int v2] (wX G s0) (some (.int r)) (wX G s') := by
  unfold X6_circuit at h
  refine con_of (by decide +kernel) (Nat.le_of_ble_eq_true rfl) (fun {p e s m below meth c} C hr {H locs ls} B hl => ?_)
  have hx := C.1
  have hb := C.2.1
  have hl : lv_has ls 3 [(0, .ref (gad G 0)), (1, .int v1), (2, .int v2)] := hl
  refine lv_aload_n hx hb dX6_circuit_0 rfl (lv_at hl 0 rfl) ?_
  refine lv_iconst (v := (1 : Int32)) hx hb dX6_circuit_1 rfl ?_
  refine lv_iload_n hx hb dX6_circuit_2 rfl (lv_at hl 1 rfl) ?_
  refine lv_iload_n hx hb dX6_circuit_3 rfl (lv_at hl 2 rfl) ?_
  obtain ⟨r3, s2, q1, h⟩ := bd2_o h
  refine r_callVi (rest := []) C B hl (c_X6_listed G n s0 (1 : Int32) v1 v2 r3 s2 q1) cs_X6_128 (cX_0 G s0) rfl rfl rfl (Nat.le_of_ble_eq_true rfl) ⟨rfl, rfl, Nat.le_of_ble_eq_true rfl, Nat.le_of_ble_eq_true rfl⟩ dX6_circuit_4 (fun H locs B => ?_)
  obtain ⟨rfl, rfl⟩ := ret2 h
  exact r_iret C B hr rfl dX6_circuit_7
def rm_X6_flat : Room := { frames := 6, cells := 0, slots := 0, locals := 138 }
set_option maxRecDepth 100000 in
set_option maxHeartbeats 4000000 in
theorem c_X6_flat (G : GT) (n : Nat) (s0 : ST) (v1 : Int32) (v2 : Int32) (r : Int32) (s' : ST) (h : X6_flat n s0 v1 v2 = some (r, s')) : Con G yX6_flat cX6_flat 3 (some .int) rm_X6_flat [.ref (gad G 0), .int v1, .int v2] (wX G s0) (some (.int r)) (wX G s') := by
  unfold X6_flat at h
  refine con_of (by decide +kernel) (Nat.le_of_ble_eq_true rfl) (fun {p e s m below meth c} C hr {H locs ls} B hl => ?_)
  have hx := C.1
  have hb := C.2.1
  have hl : lv_has ls 3 [(0, .ref (gad G 0)), (1, .int v1), (2, .int v2)] := hl
  refine lv_aload_n hx hb dX6_flat_0 rfl (lv_at hl 0 rfl) ?_
  refine lv_iconst (v := (2 : Int32)) hx hb dX6_flat_1 rfl ?_
  refine lv_iload_n hx hb dX6_flat_2 rfl (lv_at hl 1 rfl) ?_
  refine lv_iload_n hx hb dX6_flat_3 rfl (lv_at hl 2 rfl) ?_
  obtain ⟨r3, s2, q1, h⟩ := bd2_o h
  refine r_callVi (rest := []) C B hl (c_X6_listed G n s0 (2 : Int32) v1 v2 r3 s2 q1) cs_X6_128 (cX_0 G s0) rfl rfl rfl (Nat.le_of_ble_eq_true rfl) ⟨rfl, rfl, Nat.le_of_ble_eq_true rfl, Nat.le_of_ble_eq_true rfl⟩ dX6_flat_4 (fun H locs B => ?_)
  obtain ⟨rfl, rfl⟩ := ret2 h
  exact r_iret C B hr rfl dX6_flat_7
def rm_X6_shut : Room := { frames := 5, cells := 0, slots := 0, locals := 110 }
set_option maxRecDepth 100000 in
set_option maxHeartbeats 4000000 in
theorem c_X6_shut (G : GT) (n : Nat) (s0 : ST) (v1 : Int32) (v2 : Int32) (r : Int32) (s' : ST) (h : X6_shut n s0 v1 v2 = some (r, s')) : Con G yX6_shut cX6_shut 3 (some .int) rm_X6_shut [.ref (gad G 0), .int v1, .int v2] (wX G s0) (some (.int r)) (wX G s') := by
  unfold X6_shut at h
  refine con_of (by decide +kernel) (Nat.le_of_ble_eq_true rfl) (fun {p e s m below meth c} C hr {H locs ls} B hl => ?_)
  have hx := C.1
  have hb := C.2.1
  have hl : lv_has ls 3 [(0, .ref (gad G 0)), (1, .int v1), (2, .int v2)] := hl
  refine lv_iload_n hx hb dX6_shut_0 rfl (lv_at hl 1 rfl) ?_
  obtain ⟨r1, q2, h⟩ := bd_o h
  refine r_callSi (rest := []) C B.2.2 hl (c_X6_isSide G v1 r1 q2) cs_X6_113 rfl rfl (Nat.le_of_ble_eq_true rfl) ⟨rfl, rfl, Nat.le_of_ble_eq_true rfl, Nat.le_of_ble_eq_true rfl⟩ dX6_shut_1 ?_
  refine lv_if_ne (tgt := 9) hx hb dX6_shut_4 (by decide) (fun q3 => ?_) (fun q3 => ?_)
  · have h := ig h q3
    refine lv_aload_n hx hb dX6_shut_9 rfl (lv_at hl 0 rfl) ?_
    refine r_get C B fo_X6_10 (cX_0 G s0) rfl dX6_shut_10 ?_
    refine lv_iload_n hx hb dX6_shut_13 rfl (lv_at hl 2 rfl) ?_
    obtain ⟨r5, q4, h⟩ := bd_o h
    refine r_callVi (rest := []) C B hl (c_X4_isSet G s0 v2 r5 q4) cs_X6_79 (cX_1 G s0) rfl rfl rfl (Nat.le_of_ble_eq_true rfl) ⟨rfl, rfl, Nat.le_of_ble_eq_true rfl, Nat.le_of_ble_eq_true rfl⟩ dX6_shut_14 (fun H locs B => ?_)
    refine lv_if_ne (tgt := 23) hx hb dX6_shut_17 (by decide) (fun q6 => ?_) (fun q6 => ?_)
    · have h := ig h q6
      refine lv_aload_n hx hb dX6_shut_23 rfl (lv_at hl 0 rfl) ?_
      obtain ⟨s8, q7, h⟩ := bd_o h
      refine r_callVa (rest := []) C B hl (c_X6_freshRanks G n s0 s8 q7) cs_X6_116 (cX_0 G s0) rfl rfl rfl (Nat.le_of_ble_eq_true rfl) ⟨rfl, rfl, Nat.le_of_ble_eq_true rfl, Nat.le_of_ble_eq_true rfl⟩ dX6_shut_24 (fun H locs B => ?_)
      refine lv_iload_n hx hb dX6_shut_27 rfl (lv_at hl 1 rfl) ?_
      refine lv_iload_n hx hb dX6_shut_28 rfl (lv_at hl 2 rfl) ?_
      obtain ⟨r10, q9, h⟩ := bd_o h
      refine r_callVi (rest := []) C B hl (c_X2_shutOf G n s8 v1 v2 r10 q9) cs_X6_132 (cX_9 G s8) rfl rfl rfl (Nat.le_of_ble_eq_true rfl) ⟨rfl, rfl, Nat.le_of_ble_eq_true rfl, Nat.le_of_ble_eq_true rfl⟩ dX6_shut_29 (fun H locs B => ?_)
      obtain ⟨rfl, rfl⟩ := ret2 h
      exact r_iret C B hr rfl dX6_shut_32
    · have h := ip h q6
      refine lv_bipush (v := (-2 : Int32)) hx hb dX6_shut_20 rfl ?_
      obtain ⟨rfl, rfl⟩ := ret2 h
      exact r_iret C B hr rfl dX6_shut_22
  · have h := ip h q3
    refine lv_iconst (v := (-1 : Int32)) hx hb dX6_shut_7 rfl ?_
    obtain ⟨rfl, rfl⟩ := ret2 h
    exact r_iret C B hr rfl dX6_shut_8
def rm_X6_isEither : Room := { frames := 0, cells := 0, slots := 0, locals := 0 }
set_option maxRecDepth 100000 in
set_option maxHeartbeats 4000000 in
theorem c_X6_isEither (G : GT) (v0 : Int32) (r : Int32) (h : X6_isEither v0 = some r) : ConP G yX6_isEither cX6_isEither 1 (some .boolean) rm_X6_isEither [.int v0] (some (.int r)) := by
  unfold X6_isEither at h
  refine conP_of (by decide +kernel) (Nat.le_of_ble_eq_true rfl) (fun {p e s m below meth c} C hr {ls} hl => ?_)
  have hx := C.1
  have hb := C.2.1
  have hl : lv_has ls 1 [(0, .int v0)] := hl
  refine lv_iload_n hx hb dX6_isEither_0 rfl (lv_at hl 0 rfl) ?_
  refine lv_if_eq (tgt := 9) hx hb dX6_isEither_1 (by decide) (fun q1 => ?_) (fun q1 => ?_)
  · have h := ip h q1
    refine lv_iconst (v := (1 : Int32)) hx hb dX6_isEither_9 rfl ?_
    refine lv_goto (tgt := 14) hx hb dX6_isEither_10 (by decide) ?_
    obtain rfl := ret1 h
    exact r_iretP C hr nar_1 dX6_isEither_14
  · have h := ig h q1
    refine lv_iload_n hx hb dX6_isEither_4 rfl (lv_at hl 0 rfl) ?_
    refine lv_iconst (v := (1 : Int32)) hx hb dX6_isEither_5 rfl ?_
    refine lv_icmp_ne (tgt := 13) hx hb dX6_isEither_6 (by decide) (fun q2 => ?_) (fun q2 => ?_)
    · have h := ig h q2
      refine lv_iconst (v := (0 : Int32)) hx hb dX6_isEither_13 rfl ?_
      obtain rfl := ret1 h
      exact r_iretP C hr nar_0 dX6_isEither_14
    · have h := ip h q2
      refine lv_iconst (v := (1 : Int32)) hx hb dX6_isEither_9 rfl ?_
      refine lv_goto (tgt := 14) hx hb dX6_isEither_10 (by decide) ?_
      obtain rfl := ret1 h
      exact r_iretP C hr nar_1 dX6_isEither_14
def rm_X2_boundOf : Room := { frames := 2, cells := 0, slots := 0, locals := 43 }
set_option maxRecDepth 100000 in
set_option maxHeartbeats 4000000 in
theorem l_X2_boundOf_L1 {G : GT} {p : Program} {e : Env} {s : State} {m : MethodId} {args : Array Value} {below : List Frame} {meth : Method} {c : Code} {Q : State → Prop} (C : CT G p s m meth c args cX2_boundOf 4 RX2) (hr : meth.sig.returnType = (some .int)) (s0 : ST) (v1 : Int32) : ∀ (k : Nat) (v3 : Int32) (v2 : Int32) (e1 : Int32), X2_boundOf_L1 s0 v1 k v3 v2 = some e1 → Kn G p e rm_X2_boundOf s m args below meth c Q 4 51 [(2, .int e1)] (wX G s0) → Kn G p e rm_X2_boundOf s m args below meth c Q 4 4 [(0, .ref (gad G 9)), (1, .int v1), (3, .int v3), (2, .int v2)] (wX G s0) := by
  have hx := C.1
  have hb := C.2.1
  intro k
  induction k with
  | zero =>
    intro v3 v2 e1 h
    exact nso h
  | succ k ih =>
    intro v3 v2 e1 h hk H locs ls B hl
    have h : X2_boundOf_L1_b s0 v1 (X2_boundOf_L1 s0 v1 k) v3 v2 = some e1 := h
    unfold X2_boundOf_L1_b at h
    refine lv_iload_n hx hb dX2_boundOf_4 rfl (lv_at hl 2 rfl) ?_
    refine lv_aload_n hx hb dX2_boundOf_5 rfl (lv_at hl 0 rfl) ?_
    refine r_get C B fo_X2_28 (cX_9 G s0) rfl dX2_boundOf_6 ?_
    refine lv_icmp_ge (tgt := 51) hx hb dX2_boundOf_9 (by decide) (fun q1 => ?_) (fun q1 => ?_)
    · have h := ip h q1
      obtain rfl := ret1 h
      exact hk H locs ls B (lv_sub hl [3] rfl)
    · have h := ig h q1
      refine lv_aload_n hx hb dX2_boundOf_12 rfl (lv_at hl 0 rfl) ?_
      refine lv_iload_n hx hb dX2_boundOf_13 rfl (lv_at hl 1 rfl) ?_
      refine lv_aload_n hx hb dX2_boundOf_14 rfl (lv_at hl 0 rfl) ?_
      refine r_get C B fo_X2_32 (cX_9 G s0) rfl dX2_boundOf_15 ?_
      refine lv_iconst (v := (1 : Int32)) hx hb dX2_boundOf_18 rfl ?_
      refine lv_iload_n hx hb dX2_boundOf_19 rfl (lv_at hl 2 rfl) ?_
      refine lv_ishl hx hb dX2_boundOf_20 ?_
      refine lv_iconst (v := (-1 : Int32)) hx hb dX2_boundOf_21 rfl ?_
      refine lv_ixor hx hb dX2_boundOf_22 ?_
      refine lv_iand hx hb dX2_boundOf_23 ?_
      obtain ⟨r3, q2, h⟩ := bd_o h
      refine r_callVi (rest := []) C B hl (c_X2_of G s0 v1 ((s0.1 21) &&& (((1 : Int32) <<< (v3 &&& 31)) ^^^ (-1 : Int32))) r3 q2) cs_X2_94 (cX_9 G s0) rfl rfl rfl (Nat.le_of_ble_eq_true rfl) ⟨rfl, rfl, Nat.le_of_ble_eq_true rfl, Nat.le_of_ble_eq_true rfl⟩ dX2_boundOf_24 (fun H locs B => ?_)
      refine lv_aload_n hx hb dX2_boundOf_27 rfl (lv_at hl 0 rfl) ?_
      refine lv_iload_n hx hb dX2_boundOf_28 rfl (lv_at hl 1 rfl) ?_
      refine lv_aload_n hx hb dX2_boundOf_29 rfl (lv_at hl 0 rfl) ?_
      refine r_get C B fo_X2_32 (cX_9 G s0) rfl dX2_boundOf_30 ?_
      obtain ⟨r5, q4, h⟩ := bd_o h
      refine r_callVi (rest := [.int r3]) C B hl (c_X2_of G s0 v1 (s0.1 21) r5 q4) cs_X2_94 (cX_9 G s0) rfl rfl rfl (Nat.le_of_ble_eq_true rfl) ⟨rfl, rfl, Nat.le_of_ble_eq_true rfl, Nat.le_of_ble_eq_true rfl⟩ dX2_boundOf_33 (fun H locs B => ?_)
      refine lv_icmp_ge (tgt := 45) hx hb dX2_boundOf_36 (by decide) (fun q6 => ?_) (fun q6 => ?_)
      · have h := ip h q6
        obtain ⟨v3_7, q8, h⟩ := nm_o h
        refine lv_iinc (v := v3_7) (lv' := [(3, .int v3_7), (0, .ref (gad G 9)), (1, .int v1), (2, .int v2)]) hx hb dX2_boundOf_45 hl (k := 2) rfl q8.symm (by decide) rfl (fun ls hl => ?_)
        refine lv_goto (tgt := 4) hx hb dX2_boundOf_48 (by decide) ?_
        exact ih v3_7 v2 e1 h hk H locs ls B (lv_sub hl [1, 2, 0, 3] rfl)
      · have h := ig h q6
        refine lv_iload_n hx hb dX2_boundOf_39 rfl (lv_at hl 3 rfl) ?_
        refine lv_iconst (v := (1 : Int32)) hx hb dX2_boundOf_40 rfl ?_
        refine lv_iload_n hx hb dX2_boundOf_41 rfl (lv_at hl 2 rfl) ?_
        refine lv_ishl hx hb dX2_boundOf_42 ?_
        refine lv_ior hx hb dX2_boundOf_43 ?_
        obtain ⟨v2_9, q10, h⟩ := nm_o h
        refine r_nm q10 ?_
        refine lv_istore_n (lv' := [(2, .int v2_9), (0, .ref (gad G 9)), (1, .int v1), (3, .int v3)]) hx hb dX2_boundOf_44 rfl hl (by decide) rfl (fun ls hl => ?_)
        obtain ⟨v3_11, q12, h⟩ := nm_o h
        refine lv_iinc (v := v3_11) (lv' := [(3, .int v3_11), (2, .int v2_9), (0, .ref (gad G 9)), (1, .int v1)]) hx hb dX2_boundOf_45 hl (k := 3) rfl q12.symm (by decide) rfl (fun ls hl => ?_)
        refine lv_goto (tgt := 4) hx hb dX2_boundOf_48 (by decide) ?_
        exact ih v3_11 v2_9 e1 h hk H locs ls B (lv_sub hl [2, 3, 0, 1] rfl)
set_option maxRecDepth 100000 in
set_option maxHeartbeats 4000000 in
theorem c_X2_boundOf (G : GT) (n : Nat) (s0 : ST) (v1 : Int32) (r : Int32) (h : X2_boundOf n s0 v1 = some r) : Con G yX2_boundOf cX2_boundOf 4 (some .int) rm_X2_boundOf [.ref (gad G 9), .int v1] (wX G s0) (some (.int r)) (wX G s0) := by
  unfold X2_boundOf at h
  refine con_of (by decide +kernel) (Nat.le_of_ble_eq_true rfl) (fun {p e s m below meth c} C hr {H locs ls} B hl => ?_)
  have hx := C.1
  have hb := C.2.1
  have hl : lv_has ls 4 [(0, .ref (gad G 9)), (1, .int v1)] := hl
  refine lv_iconst (v := (0 : Int32)) hx hb dX2_boundOf_0 rfl ?_
  refine lv_istore_n (lv' := [(2, .int (0 : Int32)), (0, .ref (gad G 9)), (1, .int v1)]) hx hb dX2_boundOf_1 rfl hl (by decide) rfl (fun ls hl => ?_)
  refine lv_iconst (v := (0 : Int32)) hx hb dX2_boundOf_2 rfl ?_
  refine lv_istore_n (lv' := [(3, .int (0 : Int32)), (2, .int (0 : Int32)), (0, .ref (gad G 9)), (1, .int v1)]) hx hb dX2_boundOf_3 rfl hl (by decide) rfl (fun ls hl => ?_)
  obtain ⟨e13, q14, h⟩ := bd_o h
  refine l_X2_boundOf_L1 C hr s0 v1 n (0 : Int32) (0 : Int32) e13 q14 ?_ H locs ls B (lv_sub hl [2, 3, 0, 1] rfl)
  intro H locs ls B hl
  refine lv_iload_n hx hb dX2_boundOf_51 rfl (lv_at hl 0 rfl) ?_
  obtain rfl := ret1 h
  exact r_iret C B hr rfl dX2_boundOf_52
def rm_X6_loops : Room := { frames := 5, cells := 0, slots := 0, locals := 110 }
set_option maxRecDepth 100000 in
set_option maxHeartbeats 4000000 in
theorem c_X6_loops (G : GT) (n : Nat) (s0 : ST) (v1 : Int32) (v2 : Int32) (r : Int32) (s' : ST) (h : X6_loops n s0 v1 v2 = some (r, s')) : Con G yX6_loops cX6_loops 4 (some .int) rm_X6_loops [.ref (gad G 0), .int v1, .int v2] (wX G s0) (some (.int r)) (wX G s') := by
  unfold X6_loops at h
  refine con_of (by decide +kernel) (Nat.le_of_ble_eq_true rfl) (fun {p e s m below meth c} C hr {H locs ls} B hl => ?_)
  have hx := C.1
  have hb := C.2.1
  have hl : lv_has ls 4 [(0, .ref (gad G 0)), (1, .int v1), (2, .int v2)] := hl
  refine lv_iload_n hx hb dX6_loops_0 rfl (lv_at hl 1 rfl) ?_
  obtain ⟨r1, q2, h⟩ := bd_o h
  refine r_callSi (rest := []) C B.2.2 hl (c_X6_isSide G v1 r1 q2) cs_X6_113 rfl rfl (Nat.le_of_ble_eq_true rfl) ⟨rfl, rfl, Nat.le_of_ble_eq_true rfl, Nat.le_of_ble_eq_true rfl⟩ dX6_loops_1 ?_
  refine lv_if_eq (tgt := 14) hx hb dX6_loops_4 (by decide) (fun q3 => ?_) (fun q3 => ?_)
  · have h := ip h q3
    refine lv_iconst (v := (-1 : Int32)) hx hb dX6_loops_14 rfl ?_
    obtain ⟨rfl, rfl⟩ := ret2 h
    exact r_iret C B hr rfl dX6_loops_15
  · have h := ig h q3
    refine lv_iload_n hx hb dX6_loops_7 rfl (lv_at hl 2 rfl) ?_
    obtain ⟨r4, q5, h⟩ := bd_o h
    refine r_callSi (rest := []) C B.2.2 hl (c_X6_isEither G v2 r4 q5) cs_X6_135 rfl rfl (Nat.le_of_ble_eq_true rfl) ⟨rfl, rfl, Nat.le_of_ble_eq_true rfl, Nat.le_of_ble_eq_true rfl⟩ dX6_loops_8 ?_
    refine lv_if_ne (tgt := 16) hx hb dX6_loops_11 (by decide) (fun q6 => ?_) (fun q6 => ?_)
    · have h := ig h q6
      refine lv_aload_n hx hb dX6_loops_16 rfl (lv_at hl 0 rfl) ?_
      obtain ⟨s8, q7, h⟩ := bd_o h
      refine r_callVa (rest := []) C B hl (c_X6_freshRanks G n s0 s8 q7) cs_X6_116 (cX_0 G s0) rfl rfl rfl (Nat.le_of_ble_eq_true rfl) ⟨rfl, rfl, Nat.le_of_ble_eq_true rfl, Nat.le_of_ble_eq_true rfl⟩ dX6_loops_17 (fun H locs B => ?_)
      refine lv_astore_n (lv' := [(3, .ref (gad G 9)), (0, .ref (gad G 0)), (1, .int v1), (2, .int v2)]) hx hb dX6_loops_20 rfl hl (by decide) rfl (fun ls hl => ?_)
      refine lv_iload_n hx hb dX6_loops_21 rfl (lv_at hl 3 rfl) ?_
      refine lv_if_ne (tgt := 34) hx hb dX6_loops_22 (by decide) (fun q9 => ?_) (fun q9 => ?_)
      · have h := ig h q9
        refine lv_aload_n hx hb dX6_loops_34 rfl (lv_at hl 0 rfl) ?_
        refine lv_iload_n hx hb dX6_loops_35 rfl (lv_at hl 2 rfl) ?_
        obtain ⟨r11, q10, h⟩ := bd_o h
        refine r_callVi (rest := []) C B hl (c_X2_boundOf G n s8 v1 r11 q10) cs_X6_138 (cX_9 G s8) rfl rfl rfl (Nat.le_of_ble_eq_true rfl) ⟨rfl, rfl, Nat.le_of_ble_eq_true rfl, Nat.le_of_ble_eq_true rfl⟩ dX6_loops_36 (fun H locs B => ?_)
        obtain ⟨rfl, rfl⟩ := ret2 h
        exact r_iret C B hr rfl dX6_loops_39
      · have h := ip h q9
        refine lv_aload_n hx hb dX6_loops_25 rfl (lv_at hl 0 rfl) ?_
        refine lv_iload_n hx hb dX6_loops_26 rfl (lv_at hl 2 rfl) ?_
        refine lv_iconst (v := (0 : Int32)) hx hb dX6_loops_27 rfl ?_
        obtain ⟨r13, q12, h⟩ := bd_o h
        refine r_callVi (rest := []) C B hl (c_X2_shutOf G n s8 v1 (0 : Int32) r13 q12) cs_X6_132 (cX_9 G s8) rfl rfl rfl (Nat.le_of_ble_eq_true rfl) ⟨rfl, rfl, Nat.le_of_ble_eq_true rfl, Nat.le_of_ble_eq_true rfl⟩ dX6_loops_28 (fun H locs B => ?_)
        refine lv_goto (tgt := 39) hx hb dX6_loops_31 (by decide) ?_
        obtain ⟨rfl, rfl⟩ := ret2 h
        exact r_iret C B hr rfl dX6_loops_39
    · have h := ip h q6
      refine lv_iconst (v := (-1 : Int32)) hx hb dX6_loops_14 rfl ?_
      obtain ⟨rfl, rfl⟩ := ret2 h
      exact r_iret C B hr rfl dX6_loops_15
def rm_X2_roundOf : Room := { frames := 4, cells := 0, slots := 0, locals := 87 }
set_option maxRecDepth 100000 in
set_option maxHeartbeats 4000000 in
theorem l_X2_roundOf_L1 {G : GT} {p : Program} {e : Env} {s : State} {m : MethodId} {args : Array Value} {below : List Frame} {meth : Method} {c : Code} {Q : State → Prop} (C : CT G p s m meth c args cX2_roundOf 5 RX2) (hr : meth.sig.returnType = (some .int)) (s0 : ST) (v1 : Int32) (v2 : Int32) : ∀ (k : Nat) (v4 : Int32) (v3 : Int32) (e1 : Int32), X2_roundOf_L1 s0 v1 v2 k v4 v3 = some e1 → Kn G p e rm_X2_roundOf s m args below meth c Q 5 52 [(3, .int e1)] (wX G s0) → Kn G p e rm_X2_roundOf s m args below meth c Q 5 5 [(0, .ref (gad G 9)), (1, .int v1), (2, .int v2), (4, .int v4), (3, .int v3)] (wX G s0) := by
  have hx := C.1
  have hb := C.2.1
  intro k
  induction k with
  | zero =>
    intro v4 v3 e1 h
    exact nso h
  | succ k ih =>
    intro v4 v3 e1 h hk H locs ls B hl
    have h : X2_roundOf_L1_b s0 v1 v2 (X2_roundOf_L1 s0 v1 v2 k) v4 v3 = some e1 := h
    unfold X2_roundOf_L1_b at h
    refine lv_iload hx hb dX2_roundOf_5 (lv_at hl 3 rfl) ?_
    refine lv_aload_n hx hb dX2_roundOf_7 rfl (lv_at hl 0 rfl) ?_
    refine r_get C B fo_X2_28 (cX_9 G s0) rfl dX2_roundOf_8 ?_
    refine lv_icmp_ge (tgt := 52) hx hb dX2_roundOf_11 (by decide) (fun q1 => ?_) (fun q1 => ?_)
    · have h := ip h q1
      obtain rfl := ret1 h
      exact hk H locs ls B (lv_sub hl [4] rfl)
    · have h := ig h q1
      refine lv_iload_n hx hb dX2_roundOf_14 rfl (lv_at hl 2 rfl) ?_
      refine lv_iload hx hb dX2_roundOf_15 (lv_at hl 3 rfl) ?_
      obtain ⟨r2, q3, h⟩ := bd_o h
      refine r_callSNi (rest := []) C B.2.2 hl (c_X6_has G v2 v4 r2 q3) cs_X2_53 rfl rfl (Nat.le_of_ble_eq_true rfl) ⟨rfl, rfl, Nat.le_of_ble_eq_true rfl, Nat.le_of_ble_eq_true rfl⟩ dX2_roundOf_17 ?_
      refine lv_if_eq (tgt := 46) hx hb dX2_roundOf_20 (by decide) (fun q4 => ?_) (fun q4 => ?_)
      · have h := ip h q4
        obtain ⟨v4_5, q6, h⟩ := nm_o h
        refine lv_iinc (v := v4_5) (lv' := [(4, .int v4_5), (0, .ref (gad G 9)), (1, .int v1), (2, .int v2), (3, .int v3)]) hx hb dX2_roundOf_46 hl (k := 3) rfl q6.symm (by decide) rfl (fun ls hl => ?_)
        refine lv_goto (tgt := 5) hx hb dX2_roundOf_49 (by decide) ?_
        exact ih v4_5 v3 e1 h hk H locs ls B (lv_sub hl [1, 2, 3, 0, 4] rfl)
      · have h := ig h q4
        refine lv_aload_n hx hb dX2_roundOf_23 rfl (lv_at hl 0 rfl) ?_
        refine lv_iload_n hx hb dX2_roundOf_24 rfl (lv_at hl 1 rfl) ?_
        refine lv_iload_n hx hb dX2_roundOf_25 rfl (lv_at hl 2 rfl) ?_
        refine lv_iconst (v := (1 : Int32)) hx hb dX2_roundOf_26 rfl ?_
        refine lv_iload hx hb dX2_roundOf_27 (lv_at hl 3 rfl) ?_
        refine lv_ishl hx hb dX2_roundOf_29 ?_
        refine lv_iconst (v := (-1 : Int32)) hx hb dX2_roundOf_30 rfl ?_
        refine lv_ixor hx hb dX2_roundOf_31 ?_
        refine lv_iand hx hb dX2_roundOf_32 ?_
        obtain ⟨r8, q7, h⟩ := bd_o h
        refine r_callVi (rest := []) C B hl (c_X2_isBase G s0 v1 (v2 &&& (((1 : Int32) <<< (v4 &&& 31)) ^^^ (-1 : Int32))) r8 q7) cs_X2_100 (cX_9 G s0) rfl rfl rfl (Nat.le_of_ble_eq_true rfl) ⟨rfl, rfl, Nat.le_of_ble_eq_true rfl, Nat.le_of_ble_eq_true rfl⟩ dX2_roundOf_33 (fun H locs B => ?_)
        refine lv_if_eq (tgt := 46) hx hb dX2_roundOf_36 (by decide) (fun q9 => ?_) (fun q9 => ?_)
        · have h := ip h q9
          obtain ⟨v4_10, q11, h⟩ := nm_o h
          refine lv_iinc (v := v4_10) (lv' := [(4, .int v4_10), (0, .ref (gad G 9)), (1, .int v1), (2, .int v2), (3, .int v3)]) hx hb dX2_roundOf_46 hl (k := 3) rfl q11.symm (by decide) rfl (fun ls hl => ?_)
          refine lv_goto (tgt := 5) hx hb dX2_roundOf_49 (by decide) ?_
          exact ih v4_10 v3 e1 h hk H locs ls B (lv_sub hl [1, 2, 3, 0, 4] rfl)
        · have h := ig h q9
          refine lv_iload_n hx hb dX2_roundOf_39 rfl (lv_at hl 4 rfl) ?_
          refine lv_iconst (v := (1 : Int32)) hx hb dX2_roundOf_40 rfl ?_
          refine lv_iload hx hb dX2_roundOf_41 (lv_at hl 3 rfl) ?_
          refine lv_ishl hx hb dX2_roundOf_43 ?_
          refine lv_ior hx hb dX2_roundOf_44 ?_
          obtain ⟨v3_12, q13, h⟩ := nm_o h
          refine r_nm q13 ?_
          refine lv_istore_n (lv' := [(3, .int v3_12), (0, .ref (gad G 9)), (1, .int v1), (2, .int v2), (4, .int v4)]) hx hb dX2_roundOf_45 rfl hl (by decide) rfl (fun ls hl => ?_)
          obtain ⟨v4_14, q15, h⟩ := nm_o h
          refine lv_iinc (v := v4_14) (lv' := [(4, .int v4_14), (3, .int v3_12), (0, .ref (gad G 9)), (1, .int v1), (2, .int v2)]) hx hb dX2_roundOf_46 hl (k := 4) rfl q15.symm (by decide) rfl (fun ls hl => ?_)
          refine lv_goto (tgt := 5) hx hb dX2_roundOf_49 (by decide) ?_
          exact ih v4_14 v3_12 e1 h hk H locs ls B (lv_sub hl [2, 3, 4, 0, 1] rfl)
set_option maxRecDepth 100000 in
set_option maxHeartbeats 4000000 in
theorem c_X2_roundOf (G : GT) (n : Nat) (s0 : ST) (v1 : Int32) (v2 : Int32) (r : Int32) (h : X2_roundOf n s0 v1 v2 = some r) : Con G yX2_roundOf cX2_roundOf 5 (some .int) rm_X2_roundOf [.ref (gad G 9), .int v1, .int v2] (wX G s0) (some (.int r)) (wX G s0) := by
  unfold X2_roundOf at h
  refine con_of (by decide +kernel) (Nat.le_of_ble_eq_true rfl) (fun {p e s m below meth c} C hr {H locs ls} B hl => ?_)
  have hx := C.1
  have hb := C.2.1
  have hl : lv_has ls 5 [(0, .ref (gad G 9)), (1, .int v1), (2, .int v2)] := hl
  refine lv_iconst (v := (0 : Int32)) hx hb dX2_roundOf_0 rfl ?_
  refine lv_istore_n (lv' := [(3, .int (0 : Int32)), (0, .ref (gad G 9)), (1, .int v1), (2, .int v2)]) hx hb dX2_roundOf_1 rfl hl (by decide) rfl (fun ls hl => ?_)
  refine lv_iconst (v := (0 : Int32)) hx hb dX2_roundOf_2 rfl ?_
  refine lv_istore (lv' := [(4, .int (0 : Int32)), (3, .int (0 : Int32)), (0, .ref (gad G 9)), (1, .int v1), (2, .int v2)]) hx hb dX2_roundOf_3 hl (by decide) rfl (fun ls hl => ?_)
  obtain ⟨e16, q17, h⟩ := bd_o h
  refine l_X2_roundOf_L1 C hr s0 v1 v2 n (0 : Int32) (0 : Int32) e16 q17 ?_ H locs ls B (lv_sub hl [2, 3, 4, 0, 1] rfl)
  intro H locs ls B hl
  refine lv_iload_n hx hb dX2_roundOf_52 rfl (lv_at hl 0 rfl) ?_
  obtain rfl := ret1 h
  exact r_iret C B hr rfl dX2_roundOf_53
def rm_X6_round : Room := { frames := 5, cells := 0, slots := 0, locals := 111 }
set_option maxRecDepth 100000 in
set_option maxHeartbeats 4000000 in
theorem c_X6_round (G : GT) (n : Nat) (s0 : ST) (v1 : Int32) (v2 : Int32) (v3 : Int32) (r : Int32) (s' : ST) (h : X6_round n s0 v1 v2 v3 = some (r, s')) : Con G yX6_round cX6_round 5 (some .int) rm_X6_round [.ref (gad G 0), .int v1, .int v2, .int v3] (wX G s0) (some (.int r)) (wX G s') := by
  unfold X6_round at h
  refine con_of (by decide +kernel) (Nat.le_of_ble_eq_true rfl) (fun {p e s m below meth c} C hr {H locs ls} B hl => ?_)
  have hx := C.1
  have hb := C.2.1
  have hl : lv_has ls 5 [(0, .ref (gad G 0)), (1, .int v1), (2, .int v2), (3, .int v3)] := hl
  refine lv_iload_n hx hb dX6_round_0 rfl (lv_at hl 1 rfl) ?_
  obtain ⟨r1, q2, h⟩ := bd_o h
  refine r_callSi (rest := []) C B.2.2 hl (c_X6_isSide G v1 r1 q2) cs_X6_113 rfl rfl (Nat.le_of_ble_eq_true rfl) ⟨rfl, rfl, Nat.le_of_ble_eq_true rfl, Nat.le_of_ble_eq_true rfl⟩ dX6_round_1 ?_
  refine lv_if_eq (tgt := 18) hx hb dX6_round_4 (by decide) (fun q3 => ?_) (fun q3 => ?_)
  · have h := ip h q3
    refine lv_iconst (v := (-1 : Int32)) hx hb dX6_round_18 rfl ?_
    obtain ⟨rfl, rfl⟩ := ret2 h
    exact r_iret C B hr rfl dX6_round_19
  · have h := ig h q3
    refine lv_aload_n hx hb dX6_round_7 rfl (lv_at hl 0 rfl) ?_
    refine r_get C B fo_X6_10 (cX_0 G s0) rfl dX6_round_8 ?_
    refine lv_iload_n hx hb dX6_round_11 rfl (lv_at hl 3 rfl) ?_
    obtain ⟨r5, q4, h⟩ := bd_o h
    refine r_callVi (rest := []) C B hl (c_X4_isPost G s0 v3 r5 q4) cs_X6_68 (cX_1 G s0) rfl rfl rfl (Nat.le_of_ble_eq_true rfl) ⟨rfl, rfl, Nat.le_of_ble_eq_true rfl, Nat.le_of_ble_eq_true rfl⟩ dX6_round_12 (fun H locs B => ?_)
    refine lv_if_ne (tgt := 20) hx hb dX6_round_15 (by decide) (fun q6 => ?_) (fun q6 => ?_)
    · have h := ig h q6
      refine lv_aload_n hx hb dX6_round_20 rfl (lv_at hl 0 rfl) ?_
      refine r_get C B fo_X6_10 (cX_0 G s0) rfl dX6_round_21 ?_
      refine lv_iload_n hx hb dX6_round_24 rfl (lv_at hl 2 rfl) ?_
      obtain ⟨r8, q7, h⟩ := bd_o h
      refine r_callVi (rest := []) C B hl (c_X4_isSet G s0 v2 r8 q7) cs_X6_79 (cX_1 G s0) rfl rfl rfl (Nat.le_of_ble_eq_true rfl) ⟨rfl, rfl, Nat.le_of_ble_eq_true rfl, Nat.le_of_ble_eq_true rfl⟩ dX6_round_25 (fun H locs B => ?_)
      refine lv_if_ne (tgt := 34) hx hb dX6_round_28 (by decide) (fun q9 => ?_) (fun q9 => ?_)
      · have h := ig h q9
        refine lv_aload_n hx hb dX6_round_34 rfl (lv_at hl 0 rfl) ?_
        obtain ⟨s11, q10, h⟩ := bd_o h
        refine r_callVa (rest := []) C B hl (c_X6_freshRanks G n s0 s11 q10) cs_X6_116 (cX_0 G s0) rfl rfl rfl (Nat.le_of_ble_eq_true rfl) ⟨rfl, rfl, Nat.le_of_ble_eq_true rfl, Nat.le_of_ble_eq_true rfl⟩ dX6_round_35 (fun H locs B => ?_)
        refine lv_astore (lv' := [(4, .ref (gad G 9)), (0, .ref (gad G 0)), (1, .int v1), (2, .int v2), (3, .int v3)]) hx hb dX6_round_38 hl (by decide) rfl (fun ls hl => ?_)
        refine lv_aload hx hb dX6_round_40 (lv_at hl 0 rfl) ?_
        refine lv_iload_n hx hb dX6_round_42 rfl (lv_at hl 2 rfl) ?_
        refine lv_iload_n hx hb dX6_round_43 rfl (lv_at hl 3 rfl) ?_
        obtain ⟨r13, q12, h⟩ := bd_o h
        refine r_callVi (rest := []) C B hl (c_X2_isBase G s11 v1 v2 r13 q12) cs_X6_142 (cX_9 G s11) rfl rfl rfl (Nat.le_of_ble_eq_true rfl) ⟨rfl, rfl, Nat.le_of_ble_eq_true rfl, Nat.le_of_ble_eq_true rfl⟩ dX6_round_44 (fun H locs B => ?_)
        refine lv_if_eq (tgt := 58) hx hb dX6_round_47 (by decide) (fun q14 => ?_) (fun q14 => ?_)
        · have h := ip h q14
          refine lv_bipush (v := (-5 : Int32)) hx hb dX6_round_58 rfl ?_
          obtain ⟨rfl, rfl⟩ := ret2 h
          exact r_iret C B hr rfl dX6_round_60
        · have h := ig h q14
          refine lv_iload_n hx hb dX6_round_50 rfl (lv_at hl 3 rfl) ?_
          refine lv_iload_n hx hb dX6_round_51 rfl (lv_at hl 4 rfl) ?_
          obtain ⟨r15, q16, h⟩ := bd_o h
          refine r_callSi (rest := []) C B.2.2 hl (c_X6_has G v2 v3 r15 q16) cs_X6_145 rfl rfl (Nat.le_of_ble_eq_true rfl) ⟨rfl, rfl, Nat.le_of_ble_eq_true rfl, Nat.le_of_ble_eq_true rfl⟩ dX6_round_52 ?_
          refine lv_if_eq (tgt := 61) hx hb dX6_round_55 (by decide) (fun q17 => ?_) (fun q17 => ?_)
          · have h := ip h q17
            refine lv_aload hx hb dX6_round_61 (lv_at hl 0 rfl) ?_
            refine lv_iload_n hx hb dX6_round_63 rfl (lv_at hl 2 rfl) ?_
            refine lv_iload_n hx hb dX6_round_64 rfl (lv_at hl 3 rfl) ?_
            refine lv_iconst (v := (1 : Int32)) hx hb dX6_round_65 rfl ?_
            refine lv_iload_n hx hb dX6_round_66 rfl (lv_at hl 4 rfl) ?_
            refine lv_ishl hx hb dX6_round_67 ?_
            refine lv_ior hx hb dX6_round_68 ?_
            obtain ⟨r19, q18, h⟩ := bd_o h
            refine r_callVi (rest := []) C B hl (c_X2_roundOf G n s11 v1 (v2 ||| ((1 : Int32) <<< (v3 &&& 31))) r19 q18) cs_X6_148 (cX_9 G s11) rfl rfl rfl (Nat.le_of_ble_eq_true rfl) ⟨rfl, rfl, Nat.le_of_ble_eq_true rfl, Nat.le_of_ble_eq_true rfl⟩ dX6_round_69 (fun H locs B => ?_)
            obtain ⟨rfl, rfl⟩ := ret2 h
            exact r_iret C B hr rfl dX6_round_72
          · have h := ig h q17
            refine lv_bipush (v := (-5 : Int32)) hx hb dX6_round_58 rfl ?_
            obtain ⟨rfl, rfl⟩ := ret2 h
            exact r_iret C B hr rfl dX6_round_60
      · have h := ip h q9
        refine lv_bipush (v := (-2 : Int32)) hx hb dX6_round_31 rfl ?_
        obtain ⟨rfl, rfl⟩ := ret2 h
        exact r_iret C B hr rfl dX6_round_33
    · have h := ip h q6
      refine lv_iconst (v := (-1 : Int32)) hx hb dX6_round_18 rfl ?_
      obtain ⟨rfl, rfl⟩ := ret2 h
      exact r_iret C B hr rfl dX6_round_19
