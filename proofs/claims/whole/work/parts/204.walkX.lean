/-! WALKS (X 4): each method comes back with what its plain function says -/
def rm_X4_turn : Room := { frames := 1, cells := 0, slots := 0, locals := 21 }
set_option maxRecDepth 100000 in
set_option maxHeartbeats 4000000 in
theorem l_X4_turn_L1 {G : GT} {p : Program} {e : Env} {s : State} {m : MethodId} {args : Array Value} {below : List Frame} {meth : Method} {c : Code} {Q : State → Prop} (C : CT G p s m meth c args cX4_turn 2 RX4) (hr : meth.sig.returnType = none) : ∀ (k : Nat) (v1 : Int32) (s0 : ST) (e1 : ST), X4_turn_L1  k v1 s0 = some e1 → Kn G p e rm_X4_turn s m args below meth c Q 2 46 [(0, .ref (gad G 1))] (wX G e1) → Kn G p e rm_X4_turn s m args below meth c Q 2 7 [(0, .ref (gad G 1)), (1, .int v1)] (wX G s0) := by
  have hx := C.1
  have hb := C.2.1
  intro k
  induction k with
  | zero =>
    intro v1 s0 e1 h
    exact nso h
  | succ k ih =>
    intro v1 s0 e1 h hk H locs ls B hl
    have h : X4_turn_L1_b  (X4_turn_L1  k) v1 s0 = some e1 := h
    unfold X4_turn_L1_b at h
    refine lv_iload_n hx hb dX4_turn_7 rfl (lv_at hl 1 rfl) ?_
    refine lv_aload_n hx hb dX4_turn_8 rfl (lv_at hl 0 rfl) ?_
    refine r_get C B fo_X4_9 (cX_1 G s0) rfl dX4_turn_9 ?_
    refine lv_icmp_ge (tgt := 46) hx hb dX4_turn_12 (by decide) (fun q3 => ?_) (fun q3 => ?_)
    · have h := ip h q3
      obtain rfl := ret1 h
      exact hk H locs ls B (lv_sub hl [0] rfl)
    · have h := ig h q3
      refine lv_aload_n hx hb dX4_turn_15 rfl (lv_at hl 0 rfl) ?_
      refine r_get C B fo_X4_15 (cX_1 G s0) rfl dX4_turn_16 ?_
      refine lv_iload_n hx hb dX4_turn_19 rfl (lv_at hl 1 rfl) ?_
      obtain ⟨r4, q5, h⟩ := bd_o h
      refine r_callSNi (rest := []) C B.2.2 hl (c_X6_has G (s0.1 2) v1 r4 q5) cs_X4_50 rfl rfl (Nat.le_of_ble_eq_true rfl) ⟨rfl, rfl, Nat.le_of_ble_eq_true rfl, Nat.le_of_ble_eq_true rfl⟩ dX4_turn_20 ?_
      refine lv_if_ne (tgt := 40) hx hb dX4_turn_23 (by decide) (fun q6 => ?_) (fun q6 => ?_)
      · have h := ig h q6
        obtain ⟨v1_7, q8, h⟩ := nm_o h
        refine lv_iinc (v := v1_7) (lv' := [(1, .int v1_7), (0, .ref (gad G 1))]) hx hb dX4_turn_40 hl (k := 1) rfl q8.symm (by decide) rfl (fun ls hl => ?_)
        refine lv_goto (tgt := 7) hx hb dX4_turn_43 (by decide) ?_
        exact ih v1_7 s0 e1 h hk H locs ls B (lv_sub hl [1, 0] rfl)
      · have h := ip h q6
        refine lv_aload_n hx hb dX4_turn_26 rfl (lv_at hl 0 rfl) ?_
        refine lv_aload_n hx hb dX4_turn_27 rfl (lv_at hl 0 rfl) ?_
        refine r_get C B fo_X4_24 (cX_1 G s0) rfl dX4_turn_28 ?_
        refine lv_iload_n hx hb dX4_turn_31 rfl (lv_at hl 1 rfl) ?_
        obtain ⟨q9, h⟩ := gd_o h
        refine r_iald C B (cX_2 G s0) (inb_vp q9) dX4_turn_32 ?_
        refine lv_iconst (v := (1 : Int32)) hx hb dX4_turn_33 rfl ?_
        refine lv_iload_n hx hb dX4_turn_34 rfl (lv_at hl 1 rfl) ?_
        refine lv_ishl hx hb dX4_turn_35 ?_
        refine lv_ior hx hb dX4_turn_36 ?_
        obtain ⟨s11, q10, h⟩ := bd_o h
        refine r_callVv (rest := []) C B hl (c_X4_join G s0 ((s0.2.1 0 (v1).toNatClampNeg) ||| ((1 : Int32) <<< (v1 &&& 31))) s11 q10) cs_X4_58 (cX_1 G s0) rfl rfl rfl (Nat.le_of_ble_eq_true rfl) ⟨rfl, rfl, Nat.le_of_ble_eq_true rfl, Nat.le_of_ble_eq_true rfl⟩ dX4_turn_37 (fun H locs B => ?_)
        obtain ⟨v1_12, q13, h⟩ := nm_o h
        refine lv_iinc (v := v1_12) (lv' := [(1, .int v1_12), (0, .ref (gad G 1))]) hx hb dX4_turn_40 hl (k := 1) rfl q13.symm (by decide) rfl (fun ls hl => ?_)
        refine lv_goto (tgt := 7) hx hb dX4_turn_43 (by decide) ?_
        exact ih v1_12 s11 e1 h hk H locs ls B (lv_sub hl [1, 0] rfl)
set_option maxRecDepth 100000 in
set_option maxHeartbeats 4000000 in
theorem c_X4_turn (G : GT) (n : Nat) (s0 : ST)  (s' : ST) (h : X4_turn n s0  = some s') : Con G yX4_turn cX4_turn 2 none rm_X4_turn [.ref (gad G 1)] (wX G s0) none (wX G s') := by
  unfold X4_turn at h
  refine con_of (by decide +kernel) (Nat.le_of_ble_eq_true rfl) (fun {p e s m below meth c} C hr {H locs ls} B hl => ?_)
  have hx := C.1
  have hb := C.2.1
  have hl : lv_has ls 2 [(0, .ref (gad G 1))] := hl
  refine lv_aload_n hx hb dX4_turn_0 rfl (lv_at hl 0 rfl) ?_
  refine lv_iconst (v := (0 : Int32)) hx hb dX4_turn_1 rfl ?_
  obtain ⟨s1, q2, h⟩ := nm_o h
  refine r_put C B fp_X4_18 (cX_1 G s0) (Nat.le_of_ble_eq_true rfl) rfl rfl ((uXs_3 G s0 _).trans (congrArg (wX G) q2.symm)) dX4_turn_2 (fun H locs B => ?_)
  refine lv_iconst (v := (0 : Int32)) hx hb dX4_turn_5 rfl ?_
  refine lv_istore_n (lv' := [(1, .int (0 : Int32)), (0, .ref (gad G 1))]) hx hb dX4_turn_6 rfl hl (by decide) rfl (fun ls hl => ?_)
  obtain ⟨e14, q15, h⟩ := bd_o h
  refine l_X4_turn_L1 C hr  n (0 : Int32) s1 e14 q15 ?_ H locs ls B (lv_sub hl [1, 0] rfl)
  intro H locs ls B hl
  refine lv_aload_n hx hb dX4_turn_46 rfl (lv_at hl 0 rfl) ?_
  refine lv_dup hx hb dX4_turn_47 rfl ?_
  refine r_get C B fo_X4_21 (cX_1 G e14) rfl dX4_turn_48 ?_
  refine lv_iconst (v := (1 : Int32)) hx hb dX4_turn_51 rfl ?_
  refine lv_iadd hx hb dX4_turn_52 ?_
  obtain ⟨s16, q17, h⟩ := nm_o h
  refine r_put C B fp_X4_21 (cX_1 G e14) (Nat.le_of_ble_eq_true rfl) rfl rfl ((uXs_4 G e14 _).trans (congrArg (wX G) q17.symm)) dX4_turn_53 (fun H locs B => ?_)
  obtain rfl := ret1 h
  exact r_vret C B hr dX4_turn_56
def rm_X6_turned : Room := { frames := 2, cells := 0, slots := 0, locals := 42 }
set_option maxRecDepth 100000 in
set_option maxHeartbeats 4000000 in
theorem c_X6_turned (G : GT) (n : Nat) (s0 : ST)  (r : Int32) (s' : ST) (h : X6_turned n s0  = some (r, s')) : Con G yX6_turned cX6_turned 1 (some .int) rm_X6_turned [.ref (gad G 0)] (wX G s0) (some (.int r)) (wX G s') := by
  unfold X6_turned at h
  refine con_of (by decide +kernel) (Nat.le_of_ble_eq_true rfl) (fun {p e s m below meth c} C hr {H locs ls} B hl => ?_)
  have hx := C.1
  have hb := C.2.1
  have hl : lv_has ls 1 [(0, .ref (gad G 0))] := hl
  refine lv_aload_n hx hb dX6_turned_0 rfl (lv_at hl 0 rfl) ?_
  refine r_get C B fo_X6_10 (cX_0 G s0) rfl dX6_turned_1 ?_
  obtain ⟨s2, q1, h⟩ := bd_o h
  refine r_callVv (rest := []) C B hl (c_X4_turn G n s0 s2 q1) cs_X6_192 (cX_1 G s0) rfl rfl rfl (Nat.le_of_ble_eq_true rfl) ⟨rfl, rfl, Nat.le_of_ble_eq_true rfl, Nat.le_of_ble_eq_true rfl⟩ dX6_turned_4 (fun H locs B => ?_)
  refine lv_aload_n hx hb dX6_turned_7 rfl (lv_at hl 0 rfl) ?_
  refine r_get C B fo_X6_10 (cX_0 G s2) rfl dX6_turned_8 ?_
  refine r_get C B fo_X6_95 (cX_1 G s2) rfl dX6_turned_11 ?_
  obtain ⟨rfl, rfl⟩ := ret2 h
  exact r_iret C B hr rfl dX6_turned_14
def rm_X4_straighten_a19 : Room := { frames := 1, cells := 0, slots := 0, locals := 20 }
set_option maxRecDepth 100000 in
set_option maxHeartbeats 4000000 in
theorem l_X4_straighten_a19_L1 {G : GT} {p : Program} {e : Env} {s : State} {m : MethodId} {args : Array Value} {below : List Frame} {meth : Method} {c : Code} {Q : State → Prop} (C : CT G p s m meth c args cX4_straighten 4 RX4) (hr : meth.sig.returnType = none) : ∀ (k : Nat) (v2 : Int32) (s0 : ST) (e1 : ST), X4_straighten_a19_L1  k v2 s0 = some e1 → Kn G p e rm_X4_straighten_a19 s m args below meth c Q 4 21 [(0, .ref (gad G 1)), (1, .ref (gad G 19))] (wX G e1) → Kn G p e rm_X4_straighten_a19 s m args below meth c Q 4 2 [(0, .ref (gad G 1)), (1, .ref (gad G 19)), (2, .int v2)] (wX G s0) := by
  have hx := C.1
  have hb := C.2.1
  intro k
  induction k with
  | zero =>
    intro v2 s0 e1 h
    exact nso h
  | succ k ih =>
    intro v2 s0 e1 h hk H locs ls B hl
    have h : X4_straighten_a19_L1_b  (X4_straighten_a19_L1  k) v2 s0 = some e1 := h
    unfold X4_straighten_a19_L1_b at h
    refine lv_iload_n hx hb dX4_straighten_2 rfl (lv_at hl 2 rfl) ?_
    refine lv_bipush (v := (8 : Int32)) hx hb dX4_straighten_3 rfl ?_
    refine lv_icmp_ge (tgt := 21) hx hb dX4_straighten_5 (by decide) (fun q1 => ?_) (fun q1 => ?_)
    · have h := ip h q1
      obtain rfl := ret1 h
      exact hk H locs ls B (lv_sub hl [0, 1] rfl)
    · have h := ig h q1
      refine lv_aload_n hx hb dX4_straighten_8 rfl (lv_at hl 0 rfl) ?_
      refine r_get C B fo_X4_24 (cX_1 G s0) rfl dX4_straighten_9 ?_
      refine lv_iload_n hx hb dX4_straighten_12 rfl (lv_at hl 2 rfl) ?_
      refine lv_iconst (v := (0 : Int32)) hx hb dX4_straighten_13 rfl ?_
      obtain ⟨q2, h⟩ := gd_o h
      obtain ⟨s3, q4, h⟩ := nm_o h
      refine r_iast C B (cX_2 G s0) (inb_vp q2) ((uXa_0 G s0 _).trans (congrArg (wX G) q4.symm)) dX4_straighten_14 (fun H locs B => ?_)
      obtain ⟨v2_5, q6, h⟩ := nm_o h
      refine lv_iinc (v := v2_5) (lv' := [(2, .int v2_5), (0, .ref (gad G 1)), (1, .ref (gad G 19))]) hx hb dX4_straighten_15 hl (k := 2) rfl q6.symm (by decide) rfl (fun ls hl => ?_)
      refine lv_goto (tgt := 2) hx hb dX4_straighten_18 (by decide) ?_
      exact ih v2_5 s3 e1 h hk H locs ls B (lv_sub hl [1, 2, 0] rfl)
set_option maxRecDepth 100000 in
set_option maxHeartbeats 4000000 in
theorem l_X4_straighten_a19_L2 {G : GT} {p : Program} {e : Env} {s : State} {m : MethodId} {args : Array Value} {below : List Frame} {meth : Method} {c : Code} {Q : State → Prop} (C : CT G p s m meth c args cX4_straighten 4 RX4) (hr : meth.sig.returnType = none) : ∀ (k : Nat) (v2 : Int32) (s0 : ST) (e1 : ST), X4_straighten_a19_L2  k v2 s0 = some e1 → Kn G p e rm_X4_straighten_a19 s m args below meth c Q 4 81 [(0, .ref (gad G 1))] (wX G e1) → Kn G p e rm_X4_straighten_a19 s m args below meth c Q 4 31 [(0, .ref (gad G 1)), (1, .ref (gad G 19)), (2, .int v2)] (wX G s0) := by
  have hx := C.1
  have hb := C.2.1
  intro k
  induction k with
  | zero =>
    intro v2 s0 e1 h
    exact nso h
  | succ k ih =>
    intro v2 s0 e1 h hk H locs ls B hl
    have h : X4_straighten_a19_L2_b  (X4_straighten_a19_L2  k) v2 s0 = some e1 := h
    unfold X4_straighten_a19_L2_b at h
    refine lv_iload_n hx hb dX4_straighten_31 rfl (lv_at hl 2 rfl) ?_
    refine lv_aload_n hx hb dX4_straighten_32 rfl (lv_at hl 0 rfl) ?_
    refine r_get C B fo_X4_18 (cX_1 G s0) rfl dX4_straighten_33 ?_
    refine lv_icmp_ge (tgt := 81) hx hb dX4_straighten_36 (by decide) (fun q13 => ?_) (fun q13 => ?_)
    · have h := ip h q13
      obtain rfl := ret1 h
      exact hk H locs ls B (lv_sub hl [0] rfl)
    · have h := ig h q13
      refine lv_iconst (v := (1 : Int32)) hx hb dX4_straighten_39 rfl ?_
      refine lv_aload_n hx hb dX4_straighten_40 rfl (lv_at hl 1 rfl) ?_
      refine lv_iload_n hx hb dX4_straighten_41 rfl (lv_at hl 2 rfl) ?_
      obtain ⟨q14, h⟩ := gd_o h
      refine r_iald C B (cX_19 G s0) (inb_vp q14) dX4_straighten_42 ?_
      refine lv_ishl hx hb dX4_straighten_43 ?_
      obtain ⟨v3_15, q16, h⟩ := nm_o h
      refine r_nm q16 ?_
      refine lv_istore_n (lv' := [(3, .int v3_15), (0, .ref (gad G 1)), (1, .ref (gad G 19)), (2, .int v2)]) hx hb dX4_straighten_44 rfl hl (by decide) rfl (fun ls hl => ?_)
      refine lv_aload_n hx hb dX4_straighten_45 rfl (lv_at hl 1 rfl) ?_
      refine r_get C B fo_X4_24 (cX_1 G s0) rfl dX4_straighten_46 ?_
      refine lv_aload_n hx hb dX4_straighten_49 rfl (lv_at hl 2 rfl) ?_
      refine lv_iload_n hx hb dX4_straighten_50 rfl (lv_at hl 3 rfl) ?_
      obtain ⟨q17, h⟩ := gd_o h
      refine r_iald C B (cX_19 G s0) (inb_vp q17) dX4_straighten_51 ?_
      refine lv_aload_n hx hb dX4_straighten_52 rfl (lv_at hl 1 rfl) ?_
      refine r_get C B fo_X4_31 (cX_1 G s0) rfl dX4_straighten_53 ?_
      refine lv_iload_n hx hb dX4_straighten_56 rfl (lv_at hl 3 rfl) ?_
      obtain ⟨q18, h⟩ := gd_o h
      refine r_iald C B (cX_4 G s0) (inb_vp q18) dX4_straighten_57 ?_
      refine lv_iload_n hx hb dX4_straighten_58 rfl (lv_at hl 0 rfl) ?_
      refine lv_iconst (v := (-1 : Int32)) hx hb dX4_straighten_59 rfl ?_
      refine lv_ixor hx hb dX4_straighten_60 ?_
      refine lv_iand hx hb dX4_straighten_61 ?_
      obtain ⟨q19, h⟩ := gd_o h
      obtain ⟨s20, q21, h⟩ := nm_o h
      refine r_iast C B (cX_2 G s0) (inb_vp q19) ((uXa_0 G s0 _).trans (congrArg (wX G) q21.symm)) dX4_straighten_62 (fun H locs B => ?_)
      refine lv_aload_n hx hb dX4_straighten_63 rfl (lv_at hl 1 rfl) ?_
      refine lv_dup hx hb dX4_straighten_64 rfl ?_
      refine r_get C B fo_X4_15 (cX_1 G s20) rfl dX4_straighten_65 ?_
      refine lv_iload_n hx hb dX4_straighten_68 rfl (lv_at hl 0 rfl) ?_
      refine lv_iconst (v := (-1 : Int32)) hx hb dX4_straighten_69 rfl ?_
      refine lv_ixor hx hb dX4_straighten_70 ?_
      refine lv_iand hx hb dX4_straighten_71 ?_
      obtain ⟨s22, q23, h⟩ := nm_o h
      refine r_put C B fp_X4_15 (cX_1 G s20) (Nat.le_of_ble_eq_true rfl) rfl rfl ((uXs_2 G s20 _).trans (congrArg (wX G) q23.symm)) dX4_straighten_72 (fun H locs B => ?_)
      obtain ⟨v2_24, q25, h⟩ := nm_o h
      refine lv_iinc (v := v2_24) (lv' := [(2, .int v2_24), (3, .int v3_15), (0, .ref (gad G 1)), (1, .ref (gad G 19))]) hx hb dX4_straighten_75 hl (k := 3) rfl q25.symm (by decide) rfl (fun ls hl => ?_)
      refine lv_goto (tgt := 31) hx hb dX4_straighten_78 (by decide) ?_
      exact ih v2_24 s22 e1 h hk H locs ls B (lv_sub hl [2, 3, 0] rfl)
set_option maxRecDepth 100000 in
set_option maxHeartbeats 4000000 in
theorem c_X4_straighten_a19 (G : GT) (n : Nat) (s0 : ST)  (s' : ST) (h : X4_straighten_a19 n s0  = some s') : Con G yX4_straighten cX4_straighten 4 none rm_X4_straighten_a19 [.ref (gad G 1), .ref (gad G 19)] (wX G s0) none (wX G s') := by
  unfold X4_straighten_a19 at h
  refine con_of (by decide +kernel) (Nat.le_of_ble_eq_true rfl) (fun {p e s m below meth c} C hr {H locs ls} B hl => ?_)
  have hx := C.1
  have hb := C.2.1
  have hl : lv_has ls 4 [(0, .ref (gad G 1)), (1, .ref (gad G 19))] := hl
  refine lv_iconst (v := (0 : Int32)) hx hb dX4_straighten_0 rfl ?_
  refine lv_istore_n (lv' := [(2, .int (0 : Int32)), (0, .ref (gad G 1)), (1, .ref (gad G 19))]) hx hb dX4_straighten_1 rfl hl (by decide) rfl (fun ls hl => ?_)
  obtain ⟨e7, q8, h⟩ := bd_o h
  refine l_X4_straighten_a19_L1 C hr  n (0 : Int32) s0 e7 q8 ?_ H locs ls B (lv_sub hl [1, 2, 0] rfl)
  intro H locs ls B hl
  refine lv_aload_n hx hb dX4_straighten_21 rfl (lv_at hl 0 rfl) ?_
  refine lv_aload_n hx hb dX4_straighten_22 rfl (lv_at hl 0 rfl) ?_
  obtain ⟨r10, q9, h⟩ := bd_o h
  refine r_callVi (rest := [.ref (gad G 1)]) C B hl (c_X4_all G e7 r10 q9) cs_X4_34 (cX_1 G e7) rfl rfl rfl (Nat.le_of_ble_eq_true rfl) ⟨rfl, rfl, Nat.le_of_ble_eq_true rfl, Nat.le_of_ble_eq_true rfl⟩ dX4_straighten_23 (fun H locs B => ?_)
  obtain ⟨s11, q12, h⟩ := nm_o h
  refine r_put C B fp_X4_15 (cX_1 G e7) (Nat.le_of_ble_eq_true rfl) rfl rfl ((uXs_2 G e7 _).trans (congrArg (wX G) q12.symm)) dX4_straighten_26 (fun H locs B => ?_)
  refine lv_iconst (v := (0 : Int32)) hx hb dX4_straighten_29 rfl ?_
  refine lv_istore_n (lv' := [(2, .int (0 : Int32)), (0, .ref (gad G 1)), (1, .ref (gad G 19))]) hx hb dX4_straighten_30 rfl hl (by decide) rfl (fun ls hl => ?_)
  obtain ⟨e26, q27, h⟩ := bd_o h
  refine l_X4_straighten_a19_L2 C hr  n (0 : Int32) s11 e26 q27 ?_ H locs ls B (lv_sub hl [1, 2, 0] rfl)
  intro H locs ls B hl
  refine lv_aload_n hx hb dX4_straighten_81 rfl (lv_at hl 0 rfl) ?_
  refine lv_dup hx hb dX4_straighten_82 rfl ?_
  refine r_get C B fo_X4_21 (cX_1 G e26) rfl dX4_straighten_83 ?_
  refine lv_iconst (v := (1 : Int32)) hx hb dX4_straighten_86 rfl ?_
  refine lv_iadd hx hb dX4_straighten_87 ?_
  obtain ⟨s28, q29, h⟩ := nm_o h
  refine r_put C B fp_X4_21 (cX_1 G e26) (Nat.le_of_ble_eq_true rfl) rfl rfl ((uXs_4 G e26 _).trans (congrArg (wX G) q29.symm)) dX4_straighten_88 (fun H locs B => ?_)
  obtain rfl := ret1 h
  exact r_vret C B hr dX4_straighten_91
def rm_X4_countRoads : Room := { frames := 1, cells := 0, slots := 0, locals := 20 }
set_option maxRecDepth 100000 in
set_option maxHeartbeats 4000000 in
theorem l_X4_countRoads_L1 {G : GT} {p : Program} {e : Env} {s : State} {m : MethodId} {args : Array Value} {below : List Frame} {meth : Method} {c : Code} {Q : State → Prop} (C : CT G p s m meth c args cX4_countRoads 3 RX4) (hr : meth.sig.returnType = (some .int)) (s0 : ST) : ∀ (k : Nat) (v2 : Int32) (v1 : Int32) (e1 : Int32), X4_countRoads_L1 s0 k v2 v1 = some e1 → Kn G p e rm_X4_countRoads s m args below meth c Q 3 30 [(1, .int e1)] (wX G s0) → Kn G p e rm_X4_countRoads s m args below meth c Q 3 4 [(0, .ref (gad G 1)), (2, .int v2), (1, .int v1)] (wX G s0) := by
  have hx := C.1
  have hb := C.2.1
  intro k
  induction k with
  | zero =>
    intro v2 v1 e1 h
    exact nso h
  | succ k ih =>
    intro v2 v1 e1 h hk H locs ls B hl
    have h : X4_countRoads_L1_b s0 (X4_countRoads_L1 s0 k) v2 v1 = some e1 := h
    unfold X4_countRoads_L1_b at h
    refine lv_iload_n hx hb dX4_countRoads_4 rfl (lv_at hl 1 rfl) ?_
    refine lv_aload_n hx hb dX4_countRoads_5 rfl (lv_at hl 0 rfl) ?_
    refine r_get C B fo_X4_9 (cX_1 G s0) rfl dX4_countRoads_6 ?_
    refine lv_icmp_ge (tgt := 30) hx hb dX4_countRoads_9 (by decide) (fun q1 => ?_) (fun q1 => ?_)
    · have h := ip h q1
      obtain rfl := ret1 h
      exact hk H locs ls B (lv_sub hl [2] rfl)
    · have h := ig h q1
      refine lv_iload_n hx hb dX4_countRoads_12 rfl (lv_at hl 2 rfl) ?_
      refine lv_aload_n hx hb dX4_countRoads_13 rfl (lv_at hl 0 rfl) ?_
      refine r_get C B fo_X4_24 (cX_1 G s0) rfl dX4_countRoads_14 ?_
      refine lv_iload_n hx hb dX4_countRoads_17 rfl (lv_at hl 1 rfl) ?_
      obtain ⟨q2, h⟩ := gd_o h
      refine r_iald C B (cX_2 G s0) (inb_vp q2) dX4_countRoads_18 ?_
      obtain ⟨r3, q4, h⟩ := bd_o h
      refine r_callSi (rest := [.int v1]) C B.2.2 hl (c_J6_bitCount G (s0.2.1 0 (v2).toNatClampNeg) r3 q4) cs_X4_44 rfl rfl (Nat.le_of_ble_eq_true rfl) ⟨rfl, rfl, Nat.le_of_ble_eq_true rfl, Nat.le_of_ble_eq_true rfl⟩ dX4_countRoads_19 ?_
      refine lv_iadd hx hb dX4_countRoads_22 ?_
      obtain ⟨v1_5, q6, h⟩ := nm_o h
      refine r_nm q6 ?_
      refine lv_istore_n (lv' := [(1, .int v1_5), (0, .ref (gad G 1)), (2, .int v2)]) hx hb dX4_countRoads_23 rfl hl (by decide) rfl (fun ls hl => ?_)
      obtain ⟨v2_7, q8, h⟩ := nm_o h
      refine lv_iinc (v := v2_7) (lv' := [(2, .int v2_7), (1, .int v1_5), (0, .ref (gad G 1))]) hx hb dX4_countRoads_24 hl (k := 2) rfl q8.symm (by decide) rfl (fun ls hl => ?_)
      refine lv_goto (tgt := 4) hx hb dX4_countRoads_27 (by decide) ?_
      exact ih v2_7 v1_5 e1 h hk H locs ls B (lv_sub hl [2, 0, 1] rfl)
set_option maxRecDepth 100000 in
set_option maxHeartbeats 4000000 in
theorem c_X4_countRoads (G : GT) (n : Nat) (s0 : ST)  (r : Int32) (h : X4_countRoads n s0  = some r) : Con G yX4_countRoads cX4_countRoads 3 (some .int) rm_X4_countRoads [.ref (gad G 1)] (wX G s0) (some (.int r)) (wX G s0) := by
  unfold X4_countRoads at h
  refine con_of (by decide +kernel) (Nat.le_of_ble_eq_true rfl) (fun {p e s m below meth c} C hr {H locs ls} B hl => ?_)
  have hx := C.1
  have hb := C.2.1
  have hl : lv_has ls 3 [(0, .ref (gad G 1))] := hl
  refine lv_iconst (v := (0 : Int32)) hx hb dX4_countRoads_0 rfl ?_
  refine lv_istore_n (lv' := [(1, .int (0 : Int32)), (0, .ref (gad G 1))]) hx hb dX4_countRoads_1 rfl hl (by decide) rfl (fun ls hl => ?_)
  refine lv_iconst (v := (0 : Int32)) hx hb dX4_countRoads_2 rfl ?_
  refine lv_istore_n (lv' := [(2, .int (0 : Int32)), (1, .int (0 : Int32)), (0, .ref (gad G 1))]) hx hb dX4_countRoads_3 rfl hl (by decide) rfl (fun ls hl => ?_)
  obtain ⟨e9, q10, h⟩ := bd_o h
  refine l_X4_countRoads_L1 C hr s0 n (0 : Int32) (0 : Int32) e9 q10 ?_ H locs ls B (lv_sub hl [2, 0, 1] rfl)
  intro H locs ls B hl
  refine lv_iload_n hx hb dX4_countRoads_30 rfl (lv_at hl 0 rfl) ?_
  obtain rfl := ret1 h
  exact r_iret C B hr rfl dX4_countRoads_31
def rm_X6_strict : Room := { frames := 3, cells := 0, slots := 0, locals := 69 }
set_option maxRecDepth 100000 in
set_option maxHeartbeats 4000000 in
theorem l_X6_strict_L1 {G : GT} {p : Program} {e : Env} {s : State} {m : MethodId} {args : Array Value} {below : List Frame} {meth : Method} {c : Code} {Q : State → Prop} (C : CT G p s m meth c args cX6_strict 2 RX6) (hr : meth.sig.returnType = (some .int)) : ∀ (k : Nat) (v1 : Int32) (s0 : ST) (e1 : ST), X6_strict_L1  k v1 s0 = some e1 → Kn G p e rm_X6_strict s m args below meth c Q 2 42 [(0, .ref (gad G 0))] (wX G e1) → Kn G p e rm_X6_strict s m args below meth c Q 2 9 [(0, .ref (gad G 0)), (1, .int v1)] (wX G s0) := by
  have hx := C.1
  have hb := C.2.1
  intro k
  induction k with
  | zero =>
    intro v1 s0 e1 h
    exact nso h
  | succ k ih =>
    intro v1 s0 e1 h hk H locs ls B hl
    have h : X6_strict_L1_b  (X6_strict_L1  k) v1 s0 = some e1 := h
    unfold X6_strict_L1_b at h
    refine lv_iload_n hx hb dX6_strict_9 rfl (lv_at hl 1 rfl) ?_
    refine lv_aload_n hx hb dX6_strict_10 rfl (lv_at hl 0 rfl) ?_
    refine r_get C B fo_X6_10 (cX_0 G s0) rfl dX6_strict_11 ?_
    refine r_get C B fo_X6_95 (cX_1 G s0) rfl dX6_strict_14 ?_
    refine lv_icmp_ge (tgt := 42) hx hb dX6_strict_17 (by decide) (fun q3 => ?_) (fun q3 => ?_)
    · have h := ip h q3
      obtain rfl := ret1 h
      exact hk H locs ls B (lv_sub hl [0] rfl)
    · have h := ig h q3
      refine lv_aload_n hx hb dX6_strict_20 rfl (lv_at hl 0 rfl) ?_
      refine r_get C B fo_X6_33 (cX_0 G s0) rfl dX6_strict_21 ?_
      refine lv_aload_n hx hb dX6_strict_24 rfl (lv_at hl 0 rfl) ?_
      refine r_get C B fo_X6_10 (cX_0 G s0) rfl dX6_strict_25 ?_
      refine r_get C B fo_X6_104 (cX_1 G s0) rfl dX6_strict_28 ?_
      refine lv_iload_n hx hb dX6_strict_31 rfl (lv_at hl 1 rfl) ?_
      obtain ⟨q4, h⟩ := gd_o h
      refine r_iald C B (cX_4 G s0) (inb_vp q4) dX6_strict_32 ?_
      obtain ⟨s6, q5, h⟩ := bd_o h
      refine r_callVv (rest := []) C B hl (c_X0_ask G s0 (s0.2.1 2 (v1).toNatClampNeg) s6 q5) cs_X6_180 (cX_18 G s0) rfl rfl rfl (Nat.le_of_ble_eq_true rfl) ⟨rfl, rfl, Nat.le_of_ble_eq_true rfl, Nat.le_of_ble_eq_true rfl⟩ dX6_strict_33 (fun H locs B => ?_)
      obtain ⟨v1_7, q8, h⟩ := nm_o h
      refine lv_iinc (v := v1_7) (lv' := [(1, .int v1_7), (0, .ref (gad G 0))]) hx hb dX6_strict_36 hl (k := 1) rfl q8.symm (by decide) rfl (fun ls hl => ?_)
      refine lv_goto (tgt := 9) hx hb dX6_strict_39 (by decide) ?_
      exact ih v1_7 s6 e1 h hk H locs ls B (lv_sub hl [1, 0] rfl)
set_option maxRecDepth 100000 in
set_option maxHeartbeats 4000000 in
theorem c_X6_strict (G : GT) (n : Nat) (s0 : ST)  (r : Int32) (s' : ST) (h : X6_strict n s0  = some (r, s')) : Con G yX6_strict cX6_strict 2 (some .int) rm_X6_strict [.ref (gad G 0)] (wX G s0) (some (.int r)) (wX G s') := by
  unfold X6_strict at h
  refine con_of (by decide +kernel) (Nat.le_of_ble_eq_true rfl) (fun {p e s m below meth c} C hr {H locs ls} B hl => ?_)
  have hx := C.1
  have hb := C.2.1
  have hl : lv_has ls 2 [(0, .ref (gad G 0))] := hl
  refine lv_aload_n hx hb dX6_strict_0 rfl (lv_at hl 0 rfl) ?_
  refine r_get C B fo_X6_33 (cX_0 G s0) rfl dX6_strict_1 ?_
  obtain ⟨s2, q1, h⟩ := bd_o h
  refine r_callVv (rest := []) C B hl (c_X0_begin G s0 s2 q1) cs_X6_175 (cX_18 G s0) rfl rfl rfl (Nat.le_of_ble_eq_true rfl) ⟨rfl, rfl, Nat.le_of_ble_eq_true rfl, Nat.le_of_ble_eq_true rfl⟩ dX6_strict_4 (fun H locs B => ?_)
  refine lv_iconst (v := (0 : Int32)) hx hb dX6_strict_7 rfl ?_
  refine lv_istore_n (lv' := [(1, .int (0 : Int32)), (0, .ref (gad G 0))]) hx hb dX6_strict_8 rfl hl (by decide) rfl (fun ls hl => ?_)
  obtain ⟨e9, q10, h⟩ := bd_o h
  refine l_X6_strict_L1 C hr  n (0 : Int32) s2 e9 q10 ?_ H locs ls B (lv_sub hl [1, 0] rfl)
  intro H locs ls B hl
  refine lv_aload_n hx hb dX6_strict_42 rfl (lv_at hl 0 rfl) ?_
  refine r_get C B fo_X6_33 (cX_0 G e9) rfl dX6_strict_43 ?_
  refine lv_aload_n hx hb dX6_strict_46 rfl (lv_at hl 0 rfl) ?_
  refine r_get C B fo_X6_10 (cX_0 G e9) rfl dX6_strict_47 ?_
  refine r_get C B fo_X6_60 (cX_1 G e9) rfl dX6_strict_50 ?_
  obtain ⟨r13, s12, q11, h⟩ := bd2_o h
  refine r_callVi (rest := []) C B hl (c_X0_isMade G n e9 (e9.1 1) r13 s12 q11) cs_X6_183 (cX_18 G e9) rfl rfl rfl (Nat.le_of_ble_eq_true rfl) ⟨rfl, rfl, Nat.le_of_ble_eq_true rfl, Nat.le_of_ble_eq_true rfl⟩ dX6_strict_53 (fun H locs B => ?_)
  refine lv_if_ne (tgt := 62) hx hb dX6_strict_56 (by decide) (fun q14 => ?_) (fun q14 => ?_)
  · have h := ig h q14
    refine lv_aload_n hx hb dX6_strict_62 rfl (lv_at hl 0 rfl) ?_
    refine r_get C B fo_X6_10 (cX_0 G s12) rfl dX6_strict_63 ?_
    refine lv_aload_n hx hb dX6_strict_66 rfl (lv_at hl 0 rfl) ?_
    refine r_get C B fo_X6_33 (cX_0 G s12) rfl dX6_strict_67 ?_
    refine r_get C B fo_X6_189 (cX_18 G s12) rfl dX6_strict_70 ?_
    obtain ⟨s16, q15, h⟩ := bd_o h
    refine r_callVv (rest := []) C B hl (c_X4_straighten_a19 G n s12 s16 q15) cs_X6_195 (cX_1 G s12) rfl rfl rfl (Nat.le_of_ble_eq_true rfl) ⟨rfl, rfl, Nat.le_of_ble_eq_true rfl, Nat.le_of_ble_eq_true rfl⟩ dX6_strict_73 (fun H locs B => ?_)
    refine lv_aload_n hx hb dX6_strict_76 rfl (lv_at hl 0 rfl) ?_
    refine r_get C B fo_X6_10 (cX_0 G s16) rfl dX6_strict_77 ?_
    obtain ⟨r18, q17, h⟩ := bd_o h
    refine r_callVi (rest := []) C B hl (c_X4_countRoads G n s16 r18 q17) cs_X6_199 (cX_1 G s16) rfl rfl rfl (Nat.le_of_ble_eq_true rfl) ⟨rfl, rfl, Nat.le_of_ble_eq_true rfl, Nat.le_of_ble_eq_true rfl⟩ dX6_strict_80 (fun H locs B => ?_)
    obtain ⟨rfl, rfl⟩ := ret2 h
    exact r_iret C B hr rfl dX6_strict_83
  · have h := ip h q14
    refine lv_bipush (v := (-3 : Int32)) hx hb dX6_strict_59 rfl ?_
    obtain ⟨rfl, rfl⟩ := ret2 h
    exact r_iret C B hr rfl dX6_strict_61
def rm_X1_isLike_13_a10 : Room := { frames := 0, cells := 0, slots := 0, locals := 0 }
set_option maxRecDepth 100000 in
set_option maxHeartbeats 4000000 in
theorem l_X1_isLike_13_a10_L1 {G : GT} {p : Program} {e : Env} {s : State} {m : MethodId} {args : Array Value} {below : List Frame} {meth : Method} {c : Code} {Q : State → Prop} (C : CT G p s m meth c args cX1_isLike 3 RX1) (hr : meth.sig.returnType = (some .boolean)) (s0 : ST) : ∀ (k : Nat) (v2 : Int32) (e1 : (Int32) ⊕ (Unit)), X1_isLike_13_a10_L1 s0 k v2 = some e1 → (∀ rv, e1 = Sum.inl rv → Q = QR G below args s (some (.int rv)) (wX G s0)) → (∀ ex, e1 = Sum.inr ex → Kn G p e rm_X1_isLike_13_a10 s m args below meth c Q 3 31 [] (wX G s0)) → Kn G p e rm_X1_isLike_13_a10 s m args below meth c Q 3 2 [(0, .ref (gad G 13)), (1, .ref (gad G 10)), (2, .int v2)] (wX G s0) := by
  have hx := C.1
  have hb := C.2.1
  intro k
  induction k with
  | zero =>
    intro v2 e1 h
    exact nso h
  | succ k ih =>
    intro v2 e1 h hret hk H locs ls B hl
    have h : X1_isLike_13_a10_L1_b s0 (X1_isLike_13_a10_L1 s0 k) v2 = some e1 := h
    unfold X1_isLike_13_a10_L1_b at h
    refine lv_iload_n hx hb dX1_isLike_2 rfl (lv_at hl 2 rfl) ?_
    refine lv_iconst (v := (4 : Int32)) hx hb dX1_isLike_3 rfl ?_
    refine lv_icmp_ge (tgt := 31) hx hb dX1_isLike_4 (by decide) (fun q1 => ?_) (fun q1 => ?_)
    · have h := ip h q1
      obtain rfl := ret1 h
      exact hk _ rfl H locs ls B (lv_sub hl [] rfl)
    · have h := ig h q1
      refine lv_aload_n hx hb dX1_isLike_7 rfl (lv_at hl 0 rfl) ?_
      refine r_get C B fo_X1_11 (cX_13 G s0) rfl dX1_isLike_8 ?_
      refine lv_iload_n hx hb dX1_isLike_11 rfl (lv_at hl 2 rfl) ?_
      obtain ⟨q2, h⟩ := gd_o h
      refine r_lald C B (cX_14 G s0) (inb_vp q2) dX1_isLike_12 ?_
      refine lv_aload_n hx hb dX1_isLike_13 rfl (lv_at hl 1 rfl) ?_
      refine r_get C B fo_X1_11 (cX_10 G s0) rfl dX1_isLike_14 ?_
      refine lv_iload_n hx hb dX1_isLike_17 rfl (lv_at hl 2 rfl) ?_
      obtain ⟨q3, h⟩ := gd_o h
      refine r_lald C B (cX_11 G s0) (inb_vp q3) dX1_isLike_18 ?_
      refine W.lcmp hx hb dX1_isLike_19 ?_
      refine lv_if_eq (tgt := 25) hx hb dX1_isLike_20 (by decide) (fun q4 => ?_) (fun q4 => ?_)
      · have h := ip h q4
        obtain ⟨v2_5, q6, h⟩ := nm_o h
        refine lv_iinc (v := v2_5) (lv' := [(2, .int v2_5), (0, .ref (gad G 13)), (1, .ref (gad G 10))]) hx hb dX1_isLike_25 hl (k := 2) rfl q6.symm (by decide) rfl (fun ls hl => ?_)
        refine lv_goto (tgt := 2) hx hb dX1_isLike_28 (by decide) ?_
        exact ih v2_5 e1 h hret hk H locs ls B (lv_sub hl [1, 2, 0] rfl)
      · have h := ig h q4
        refine lv_iconst (v := (0 : Int32)) hx hb dX1_isLike_23 rfl ?_
        obtain rfl := ret1 h
        rw [hret _ rfl]
        exact r_iret C B hr nar_0 dX1_isLike_24
set_option maxRecDepth 100000 in
set_option maxHeartbeats 4000000 in
theorem c_X1_isLike_13_a10 (G : GT) (n : Nat) (s0 : ST)  (r : Int32) (h : X1_isLike_13_a10 n s0  = some r) : Con G yX1_isLike cX1_isLike 3 (some .boolean) rm_X1_isLike_13_a10 [.ref (gad G 13), .ref (gad G 10)] (wX G s0) (some (.int r)) (wX G s0) := by
  unfold X1_isLike_13_a10 at h
  refine con_of (by decide +kernel) (Nat.le_of_ble_eq_true rfl) (fun {p e s m below meth c} C hr {H locs ls} B hl => ?_)
  have hx := C.1
  have hb := C.2.1
  have hl : lv_has ls 3 [(0, .ref (gad G 13)), (1, .ref (gad G 10))] := hl
  refine lv_iconst (v := (0 : Int32)) hx hb dX1_isLike_0 rfl ?_
  refine lv_istore_n (lv' := [(2, .int (0 : Int32)), (0, .ref (gad G 13)), (1, .ref (gad G 10))]) hx hb dX1_isLike_1 rfl hl (by decide) rfl (fun ls hl => ?_)
  obtain ⟨e7, q8, h⟩ := bd_o h
  refine l_X1_isLike_13_a10_L1 C hr s0 n (0 : Int32) e7 q8 (fun rv q => by have h := sm_l h q; cases h; rfl) (fun e9 q10 => ?_) H locs ls B (lv_sub hl [1, 2, 0] rfl)
  have h := sm_r h q10
  intro H locs ls B hl
  refine lv_iconst (v := (1 : Int32)) hx hb dX1_isLike_31 rfl ?_
  obtain rfl := ret1 h
  exact r_iret C B hr nar_1 dX1_isLike_32
def rm_X2_stays : Room := { frames := 2, cells := 0, slots := 0, locals := 45 }
set_option maxRecDepth 100000 in
set_option maxHeartbeats 4000000 in
theorem l_X2_stays_L1 {G : GT} {p : Program} {e : Env} {s : State} {m : MethodId} {args : Array Value} {below : List Frame} {meth : Method} {c : Code} {Q : State → Prop} (C : CT G p s m meth c args cX2_stays 5 RX2) (hr : meth.sig.returnType = (some .boolean)) (n : Nat) (v2 : Int32) (v3 : Int32) : ∀ (k : Nat) (v4 : Int32) (s0 : ST) (e1 : ST), X2_stays_L1 n v2 v3 k v4 s0 = some e1 → Kn G p e rm_X2_stays s m args below meth c Q 5 49 [(0, .ref (gad G 9))] (wX G e1) → Kn G p e rm_X2_stays s m args below meth c Q 5 10 [(0, .ref (gad G 9)), (1, .ref (gad G 1)), (2, .int v2), (3, .int v3), (4, .int v4)] (wX G s0) := by
  have hx := C.1
  have hb := C.2.1
  intro k
  induction k with
  | zero =>
    intro v4 s0 e1 h
    exact nso h
  | succ k ih =>
    intro v4 s0 e1 h hk H locs ls B hl
    have h : X2_stays_L1_b n v2 v3 (X2_stays_L1 n v2 v3 k) v4 s0 = some e1 := h
    unfold X2_stays_L1_b at h
    refine lv_iload hx hb dX2_stays_10 (lv_at hl 4 rfl) ?_
    refine lv_aload_n hx hb dX2_stays_12 rfl (lv_at hl 1 rfl) ?_
    refine r_get C B fo_X2_68 (cX_1 G s0) rfl dX2_stays_13 ?_
    refine lv_icmp_ge (tgt := 49) hx hb dX2_stays_16 (by decide) (fun q3 => ?_) (fun q3 => ?_)
    · have h := ip h q3
      obtain rfl := ret1 h
      exact hk H locs ls B (lv_sub hl [0] rfl)
    · have h := ig h q3
      refine lv_aload_n hx hb dX2_stays_19 rfl (lv_at hl 0 rfl) ?_
      refine r_get C B fo_X2_18 (cX_9 G s0) rfl dX2_stays_20 ?_
      refine lv_iload hx hb dX2_stays_23 (lv_at hl 4 rfl) ?_
      refine lv_iload_n hx hb dX2_stays_25 rfl (lv_at hl 2 rfl) ?_
      refine lv_icmp_ne (tgt := 33) hx hb dX2_stays_26 (by decide) (fun q4 => ?_) (fun q4 => ?_)
      · have h := ig h q4
        refine lv_aload_n hx hb dX2_stays_33 rfl (lv_at hl 1 rfl) ?_
        refine r_get C B fo_X2_71 (cX_1 G s0) rfl dX2_stays_34 ?_
        refine lv_iload hx hb dX2_stays_37 (lv_at hl 4 rfl) ?_
        obtain ⟨q5, h⟩ := gd_o h
        refine r_iald C B (cX_4 G s0) (inb_vp q5) dX2_stays_39 ?_
        obtain ⟨s7, q6, h⟩ := bd_o h
        refine r_callVv (rest := []) C B hl (c_X1_join_13 G n s0 (s0.2.1 2 (v4).toNatClampNeg) s7 q6) cs_X2_60 (cX_13 G s0) rfl rfl rfl (Nat.le_of_ble_eq_true rfl) ⟨rfl, rfl, Nat.le_of_ble_eq_true rfl, Nat.le_of_ble_eq_true rfl⟩ dX2_stays_40 (fun H locs B => ?_)
        obtain ⟨v4_8, q9, h⟩ := nm_o h
        refine lv_iinc (v := v4_8) (lv' := [(4, .int v4_8), (0, .ref (gad G 9)), (1, .ref (gad G 1)), (2, .int v2), (3, .int v3)]) hx hb dX2_stays_43 hl (k := 4) rfl q9.symm (by decide) rfl (fun ls hl => ?_)
        refine lv_goto (tgt := 10) hx hb dX2_stays_46 (by decide) ?_
        exact ih v4_8 s7 e1 h hk H locs ls B (lv_sub hl [1, 2, 3, 4, 0] rfl)
      · have h := ip h q4
        refine lv_iload_n hx hb dX2_stays_29 rfl (lv_at hl 3 rfl) ?_
        refine lv_goto (tgt := 40) hx hb dX2_stays_30 (by decide) ?_
        obtain ⟨s11, q10, h⟩ := bd_o h
        refine r_callVv (rest := []) C B hl (c_X1_join_13 G n s0 v3 s11 q10) cs_X2_60 (cX_13 G s0) rfl rfl rfl (Nat.le_of_ble_eq_true rfl) ⟨rfl, rfl, Nat.le_of_ble_eq_true rfl, Nat.le_of_ble_eq_true rfl⟩ dX2_stays_40 (fun H locs B => ?_)
        obtain ⟨v4_12, q13, h⟩ := nm_o h
        refine lv_iinc (v := v4_12) (lv' := [(4, .int v4_12), (0, .ref (gad G 9)), (1, .ref (gad G 1)), (2, .int v2), (3, .int v3)]) hx hb dX2_stays_43 hl (k := 4) rfl q13.symm (by decide) rfl (fun ls hl => ?_)
        refine lv_goto (tgt := 10) hx hb dX2_stays_46 (by decide) ?_
        exact ih v4_12 s11 e1 h hk H locs ls B (lv_sub hl [1, 2, 3, 4, 0] rfl)
set_option maxRecDepth 100000 in
set_option maxHeartbeats 4000000 in
theorem c_X2_stays (G : GT) (n : Nat) (s0 : ST) (v2 : Int32) (v3 : Int32) (r : Int32) (s' : ST) (h : X2_stays n s0 v2 v3 = some (r, s')) : Con G yX2_stays cX2_stays 5 (some .boolean) rm_X2_stays [.ref (gad G 9), .ref (gad G 1), .int v2, .int v3] (wX G s0) (some (.int r)) (wX G s') := by
  unfold X2_stays at h
  refine con_of (by decide +kernel) (Nat.le_of_ble_eq_true rfl) (fun {p e s m below meth c} C hr {H locs ls} B hl => ?_)
  have hx := C.1
  have hb := C.2.1
  have hl : lv_has ls 5 [(0, .ref (gad G 9)), (1, .ref (gad G 1)), (2, .int v2), (3, .int v3)] := hl
  refine lv_aload_n hx hb dX2_stays_0 rfl (lv_at hl 0 rfl) ?_
  refine r_get C B fo_X2_18 (cX_9 G s0) rfl dX2_stays_1 ?_
  obtain ⟨s2, q1, h⟩ := bd_o h
  refine r_callVv (rest := []) C B hl (c_X1_begin_13 G n s0 s2 q1) cs_X2_47 (cX_13 G s0) rfl rfl rfl (Nat.le_of_ble_eq_true rfl) ⟨rfl, rfl, Nat.le_of_ble_eq_true rfl, Nat.le_of_ble_eq_true rfl⟩ dX2_stays_4 (fun H locs B => ?_)
  refine lv_iconst (v := (0 : Int32)) hx hb dX2_stays_7 rfl ?_
  refine lv_istore (lv' := [(4, .int (0 : Int32)), (0, .ref (gad G 9)), (1, .ref (gad G 1)), (2, .int v2), (3, .int v3)]) hx hb dX2_stays_8 hl (by decide) rfl (fun ls hl => ?_)
  obtain ⟨e14, q15, h⟩ := bd_o h
  refine l_X2_stays_L1 C hr n v2 v3 n (0 : Int32) s2 e14 q15 ?_ H locs ls B (lv_sub hl [1, 2, 3, 4, 0] rfl)
  intro H locs ls B hl
  refine lv_aload_n hx hb dX2_stays_49 rfl (lv_at hl 0 rfl) ?_
  refine r_get C B fo_X2_18 (cX_9 G e14) rfl dX2_stays_50 ?_
  refine lv_aload_n hx hb dX2_stays_53 rfl (lv_at hl 0 rfl) ?_
  refine r_get C B fo_X2_12 (cX_9 G e14) rfl dX2_stays_54 ?_
  obtain ⟨r17, q16, h⟩ := bd_o h
  refine r_callVi (rest := []) C B hl (c_X1_isLike_13_a10 G n e14 r17 q16) cs_X2_109 (cX_13 G e14) rfl rfl rfl (Nat.le_of_ble_eq_true rfl) ⟨rfl, rfl, Nat.le_of_ble_eq_true rfl, Nat.le_of_ble_eq_true rfl⟩ dX2_stays_57 (fun H locs B => ?_)
  obtain ⟨q18, h⟩ := gd_o h
  obtain ⟨rfl, rfl⟩ := ret2 h
  exact r_iret C B hr (bz_nar q18) dX2_stays_60
def rm_X6_likewise : Room := { frames := 5, cells := 0, slots := 0, locals := 110 }
set_option maxRecDepth 100000 in
set_option maxHeartbeats 4000000 in
theorem l_X6_likewise_L1 {G : GT} {p : Program} {e : Env} {s : State} {m : MethodId} {args : Array Value} {below : List Frame} {meth : Method} {c : Code} {Q : State → Prop} (C : CT G p s m meth c args cX6_likewise 7 RX6) (hr : meth.sig.returnType = (some .int)) (n : Nat) (v4 : Int32) (v1 : Int32) (v2 : Int32) : ∀ (k : Nat) (v6 : Int32) (v5 : Int32) (s0 : ST) (e1 : Int32 × ST), X6_likewise_L1 n v4 v1 v2 k v6 v5 s0 = some e1 → Kn G p e rm_X6_likewise s m args below meth c Q 7 77 [(5, .int e1.1)] (wX G e1.2) → Kn G p e rm_X6_likewise s m args below meth c Q 7 22 [(3, .ref (gad G 9)), (0, .ref (gad G 0)), (4, .int v4), (1, .int v1), (2, .int v2), (6, .int v6), (5, .int v5)] (wX G s0) := by
  have hx := C.1
  have hb := C.2.1
  intro k
  induction k with
  | zero =>
    intro v6 v5 s0 e1 h
    exact nso h
  | succ k ih =>
    intro v6 v5 s0 e1 h hk H locs ls B hl
    have h : X6_likewise_L1_b n v4 v1 v2 (X6_likewise_L1 n v4 v1 v2 k) v6 v5 s0 = some e1 := h
    unfold X6_likewise_L1_b at h
    refine lv_iload hx hb dX6_likewise_22 (lv_at hl 5 rfl) ?_
    refine lv_aload_n hx hb dX6_likewise_24 rfl (lv_at hl 1 rfl) ?_
    refine r_get C B fo_X6_10 (cX_0 G s0) rfl dX6_likewise_25 ?_
    refine r_get C B fo_X6_60 (cX_1 G s0) rfl dX6_likewise_28 ?_
    refine lv_icmp_ge (tgt := 77) hx hb dX6_likewise_31 (by decide) (fun q6 => ?_) (fun q6 => ?_)
    · have h := ip h q6
      obtain rfl := ret1 h
      exact hk H locs ls B (lv_sub hl [6] rfl)
    · have h := ig h q6
      refine lv_iload_n hx hb dX6_likewise_34 rfl (lv_at hl 4 rfl) ?_
      refine lv_iload hx hb dX6_likewise_35 (lv_at hl 5 rfl) ?_
      obtain ⟨r7, q8, h⟩ := bd_o h
      refine r_callSi (rest := []) C B.2.2 hl (c_X6_has G v2 v6 r7 q8) cs_X6_145 rfl rfl (Nat.le_of_ble_eq_true rfl) ⟨rfl, rfl, Nat.le_of_ble_eq_true rfl, Nat.le_of_ble_eq_true rfl⟩ dX6_likewise_37 ?_
      refine lv_if_eq (tgt := 71) hx hb dX6_likewise_40 (by decide) (fun q9 => ?_) (fun q9 => ?_)
      · have h := ip h q9
        obtain ⟨v6_10, q11, h⟩ := nm_o h
        refine lv_iinc (v := v6_10) (lv' := [(6, .int v6_10), (3, .ref (gad G 9)), (0, .ref (gad G 0)), (4, .int v4), (1, .int v1), (2, .int v2), (5, .int v5)]) hx hb dX6_likewise_71 hl (k := 5) rfl q11.symm (by decide) rfl (fun ls hl => ?_)
        refine lv_goto (tgt := 22) hx hb dX6_likewise_74 (by decide) ?_
        exact ih v6_10 v5 s0 e1 h hk H locs ls B (lv_sub hl [1, 2, 3, 4, 5, 0, 6] rfl)
      · have h := ig h q9
        refine lv_aload_n hx hb dX6_likewise_43 rfl (lv_at hl 0 rfl) ?_
        refine lv_aload_n hx hb dX6_likewise_44 rfl (lv_at hl 1 rfl) ?_
        refine r_get C B fo_X6_10 (cX_0 G s0) rfl dX6_likewise_45 ?_
        refine lv_iload_n hx hb dX6_likewise_48 rfl (lv_at hl 3 rfl) ?_
        refine lv_iload hx hb dX6_likewise_49 (lv_at hl 2 rfl) ?_
        refine lv_iconst (v := (1 : Int32)) hx hb dX6_likewise_51 rfl ?_
        refine lv_iload hx hb dX6_likewise_52 (lv_at hl 5 rfl) ?_
        refine lv_ishl hx hb dX6_likewise_54 ?_
        refine lv_ixor hx hb dX6_likewise_55 ?_
        obtain ⟨r14, s13, q12, h⟩ := bd2_o h
        refine r_callVi (rest := []) C B hl (c_X2_stays G n s0 v1 (v4 ^^^ ((1 : Int32) <<< (v6 &&& 31))) r14 s13 q12) cs_X6_205 (cX_9 G s0) rfl rfl rfl (Nat.le_of_ble_eq_true rfl) ⟨rfl, rfl, Nat.le_of_ble_eq_true rfl, Nat.le_of_ble_eq_true rfl⟩ dX6_likewise_56 (fun H locs B => ?_)
        refine lv_if_eq (tgt := 71) hx hb dX6_likewise_59 (by decide) (fun q15 => ?_) (fun q15 => ?_)
        · have h := ip h q15
          obtain ⟨v6_16, q17, h⟩ := nm_o h
          refine lv_iinc (v := v6_16) (lv' := [(6, .int v6_16), (3, .ref (gad G 9)), (0, .ref (gad G 0)), (4, .int v4), (1, .int v1), (2, .int v2), (5, .int v5)]) hx hb dX6_likewise_71 hl (k := 5) rfl q17.symm (by decide) rfl (fun ls hl => ?_)
          refine lv_goto (tgt := 22) hx hb dX6_likewise_74 (by decide) ?_
          exact ih v6_16 v5 s13 e1 h hk H locs ls B (lv_sub hl [1, 2, 3, 4, 5, 0, 6] rfl)
        · have h := ig h q15
          refine lv_iload hx hb dX6_likewise_62 (lv_at hl 6 rfl) ?_
          refine lv_iconst (v := (1 : Int32)) hx hb dX6_likewise_64 rfl ?_
          refine lv_iload hx hb dX6_likewise_65 (lv_at hl 5 rfl) ?_
          refine lv_ishl hx hb dX6_likewise_67 ?_
          refine lv_ior hx hb dX6_likewise_68 ?_
          obtain ⟨v5_18, q19, h⟩ := nm_o h
          refine r_nm q19 ?_
          refine lv_istore (lv' := [(5, .int v5_18), (3, .ref (gad G 9)), (0, .ref (gad G 0)), (4, .int v4), (1, .int v1), (2, .int v2), (6, .int v6)]) hx hb dX6_likewise_69 hl (by decide) rfl (fun ls hl => ?_)
          obtain ⟨v6_20, q21, h⟩ := nm_o h
          refine lv_iinc (v := v6_20) (lv' := [(6, .int v6_20), (5, .int v5_18), (3, .ref (gad G 9)), (0, .ref (gad G 0)), (4, .int v4), (1, .int v1), (2, .int v2)]) hx hb dX6_likewise_71 hl (k := 6) rfl q21.symm (by decide) rfl (fun ls hl => ?_)
          refine lv_goto (tgt := 22) hx hb dX6_likewise_74 (by decide) ?_
          exact ih v6_20 v5_18 s13 e1 h hk H locs ls B (lv_sub hl [2, 3, 4, 5, 6, 0, 1] rfl)
set_option maxRecDepth 100000 in
set_option maxHeartbeats 4000000 in
theorem c_X6_likewise (G : GT) (n : Nat) (s0 : ST) (v1 : Int32) (v2 : Int32) (r : Int32) (s' : ST) (h : X6_likewise n s0 v1 v2 = some (r, s')) : Con G yX6_likewise cX6_likewise 7 (some .int) rm_X6_likewise [.ref (gad G 0), .int v1, .int v2] (wX G s0) (some (.int r)) (wX G s') := by
  unfold X6_likewise at h
  refine con_of (by decide +kernel) (Nat.le_of_ble_eq_true rfl) (fun {p e s m below meth c} C hr {H locs ls} B hl => ?_)
  have hx := C.1
  have hb := C.2.1
  have hl : lv_has ls 7 [(0, .ref (gad G 0)), (1, .int v1), (2, .int v2)] := hl
  refine lv_aload_n hx hb dX6_likewise_0 rfl (lv_at hl 0 rfl) ?_
  obtain ⟨s2, q1, h⟩ := bd_o h
  refine r_callVa (rest := []) C B hl (c_X6_freshRanks G n s0 s2 q1) cs_X6_116 (cX_0 G s0) rfl rfl rfl (Nat.le_of_ble_eq_true rfl) ⟨rfl, rfl, Nat.le_of_ble_eq_true rfl, Nat.le_of_ble_eq_true rfl⟩ dX6_likewise_1 (fun H locs B => ?_)
  refine lv_astore_n (lv' := [(3, .ref (gad G 9)), (0, .ref (gad G 0)), (1, .int v1), (2, .int v2)]) hx hb dX6_likewise_4 rfl hl (by decide) rfl (fun ls hl => ?_)
  refine lv_aload_n hx hb dX6_likewise_5 rfl (lv_at hl 1 rfl) ?_
  refine r_get C B fo_X6_10 (cX_0 G s2) rfl dX6_likewise_6 ?_
  refine r_get C B fo_X6_104 (cX_1 G s2) rfl dX6_likewise_9 ?_
  refine lv_iload_n hx hb dX6_likewise_12 rfl (lv_at hl 2 rfl) ?_
  obtain ⟨q3, h⟩ := gd_o h
  refine r_iald C B (cX_4 G s2) (inb_vp q3) dX6_likewise_13 ?_
  obtain ⟨v4_4, q5, h⟩ := nm_o h
  refine r_nm q5 ?_
  refine lv_istore (lv' := [(4, .int v4_4), (3, .ref (gad G 9)), (0, .ref (gad G 0)), (1, .int v1), (2, .int v2)]) hx hb dX6_likewise_14 hl (by decide) rfl (fun ls hl => ?_)
  refine lv_iconst (v := (0 : Int32)) hx hb dX6_likewise_16 rfl ?_
  refine lv_istore (lv' := [(5, .int (0 : Int32)), (4, .int v4_4), (3, .ref (gad G 9)), (0, .ref (gad G 0)), (1, .int v1), (2, .int v2)]) hx hb dX6_likewise_17 hl (by decide) rfl (fun ls hl => ?_)
  refine lv_iconst (v := (0 : Int32)) hx hb dX6_likewise_19 rfl ?_
  refine lv_istore (lv' := [(6, .int (0 : Int32)), (5, .int (0 : Int32)), (4, .int v4_4), (3, .ref (gad G 9)), (0, .ref (gad G 0)), (1, .int v1), (2, .int v2)]) hx hb dX6_likewise_20 hl (by decide) rfl (fun ls hl => ?_)
  obtain ⟨e22, q23, h⟩ := bd_o h
  refine l_X6_likewise_L1 C hr n v4_4 v1 v2 n (0 : Int32) (0 : Int32) s2 e22 q23 ?_ H locs ls B (lv_sub hl [3, 4, 2, 5, 6, 0, 1] rfl)
  intro H locs ls B hl
  refine lv_iload hx hb dX6_likewise_77 (lv_at hl 0 rfl) ?_
  obtain ⟨rfl, rfl⟩ := ret2 h
  exact r_iret C B hr rfl dX6_likewise_79
def rm_X6_spare : Room := { frames := 6, cells := 0, slots := 0, locals := 136 }
set_option maxRecDepth 100000 in
set_option maxHeartbeats 4000000 in
theorem c_X6_spare (G : GT) (n : Nat) (s0 : ST) (v1 : Int32) (r : Int32) (s' : ST) (h : X6_spare n s0 v1 = some (r, s')) : Con G yX6_spare cX6_spare 2 (some .int) rm_X6_spare [.ref (gad G 0), .int v1] (wX G s0) (some (.int r)) (wX G s') := by
  unfold X6_spare at h
  refine con_of (by decide +kernel) (Nat.le_of_ble_eq_true rfl) (fun {p e s m below meth c} C hr {H locs ls} B hl => ?_)
  have hx := C.1
  have hb := C.2.1
  have hl : lv_has ls 2 [(0, .ref (gad G 0)), (1, .int v1)] := hl
  refine lv_aload_n hx hb dX6_spare_0 rfl (lv_at hl 0 rfl) ?_
  refine r_get C B fo_X6_10 (cX_0 G s0) rfl dX6_spare_1 ?_
  refine lv_iload_n hx hb dX6_spare_4 rfl (lv_at hl 1 rfl) ?_
  obtain ⟨r2, q1, h⟩ := bd_o h
  refine r_callVi (rest := []) C B hl (c_X4_isNumber G s0 v1 r2 q1) cs_X6_101 (cX_1 G s0) rfl rfl rfl (Nat.le_of_ble_eq_true rfl) ⟨rfl, rfl, Nat.le_of_ble_eq_true rfl, Nat.le_of_ble_eq_true rfl⟩ dX6_spare_5 (fun H locs B => ?_)
  refine lv_if_ne (tgt := 13) hx hb dX6_spare_8 (by decide) (fun q3 => ?_) (fun q3 => ?_)
  · have h := ig h q3
    refine lv_aload_n hx hb dX6_spare_13 rfl (lv_at hl 0 rfl) ?_
    refine lv_iload_n hx hb dX6_spare_14 rfl (lv_at hl 1 rfl) ?_
    refine lv_aload_n hx hb dX6_spare_15 rfl (lv_at hl 0 rfl) ?_
    refine r_get C B fo_X6_10 (cX_0 G s0) rfl dX6_spare_16 ?_
    refine r_get C B fo_X6_104 (cX_1 G s0) rfl dX6_spare_19 ?_
    refine lv_iload_n hx hb dX6_spare_22 rfl (lv_at hl 1 rfl) ?_
    obtain ⟨q4, h⟩ := gd_o h
    refine r_iald C B (cX_4 G s0) (inb_vp q4) dX6_spare_23 ?_
    obtain ⟨r7, s6, q5, h⟩ := bd2_o h
    refine r_callVi (rest := []) C B hl (c_X6_likewise G n s0 v1 (s0.2.1 2 (v1).toNatClampNeg) r7 s6 q5) cs_X6_202 (cX_0 G s0) rfl rfl rfl (Nat.le_of_ble_eq_true rfl) ⟨rfl, rfl, Nat.le_of_ble_eq_true rfl, Nat.le_of_ble_eq_true rfl⟩ dX6_spare_24 (fun H locs B => ?_)
    obtain ⟨rfl, rfl⟩ := ret2 h
    exact r_iret C B hr rfl dX6_spare_27
  · have h := ip h q3
    refine lv_iconst (v := (-1 : Int32)) hx hb dX6_spare_11 rfl ?_
    obtain ⟨rfl, rfl⟩ := ret2 h
    exact r_iret C B hr rfl dX6_spare_12
def rm_X6_room : Room := { frames := 6, cells := 0, slots := 0, locals := 136 }
set_option maxRecDepth 100000 in
set_option maxHeartbeats 4000000 in
theorem c_X6_room (G : GT) (n : Nat) (s0 : ST) (v1 : Int32) (r : Int32) (s' : ST) (h : X6_room n s0 v1 = some (r, s')) : Con G yX6_room cX6_room 2 (some .int) rm_X6_room [.ref (gad G 0), .int v1] (wX G s0) (some (.int r)) (wX G s') := by
  unfold X6_room at h
  refine con_of (by decide +kernel) (Nat.le_of_ble_eq_true rfl) (fun {p e s m below meth c} C hr {H locs ls} B hl => ?_)
  have hx := C.1
  have hb := C.2.1
  have hl : lv_has ls 2 [(0, .ref (gad G 0)), (1, .int v1)] := hl
  refine lv_aload_n hx hb dX6_room_0 rfl (lv_at hl 0 rfl) ?_
  refine r_get C B fo_X6_10 (cX_0 G s0) rfl dX6_room_1 ?_
  refine lv_iload_n hx hb dX6_room_4 rfl (lv_at hl 1 rfl) ?_
  obtain ⟨r2, q1, h⟩ := bd_o h
  refine r_callVi (rest := []) C B hl (c_X4_isNumber G s0 v1 r2 q1) cs_X6_101 (cX_1 G s0) rfl rfl rfl (Nat.le_of_ble_eq_true rfl) ⟨rfl, rfl, Nat.le_of_ble_eq_true rfl, Nat.le_of_ble_eq_true rfl⟩ dX6_room_5 (fun H locs B => ?_)
  refine lv_if_ne (tgt := 13) hx hb dX6_room_8 (by decide) (fun q3 => ?_) (fun q3 => ?_)
  · have h := ig h q3
    refine lv_aload_n hx hb dX6_room_13 rfl (lv_at hl 0 rfl) ?_
    refine lv_iload_n hx hb dX6_room_14 rfl (lv_at hl 1 rfl) ?_
    refine lv_aload_n hx hb dX6_room_15 rfl (lv_at hl 0 rfl) ?_
    refine r_get C B fo_X6_10 (cX_0 G s0) rfl dX6_room_16 ?_
    obtain ⟨r5, q4, h⟩ := bd_o h
    refine r_callVi (rest := [.int v1, .ref (gad G 0)]) C B hl (c_X4_all G s0 r5 q4) cs_X6_154 (cX_1 G s0) rfl rfl rfl (Nat.le_of_ble_eq_true rfl) ⟨rfl, rfl, Nat.le_of_ble_eq_true rfl, Nat.le_of_ble_eq_true rfl⟩ dX6_room_19 (fun H locs B => ?_)
    refine lv_aload_n hx hb dX6_room_22 rfl (lv_at hl 0 rfl) ?_
    refine r_get C B fo_X6_10 (cX_0 G s0) rfl dX6_room_23 ?_
    refine r_get C B fo_X6_104 (cX_1 G s0) rfl dX6_room_26 ?_
    refine lv_iload_n hx hb dX6_room_29 rfl (lv_at hl 1 rfl) ?_
    obtain ⟨q6, h⟩ := gd_o h
    refine r_iald C B (cX_4 G s0) (inb_vp q6) dX6_room_30 ?_
    refine lv_iconst (v := (-1 : Int32)) hx hb dX6_room_31 rfl ?_
    refine lv_ixor hx hb dX6_room_32 ?_
    refine lv_iand hx hb dX6_room_33 ?_
    obtain ⟨r9, s8, q7, h⟩ := bd2_o h
    refine r_callVi (rest := []) C B hl (c_X6_likewise G n s0 v1 (r5 &&& ((s0.2.1 2 (v1).toNatClampNeg) ^^^ (-1 : Int32))) r9 s8 q7) cs_X6_202 (cX_0 G s0) rfl rfl rfl (Nat.le_of_ble_eq_true rfl) ⟨rfl, rfl, Nat.le_of_ble_eq_true rfl, Nat.le_of_ble_eq_true rfl⟩ dX6_room_34 (fun H locs B => ?_)
    obtain ⟨rfl, rfl⟩ := ret2 h
    exact r_iret C B hr rfl dX6_room_37
  · have h := ip h q3
    refine lv_iconst (v := (-1 : Int32)) hx hb dX6_room_11 rfl ?_
    obtain ⟨rfl, rfl⟩ := ret2 h
    exact r_iret C B hr rfl dX6_room_12
def rm_X6_idle : Room := { frames := 5, cells := 0, slots := 0, locals := 110 }
set_option maxRecDepth 100000 in
set_option maxHeartbeats 4000000 in
theorem l_X6_idle_L1 {G : GT} {p : Program} {e : Env} {s : State} {m : MethodId} {args : Array Value} {below : List Frame} {meth : Method} {c : Code} {Q : State → Prop} (C : CT G p s m meth c args cX6_idle 4 RX6) (hr : meth.sig.returnType = (some .int)) (n : Nat) : ∀ (k : Nat) (v3 : Int32) (v2 : Int32) (s0 : ST) (e1 : Int32 × ST), X6_idle_L1 n k v3 v2 s0 = some e1 → Kn G p e rm_X6_idle s m args below meth c Q 4 45 [(2, .int e1.1)] (wX G e1.2) → Kn G p e rm_X6_idle s m args below meth c Q 4 9 [(1, .ref (gad G 9)), (0, .ref (gad G 0)), (3, .int v3), (2, .int v2)] (wX G s0) := by
  have hx := C.1
  have hb := C.2.1
  intro k
  induction k with
  | zero =>
    intro v3 v2 s0 e1 h
    exact nso h
  | succ k ih =>
    intro v3 v2 s0 e1 h hk H locs ls B hl
    have h : X6_idle_L1_b n (X6_idle_L1 n k) v3 v2 s0 = some e1 := h
    unfold X6_idle_L1_b at h
    refine lv_iload_n hx hb dX6_idle_9 rfl (lv_at hl 2 rfl) ?_
    refine lv_aload_n hx hb dX6_idle_10 rfl (lv_at hl 1 rfl) ?_
    refine r_get C B fo_X6_10 (cX_0 G s0) rfl dX6_idle_11 ?_
    refine r_get C B fo_X6_95 (cX_1 G s0) rfl dX6_idle_14 ?_
    refine lv_icmp_ge (tgt := 45) hx hb dX6_idle_17 (by decide) (fun q3 => ?_) (fun q3 => ?_)
    · have h := ip h q3
      obtain rfl := ret1 h
      exact hk H locs ls B (lv_sub hl [3] rfl)
    · have h := ig h q3
      refine lv_aload_n hx hb dX6_idle_20 rfl (lv_at hl 0 rfl) ?_
      refine lv_aload_n hx hb dX6_idle_21 rfl (lv_at hl 1 rfl) ?_
      refine r_get C B fo_X6_10 (cX_0 G s0) rfl dX6_idle_22 ?_
      refine lv_iload_n hx hb dX6_idle_25 rfl (lv_at hl 2 rfl) ?_
      refine lv_iconst (v := (0 : Int32)) hx hb dX6_idle_26 rfl ?_
      obtain ⟨r6, s5, q4, h⟩ := bd2_o h
      refine r_callVi (rest := []) C B hl (c_X2_stays G n s0 v3 (0 : Int32) r6 s5 q4) cs_X6_205 (cX_9 G s0) rfl rfl rfl (Nat.le_of_ble_eq_true rfl) ⟨rfl, rfl, Nat.le_of_ble_eq_true rfl, Nat.le_of_ble_eq_true rfl⟩ dX6_idle_27 (fun H locs B => ?_)
      refine lv_if_eq (tgt := 39) hx hb dX6_idle_30 (by decide) (fun q7 => ?_) (fun q7 => ?_)
      · have h := ip h q7
        obtain ⟨v3_8, q9, h⟩ := nm_o h
        refine lv_iinc (v := v3_8) (lv' := [(3, .int v3_8), (1, .ref (gad G 9)), (0, .ref (gad G 0)), (2, .int v2)]) hx hb dX6_idle_39 hl (k := 2) rfl q9.symm (by decide) rfl (fun ls hl => ?_)
        refine lv_goto (tgt := 9) hx hb dX6_idle_42 (by decide) ?_
        exact ih v3_8 v2 s5 e1 h hk H locs ls B (lv_sub hl [1, 2, 0, 3] rfl)
      · have h := ig h q7
        refine lv_iload_n hx hb dX6_idle_33 rfl (lv_at hl 3 rfl) ?_
        refine lv_iconst (v := (1 : Int32)) hx hb dX6_idle_34 rfl ?_
        refine lv_iload_n hx hb dX6_idle_35 rfl (lv_at hl 2 rfl) ?_
        refine lv_ishl hx hb dX6_idle_36 ?_
        refine lv_ior hx hb dX6_idle_37 ?_
        obtain ⟨v2_10, q11, h⟩ := nm_o h
        refine r_nm q11 ?_
        refine lv_istore_n (lv' := [(2, .int v2_10), (1, .ref (gad G 9)), (0, .ref (gad G 0)), (3, .int v3)]) hx hb dX6_idle_38 rfl hl (by decide) rfl (fun ls hl => ?_)
        obtain ⟨v3_12, q13, h⟩ := nm_o h
        refine lv_iinc (v := v3_12) (lv' := [(3, .int v3_12), (2, .int v2_10), (1, .ref (gad G 9)), (0, .ref (gad G 0))]) hx hb dX6_idle_39 hl (k := 3) rfl q13.symm (by decide) rfl (fun ls hl => ?_)
        refine lv_goto (tgt := 9) hx hb dX6_idle_42 (by decide) ?_
        exact ih v3_12 v2_10 s5 e1 h hk H locs ls B (lv_sub hl [2, 3, 0, 1] rfl)
set_option maxRecDepth 100000 in
set_option maxHeartbeats 4000000 in
theorem c_X6_idle (G : GT) (n : Nat) (s0 : ST)  (r : Int32) (s' : ST) (h : X6_idle n s0  = some (r, s')) : Con G yX6_idle cX6_idle 4 (some .int) rm_X6_idle [.ref (gad G 0)] (wX G s0) (some (.int r)) (wX G s') := by
  unfold X6_idle at h
  refine con_of (by decide +kernel) (Nat.le_of_ble_eq_true rfl) (fun {p e s m below meth c} C hr {H locs ls} B hl => ?_)
  have hx := C.1
  have hb := C.2.1
  have hl : lv_has ls 4 [(0, .ref (gad G 0))] := hl
  refine lv_aload_n hx hb dX6_idle_0 rfl (lv_at hl 0 rfl) ?_
  obtain ⟨s2, q1, h⟩ := bd_o h
  refine r_callVa (rest := []) C B hl (c_X6_freshRanks G n s0 s2 q1) cs_X6_116 (cX_0 G s0) rfl rfl rfl (Nat.le_of_ble_eq_true rfl) ⟨rfl, rfl, Nat.le_of_ble_eq_true rfl, Nat.le_of_ble_eq_true rfl⟩ dX6_idle_1 (fun H locs B => ?_)
  refine lv_astore_n (lv' := [(1, .ref (gad G 9)), (0, .ref (gad G 0))]) hx hb dX6_idle_4 rfl hl (by decide) rfl (fun ls hl => ?_)
  refine lv_iconst (v := (0 : Int32)) hx hb dX6_idle_5 rfl ?_
  refine lv_istore_n (lv' := [(2, .int (0 : Int32)), (1, .ref (gad G 9)), (0, .ref (gad G 0))]) hx hb dX6_idle_6 rfl hl (by decide) rfl (fun ls hl => ?_)
  refine lv_iconst (v := (0 : Int32)) hx hb dX6_idle_7 rfl ?_
  refine lv_istore_n (lv' := [(3, .int (0 : Int32)), (2, .int (0 : Int32)), (1, .ref (gad G 9)), (0, .ref (gad G 0))]) hx hb dX6_idle_8 rfl hl (by decide) rfl (fun ls hl => ?_)
  obtain ⟨e14, q15, h⟩ := bd_o h
  refine l_X6_idle_L1 C hr n n (0 : Int32) (0 : Int32) s2 e14 q15 ?_ H locs ls B (lv_sub hl [2, 3, 0, 1] rfl)
  intro H locs ls B hl
  refine lv_iload_n hx hb dX6_idle_45 rfl (lv_at hl 0 rfl) ?_
  obtain ⟨rfl, rfl⟩ := ret2 h
  exact r_iret C B hr rfl dX6_idle_46
def rm_X4_removeEmpty : Room := { frames := 0, cells := 0, slots := 0, locals := 0 }
set_option maxRecDepth 100000 in
set_option maxHeartbeats 4000000 in
theorem l_X4_removeEmpty_L1 {G : GT} {p : Program} {e : Env} {s : State} {m : MethodId} {args : Array Value} {below : List Frame} {meth : Method} {c : Code} {Q : State → Prop} (C : CT G p s m meth c args cX4_removeEmpty 3 RX4) (hr : meth.sig.returnType = none) : ∀ (k : Nat) (v2 : Int32) (v1 : Int32) (s0 : ST) (e1 : Int32 × ST), X4_removeEmpty_L1  k v2 v1 s0 = some e1 → Kn G p e rm_X4_removeEmpty s m args below meth c Q 3 45 [(0, .ref (gad G 1)), (1, .int e1.1)] (wX G e1.2) → Kn G p e rm_X4_removeEmpty s m args below meth c Q 3 4 [(0, .ref (gad G 1)), (2, .int v2), (1, .int v1)] (wX G s0) := by
  have hx := C.1
  have hb := C.2.1
  intro k
  induction k with
  | zero =>
    intro v2 v1 s0 e1 h
    exact nso h
  | succ k ih =>
    intro v2 v1 s0 e1 h hk H locs ls B hl
    have h : X4_removeEmpty_L1_b  (X4_removeEmpty_L1  k) v2 v1 s0 = some e1 := h
    unfold X4_removeEmpty_L1_b at h
    refine lv_iload_n hx hb dX4_removeEmpty_4 rfl (lv_at hl 1 rfl) ?_
    refine lv_aload_n hx hb dX4_removeEmpty_5 rfl (lv_at hl 0 rfl) ?_
    refine r_get C B fo_X4_18 (cX_1 G s0) rfl dX4_removeEmpty_6 ?_
    refine lv_icmp_ge (tgt := 45) hx hb dX4_removeEmpty_9 (by decide) (fun q1 => ?_) (fun q1 => ?_)
    · have h := ip h q1
      obtain rfl := ret1 h
      exact hk H locs ls B (lv_sub hl [0, 2] rfl)
    · have h := ig h q1
      refine lv_aload_n hx hb dX4_removeEmpty_12 rfl (lv_at hl 0 rfl) ?_
      refine r_get C B fo_X4_31 (cX_1 G s0) rfl dX4_removeEmpty_13 ?_
      refine lv_iload_n hx hb dX4_removeEmpty_16 rfl (lv_at hl 1 rfl) ?_
      obtain ⟨q2, h⟩ := gd_o h
      refine r_iald C B (cX_4 G s0) (inb_vp q2) dX4_removeEmpty_17 ?_
      refine lv_if_ne (tgt := 24) hx hb dX4_removeEmpty_18 (by decide) (fun q3 => ?_) (fun q3 => ?_)
      · have h := ig h q3
        refine lv_aload_n hx hb dX4_removeEmpty_24 rfl (lv_at hl 0 rfl) ?_
        refine r_get C B fo_X4_31 (cX_1 G s0) rfl dX4_removeEmpty_25 ?_
        refine lv_iload_n hx hb dX4_removeEmpty_28 rfl (lv_at hl 2 rfl) ?_
        refine lv_aload_n hx hb dX4_removeEmpty_29 rfl (lv_at hl 0 rfl) ?_
        refine r_get C B fo_X4_31 (cX_1 G s0) rfl dX4_removeEmpty_30 ?_
        refine lv_iload_n hx hb dX4_removeEmpty_33 rfl (lv_at hl 1 rfl) ?_
        obtain ⟨q4, h⟩ := gd_o h
        refine r_iald C B (cX_4 G s0) (inb_vp q4) dX4_removeEmpty_34 ?_
        obtain ⟨q5, h⟩ := gd_o h
        obtain ⟨s6, q7, h⟩ := nm_o h
        refine r_iast C B (cX_4 G s0) (inb_vp q5) ((uXa_2 G s0 _).trans (congrArg (wX G) q7.symm)) dX4_removeEmpty_35 (fun H locs B => ?_)
        obtain ⟨v1_8, q9, h⟩ := nm_o h
        refine lv_iinc (v := v1_8) (lv' := [(1, .int v1_8), (0, .ref (gad G 1)), (2, .int v2)]) hx hb dX4_removeEmpty_36 hl (k := 2) rfl q9.symm (by decide) rfl (fun ls hl => ?_)
        obtain ⟨v2_10, q11, h⟩ := nm_o h
        refine lv_iinc (v := v2_10) (lv' := [(2, .int v2_10), (1, .int v1_8), (0, .ref (gad G 1))]) hx hb dX4_removeEmpty_39 hl (k := 2) rfl q11.symm (by decide) rfl (fun ls hl => ?_)
        refine lv_goto (tgt := 4) hx hb dX4_removeEmpty_42 (by decide) ?_
        exact ih v2_10 v1_8 s6 e1 h hk H locs ls B (lv_sub hl [2, 0, 1] rfl)
      · have h := ip h q3
        refine lv_goto (tgt := 39) hx hb dX4_removeEmpty_21 (by decide) ?_
        obtain ⟨v2_12, q13, h⟩ := nm_o h
        refine lv_iinc (v := v2_12) (lv' := [(2, .int v2_12), (0, .ref (gad G 1)), (1, .int v1)]) hx hb dX4_removeEmpty_39 hl (k := 1) rfl q13.symm (by decide) rfl (fun ls hl => ?_)
        refine lv_goto (tgt := 4) hx hb dX4_removeEmpty_42 (by decide) ?_
        exact ih v2_12 v1 s0 e1 h hk H locs ls B (lv_sub hl [1, 0, 2] rfl)
set_option maxRecDepth 100000 in
set_option maxHeartbeats 4000000 in
theorem c_X4_removeEmpty (G : GT) (n : Nat) (s0 : ST)  (s' : ST) (h : X4_removeEmpty n s0  = some s') : Con G yX4_removeEmpty cX4_removeEmpty 3 none rm_X4_removeEmpty [.ref (gad G 1)] (wX G s0) none (wX G s') := by
  unfold X4_removeEmpty at h
  refine con_of (by decide +kernel) (Nat.le_of_ble_eq_true rfl) (fun {p e s m below meth c} C hr {H locs ls} B hl => ?_)
  have hx := C.1
  have hb := C.2.1
  have hl : lv_has ls 3 [(0, .ref (gad G 1))] := hl
  refine lv_iconst (v := (0 : Int32)) hx hb dX4_removeEmpty_0 rfl ?_
  refine lv_istore_n (lv' := [(1, .int (0 : Int32)), (0, .ref (gad G 1))]) hx hb dX4_removeEmpty_1 rfl hl (by decide) rfl (fun ls hl => ?_)
  refine lv_iconst (v := (0 : Int32)) hx hb dX4_removeEmpty_2 rfl ?_
  refine lv_istore_n (lv' := [(2, .int (0 : Int32)), (1, .int (0 : Int32)), (0, .ref (gad G 1))]) hx hb dX4_removeEmpty_3 rfl hl (by decide) rfl (fun ls hl => ?_)
  obtain ⟨e14, q15, h⟩ := bd_o h
  refine l_X4_removeEmpty_L1 C hr  n (0 : Int32) (0 : Int32) s0 e14 q15 ?_ H locs ls B (lv_sub hl [2, 0, 1] rfl)
  intro H locs ls B hl
  refine lv_aload_n hx hb dX4_removeEmpty_45 rfl (lv_at hl 0 rfl) ?_
  refine lv_iload_n hx hb dX4_removeEmpty_46 rfl (lv_at hl 1 rfl) ?_
  obtain ⟨s16, q17, h⟩ := nm_o h
  refine r_put C B fp_X4_18 (cX_1 G e14.2) (Nat.le_of_ble_eq_true rfl) rfl rfl ((uXs_3 G e14.2 _).trans (congrArg (wX G) q17.symm)) dX4_removeEmpty_47 (fun H locs B => ?_)
  refine lv_aload_n hx hb dX4_removeEmpty_50 rfl (lv_at hl 0 rfl) ?_
  refine lv_dup hx hb dX4_removeEmpty_51 rfl ?_
  refine r_get C B fo_X4_21 (cX_1 G s16) rfl dX4_removeEmpty_52 ?_
  refine lv_iconst (v := (1 : Int32)) hx hb dX4_removeEmpty_55 rfl ?_
  refine lv_iadd hx hb dX4_removeEmpty_56 ?_
  obtain ⟨s18, q19, h⟩ := nm_o h
  refine r_put C B fp_X4_21 (cX_1 G s16) (Nat.le_of_ble_eq_true rfl) rfl rfl ((uXs_4 G s16 _).trans (congrArg (wX G) q19.symm)) dX4_removeEmpty_57 (fun H locs B => ?_)
  obtain rfl := ret1 h
  exact r_vret C B hr dX4_removeEmpty_60
def rm_X6_small : Room := { frames := 5, cells := 0, slots := 0, locals := 110 }
set_option maxRecDepth 100000 in
set_option maxHeartbeats 4000000 in
theorem l_X6_small_L2 {G : GT} {p : Program} {e : Env} {s : State} {m : MethodId} {args : Array Value} {below : List Frame} {meth : Method} {c : Code} {Q : State → Prop} (C : CT G p s m meth c args cX6_small 6 RX6) (hr : meth.sig.returnType = (some .int)) (n : Nat) (v3 : Int32) : ∀ (k : Nat) (v4 : Int32) (v2 : Int32) (s0 : ST) (e1 : Int32 × ST), X6_small_L2 n v3 k v4 v2 s0 = some e1 → Kn G p e rm_X6_small s m args below meth c Q 6 103 [(1, .ref (gad G 9)), (0, .ref (gad G 0)), (3, .int v3), (2, .int e1.1)] (wX G e1.2) → Kn G p e rm_X6_small s m args below meth c Q 6 23 [(1, .ref (gad G 9)), (0, .ref (gad G 0)), (3, .int v3), (4, .int v4), (2, .int v2)] (wX G s0) := by
  have hx := C.1
  have hb := C.2.1
  intro k
  induction k with
  | zero =>
    intro v4 v2 s0 e1 h
    exact nso h
  | succ k ih =>
    intro v4 v2 s0 e1 h hk H locs ls B hl
    have h : X6_small_L2_b n v3 (X6_small_L2 n v3 k) v4 v2 s0 = some e1 := h
    unfold X6_small_L2_b at h
    refine lv_iload hx hb dX6_small_23 (lv_at hl 3 rfl) ?_
    refine lv_aload_n hx hb dX6_small_25 rfl (lv_at hl 1 rfl) ?_
    refine r_get C B fo_X6_10 (cX_0 G s0) rfl dX6_small_26 ?_
    refine r_get C B fo_X6_60 (cX_1 G s0) rfl dX6_small_29 ?_
    refine lv_icmp_ge (tgt := 103) hx hb dX6_small_32 (by decide) (fun q4 => ?_) (fun q4 => ?_)
    · have h := ip h q4
      obtain rfl := ret1 h
      exact hk H locs ls B (lv_sub hl [0, 1, 2, 4] rfl)
    · have h := ig h q4
      refine lv_aload_n hx hb dX6_small_35 rfl (lv_at hl 1 rfl) ?_
      refine r_get C B fo_X6_10 (cX_0 G s0) rfl dX6_small_36 ?_
      refine r_get C B fo_X6_104 (cX_1 G s0) rfl dX6_small_39 ?_
      refine lv_iload_n hx hb dX6_small_42 rfl (lv_at hl 2 rfl) ?_
      obtain ⟨q5, h⟩ := gd_o h
      refine r_iald C B (cX_4 G s0) (inb_vp q5) dX6_small_43 ?_
      refine lv_iconst (v := (1 : Int32)) hx hb dX6_small_44 rfl ?_
      refine lv_iload hx hb dX6_small_45 (lv_at hl 3 rfl) ?_
      refine lv_ishl hx hb dX6_small_47 ?_
      refine lv_iconst (v := (-1 : Int32)) hx hb dX6_small_48 rfl ?_
      refine lv_ixor hx hb dX6_small_49 ?_
      refine lv_iand hx hb dX6_small_50 ?_
      obtain ⟨v5_6, q7, h⟩ := nm_o h
      refine r_nm q7 ?_
      refine lv_istore (lv' := [(5, .int v5_6), (1, .ref (gad G 9)), (0, .ref (gad G 0)), (3, .int v3), (4, .int v4), (2, .int v2)]) hx hb dX6_small_51 hl (by decide) rfl (fun ls hl => ?_)
      refine lv_aload_n hx hb dX6_small_53 rfl (lv_at hl 2 rfl) ?_
      refine r_get C B fo_X6_10 (cX_0 G s0) rfl dX6_small_54 ?_
      refine r_get C B fo_X6_104 (cX_1 G s0) rfl dX6_small_57 ?_
      refine lv_iload_n hx hb dX6_small_60 rfl (lv_at hl 3 rfl) ?_
      obtain ⟨q8, h⟩ := gd_o h
      refine r_iald C B (cX_4 G s0) (inb_vp q8) dX6_small_61 ?_
      refine lv_iload hx hb dX6_small_62 (lv_at hl 4 rfl) ?_
      obtain ⟨r9, q10, h⟩ := bd_o h
      refine r_callSi (rest := []) C B.2.2 hl (c_X6_has G (s0.2.1 2 (v3).toNatClampNeg) v4 r9 q10) cs_X6_145 rfl rfl (Nat.le_of_ble_eq_true rfl) ⟨rfl, rfl, Nat.le_of_ble_eq_true rfl, Nat.le_of_ble_eq_true rfl⟩ dX6_small_64 ?_
      refine lv_if_eq (tgt := 97) hx hb dX6_small_67 (by decide) (fun q11 => ?_) (fun q11 => ?_)
      · have h := ip h q11
        obtain ⟨v4_12, q13, h⟩ := nm_o h
        refine lv_iinc (v := v4_12) (lv' := [(4, .int v4_12), (5, .int v5_6), (1, .ref (gad G 9)), (0, .ref (gad G 0)), (3, .int v3), (2, .int v2)]) hx hb dX6_small_97 hl (k := 4) rfl q13.symm (by decide) rfl (fun ls hl => ?_)
        refine lv_goto (tgt := 23) hx hb dX6_small_100 (by decide) ?_
        exact ih v4_12 v2 s0 e1 h hk H locs ls B (lv_sub hl [2, 3, 4, 0, 5] rfl)
      · have h := ig h q11
        refine lv_aload_n hx hb dX6_small_70 rfl (lv_at hl 1 rfl) ?_
        refine lv_aload_n hx hb dX6_small_71 rfl (lv_at hl 2 rfl) ?_
        refine r_get C B fo_X6_10 (cX_0 G s0) rfl dX6_small_72 ?_
        refine lv_iload_n hx hb dX6_small_75 rfl (lv_at hl 3 rfl) ?_
        refine lv_iload hx hb dX6_small_76 (lv_at hl 0 rfl) ?_
        obtain ⟨r16, s15, q14, h⟩ := bd2_o h
        refine r_callVi (rest := []) C B hl (c_X2_stays G n s0 v3 v5_6 r16 s15 q14) cs_X6_205 (cX_9 G s0) rfl rfl rfl (Nat.le_of_ble_eq_true rfl) ⟨rfl, rfl, Nat.le_of_ble_eq_true rfl, Nat.le_of_ble_eq_true rfl⟩ dX6_small_78 (fun H locs B => ?_)
        refine lv_if_eq (tgt := 97) hx hb dX6_small_81 (by decide) (fun q17 => ?_) (fun q17 => ?_)
        · have h := ip h q17
          obtain ⟨v4_18, q19, h⟩ := nm_o h
          refine lv_iinc (v := v4_18) (lv' := [(4, .int v4_18), (5, .int v5_6), (1, .ref (gad G 9)), (0, .ref (gad G 0)), (3, .int v3), (2, .int v2)]) hx hb dX6_small_97 hl (k := 4) rfl q19.symm (by decide) rfl (fun ls hl => ?_)
          refine lv_goto (tgt := 23) hx hb dX6_small_100 (by decide) ?_
          exact ih v4_18 v2 s15 e1 h hk H locs ls B (lv_sub hl [2, 3, 4, 0, 5] rfl)
        · have h := ig h q17
          refine lv_aload_n hx hb dX6_small_84 rfl (lv_at hl 2 rfl) ?_
          refine r_get C B fo_X6_10 (cX_0 G s15) rfl dX6_small_85 ?_
          refine lv_iload_n hx hb dX6_small_88 rfl (lv_at hl 3 rfl) ?_
          refine lv_iload hx hb dX6_small_89 (lv_at hl 0 rfl) ?_
          obtain ⟨s21, q20, h⟩ := bd_o h
          refine r_callVv (rest := []) C B hl (c_X4_replace G s15 v3 v5_6 s21 q20) cs_X6_107 (cX_1 G s15) rfl rfl rfl (Nat.le_of_ble_eq_true rfl) ⟨rfl, rfl, Nat.le_of_ble_eq_true rfl, Nat.le_of_ble_eq_true rfl⟩ dX6_small_91 (fun H locs B => ?_)
          obtain ⟨v2_22, q23, h⟩ := nm_o h
          refine lv_iinc (v := v2_22) (lv' := [(2, .int v2_22), (5, .int v5_6), (1, .ref (gad G 9)), (0, .ref (gad G 0)), (3, .int v3), (4, .int v4)]) hx hb dX6_small_94 hl (k := 5) rfl q23.symm (by decide) rfl (fun ls hl => ?_)
          obtain ⟨v4_24, q25, h⟩ := nm_o h
          refine lv_iinc (v := v4_24) (lv' := [(4, .int v4_24), (2, .int v2_22), (5, .int v5_6), (1, .ref (gad G 9)), (0, .ref (gad G 0)), (3, .int v3)]) hx hb dX6_small_97 hl (k := 5) rfl q25.symm (by decide) rfl (fun ls hl => ?_)
          refine lv_goto (tgt := 23) hx hb dX6_small_100 (by decide) ?_
          exact ih v4_24 v2_22 s21 e1 h hk H locs ls B (lv_sub hl [3, 4, 5, 0, 1] rfl)
set_option maxRecDepth 100000 in
set_option maxHeartbeats 4000000 in
theorem l_X6_small_L1 {G : GT} {p : Program} {e : Env} {s : State} {m : MethodId} {args : Array Value} {below : List Frame} {meth : Method} {c : Code} {Q : State → Prop} (C : CT G p s m meth c args cX6_small 6 RX6) (hr : meth.sig.returnType = (some .int)) (n : Nat) : ∀ (k : Nat) (v3 : Int32) (v2 : Int32) (s0 : ST) (e1 : Int32 × ST), X6_small_L1 n k v3 v2 s0 = some e1 → Kn G p e rm_X6_small s m args below meth c Q 6 109 [(0, .ref (gad G 0)), (2, .int e1.1)] (wX G e1.2) → Kn G p e rm_X6_small s m args below meth c Q 6 9 [(1, .ref (gad G 9)), (0, .ref (gad G 0)), (3, .int v3), (2, .int v2)] (wX G s0) := by
  have hx := C.1
  have hb := C.2.1
  intro k
  induction k with
  | zero =>
    intro v3 v2 s0 e1 h
    exact nso h
  | succ k ih =>
    intro v3 v2 s0 e1 h hk H locs ls B hl
    have h : X6_small_L1_b n (X6_small_L1 n k) v3 v2 s0 = some e1 := h
    unfold X6_small_L1_b at h
    refine lv_iload_n hx hb dX6_small_9 rfl (lv_at hl 2 rfl) ?_
    refine lv_aload_n hx hb dX6_small_10 rfl (lv_at hl 1 rfl) ?_
    refine r_get C B fo_X6_10 (cX_0 G s0) rfl dX6_small_11 ?_
    refine r_get C B fo_X6_95 (cX_1 G s0) rfl dX6_small_14 ?_
    refine lv_icmp_ge (tgt := 109) hx hb dX6_small_17 (by decide) (fun q3 => ?_) (fun q3 => ?_)
    · have h := ip h q3
      obtain rfl := ret1 h
      exact hk H locs ls B (lv_sub hl [1, 3] rfl)
    · have h := ig h q3
      refine lv_iconst (v := (0 : Int32)) hx hb dX6_small_20 rfl ?_
      refine lv_istore (lv' := [(4, .int (0 : Int32)), (1, .ref (gad G 9)), (0, .ref (gad G 0)), (3, .int v3), (2, .int v2)]) hx hb dX6_small_21 hl (by decide) rfl (fun ls hl => ?_)
      obtain ⟨e26, q27, h⟩ := bd_o h
      refine l_X6_small_L2 C hr n v3 n (0 : Int32) v2 s0 e26 q27 ?_ H locs ls B (lv_sub hl [1, 2, 3, 0, 4] rfl)
      intro H locs ls B hl
      obtain ⟨v3_28, q29, h⟩ := nm_o h
      refine lv_iinc (v := v3_28) (lv' := [(3, .int v3_28), (1, .ref (gad G 9)), (0, .ref (gad G 0)), (2, .int e26.1)]) hx hb dX6_small_103 hl (k := 2) rfl q29.symm (by decide) rfl (fun ls hl => ?_)
      refine lv_goto (tgt := 9) hx hb dX6_small_106 (by decide) ?_
      exact ih v3_28 e26.1 e26.2 e1 h hk H locs ls B (lv_sub hl [1, 2, 0, 3] rfl)
set_option maxRecDepth 100000 in
set_option maxHeartbeats 4000000 in
theorem c_X6_small (G : GT) (n : Nat) (s0 : ST)  (r : Int32) (s' : ST) (h : X6_small n s0  = some (r, s')) : Con G yX6_small cX6_small 6 (some .int) rm_X6_small [.ref (gad G 0)] (wX G s0) (some (.int r)) (wX G s') := by
  unfold X6_small at h
  refine con_of (by decide +kernel) (Nat.le_of_ble_eq_true rfl) (fun {p e s m below meth c} C hr {H locs ls} B hl => ?_)
  have hx := C.1
  have hb := C.2.1
  have hl : lv_has ls 6 [(0, .ref (gad G 0))] := hl
  refine lv_aload_n hx hb dX6_small_0 rfl (lv_at hl 0 rfl) ?_
  obtain ⟨s2, q1, h⟩ := bd_o h
  refine r_callVa (rest := []) C B hl (c_X6_freshRanks G n s0 s2 q1) cs_X6_116 (cX_0 G s0) rfl rfl rfl (Nat.le_of_ble_eq_true rfl) ⟨rfl, rfl, Nat.le_of_ble_eq_true rfl, Nat.le_of_ble_eq_true rfl⟩ dX6_small_1 (fun H locs B => ?_)
  refine lv_astore_n (lv' := [(1, .ref (gad G 9)), (0, .ref (gad G 0))]) hx hb dX6_small_4 rfl hl (by decide) rfl (fun ls hl => ?_)
  refine lv_iconst (v := (0 : Int32)) hx hb dX6_small_5 rfl ?_
  refine lv_istore_n (lv' := [(2, .int (0 : Int32)), (1, .ref (gad G 9)), (0, .ref (gad G 0))]) hx hb dX6_small_6 rfl hl (by decide) rfl (fun ls hl => ?_)
  refine lv_iconst (v := (0 : Int32)) hx hb dX6_small_7 rfl ?_
  refine lv_istore_n (lv' := [(3, .int (0 : Int32)), (2, .int (0 : Int32)), (1, .ref (gad G 9)), (0, .ref (gad G 0))]) hx hb dX6_small_8 rfl hl (by decide) rfl (fun ls hl => ?_)
  obtain ⟨e30, q31, h⟩ := bd_o h
  refine l_X6_small_L1 C hr n n (0 : Int32) (0 : Int32) s2 e30 q31 ?_ H locs ls B (lv_sub hl [2, 3, 0, 1] rfl)
  intro H locs ls B hl
  refine lv_aload_n hx hb dX6_small_109 rfl (lv_at hl 0 rfl) ?_
  refine r_get C B fo_X6_10 (cX_0 G e30.2) rfl dX6_small_110 ?_
  obtain ⟨s33, q32, h⟩ := bd_o h
  refine r_callVv (rest := []) C B hl (c_X4_removeEmpty G n e30.2 s33 q32) cs_X6_209 (cX_1 G e30.2) rfl rfl rfl (Nat.le_of_ble_eq_true rfl) ⟨rfl, rfl, Nat.le_of_ble_eq_true rfl, Nat.le_of_ble_eq_true rfl⟩ dX6_small_113 (fun H locs B => ?_)
  refine lv_iload_n hx hb dX6_small_116 rfl (lv_at hl 1 rfl) ?_
  obtain ⟨rfl, rfl⟩ := ret2 h
  exact r_iret C B hr rfl dX6_small_117
def rm_X6_isRow : Room := { frames := 0, cells := 0, slots := 0, locals := 0 }
set_option maxRecDepth 100000 in
set_option maxHeartbeats 4000000 in
theorem c_X6_isRow (G : GT) (v0 : Int32) (r : Int32) (h : X6_isRow v0 = some r) : ConP G yX6_isRow cX6_isRow 1 (some .boolean) rm_X6_isRow [.int v0] (some (.int r)) := by
  unfold X6_isRow at h
  refine conP_of (by decide +kernel) (Nat.le_of_ble_eq_true rfl) (fun {p e s m below meth c} C hr {ls} hl => ?_)
  have hx := C.1
  have hb := C.2.1
  have hl : lv_has ls 1 [(0, .int v0)] := hl
  refine lv_iload_n hx hb dX6_isRow_0 rfl (lv_at hl 0 rfl) ?_
  refine lv_if_lt (tgt := 13) hx hb dX6_isRow_1 (by decide) (fun q1 => ?_) (fun q1 => ?_)
  · have h := ip h q1
    refine lv_iconst (v := (0 : Int32)) hx hb dX6_isRow_13 rfl ?_
    obtain rfl := ret1 h
    exact r_iretP C hr nar_0 dX6_isRow_14
  · have h := ig h q1
    refine lv_iload_n hx hb dX6_isRow_4 rfl (lv_at hl 0 rfl) ?_
    refine lv_iconst (v := (3 : Int32)) hx hb dX6_isRow_5 rfl ?_
    refine lv_icmp_ge (tgt := 13) hx hb dX6_isRow_6 (by decide) (fun q2 => ?_) (fun q2 => ?_)
    · have h := ip h q2
      refine lv_iconst (v := (0 : Int32)) hx hb dX6_isRow_13 rfl ?_
      obtain rfl := ret1 h
      exact r_iretP C hr nar_0 dX6_isRow_14
    · have h := ig h q2
      refine lv_iconst (v := (1 : Int32)) hx hb dX6_isRow_9 rfl ?_
      refine lv_goto (tgt := 14) hx hb dX6_isRow_10 (by decide) ?_
      obtain rfl := ret1 h
      exact r_iretP C hr nar_1 dX6_isRow_14
def rm_X6_row : Room := { frames := 1, cells := 0, slots := 0, locals := 20 }
set_option maxRecDepth 100000 in
set_option maxHeartbeats 4000000 in
theorem l_X6_row_L1 {G : GT} {p : Program} {e : Env} {s : State} {m : MethodId} {args : Array Value} {below : List Frame} {meth : Method} {c : Code} {Q : State → Prop} (C : CT G p s m meth c args cX6_row 4 RX6) (hr : meth.sig.returnType = (some .int)) (v1 : Int32) (v2 : Int32) : ∀ (k : Nat) (v3 : Int32) (s0 : ST) (e1 : ST), X6_row_L1 v1 v2 k v3 s0 = some e1 → Kn G p e rm_X6_row s m args below meth c Q 4 54 [] (wX G e1) → Kn G p e rm_X6_row s m args below meth c Q 4 34 [(0, .ref (gad G 0)), (1, .int v1), (2, .int v2), (3, .int v3)] (wX G s0) := by
  have hx := C.1
  have hb := C.2.1
  intro k
  induction k with
  | zero =>
    intro v3 s0 e1 h
    exact nso h
  | succ k ih =>
    intro v3 s0 e1 h hk H locs ls B hl
    have h : X6_row_L1_b v1 v2 (X6_row_L1 v1 v2 k) v3 s0 = some e1 := h
    unfold X6_row_L1_b at h
    refine lv_iload_n hx hb dX6_row_34 rfl (lv_at hl 3 rfl) ?_
    refine lv_iload_n hx hb dX6_row_35 rfl (lv_at hl 2 rfl) ?_
    refine lv_icmp_ge (tgt := 54) hx hb dX6_row_36 (by decide) (fun q9 => ?_) (fun q9 => ?_)
    · have h := ip h q9
      obtain rfl := ret1 h
      exact hk H locs ls B (lv_sub hl [] rfl)
    · have h := ig h q9
      refine lv_aload_n hx hb dX6_row_39 rfl (lv_at hl 0 rfl) ?_
      refine r_get C B fo_X6_39 (cX_0 G s0) rfl dX6_row_40 ?_
      refine lv_iload_n hx hb dX6_row_43 rfl (lv_at hl 1 rfl) ?_
      rcases row3_o h with ⟨q10, h⟩ | ⟨q10, h⟩ | ⟨q10, h⟩
      · refine r_aald (b := gad G 23) C B (cX_22 G s0) (rows_in (by rw [q10]; decide)) (by rw [q10]; rfl) dX6_row_44 ?_
        refine lv_iload_n hx hb dX6_row_45 rfl (lv_at hl 3 rfl) ?_
        refine lv_iconst (v := (0 : Int32)) hx hb dX6_row_46 rfl ?_
        obtain ⟨q11, h⟩ := gd_o h
        obtain ⟨s12, q13, h⟩ := nm_o h
        refine r_iast C B (cX_23 G s0) (inb_vp q11) ((uXa_11 G s0 _).trans (congrArg (wX G) q13.symm)) dX6_row_47 (fun H locs B => ?_)
        obtain ⟨v3_14, q15, h⟩ := nm_o h
        refine lv_iinc (v := v3_14) (lv' := [(3, .int v3_14), (0, .ref (gad G 0)), (1, .int v1), (2, .int v2)]) hx hb dX6_row_48 hl (k := 3) rfl q15.symm (by decide) rfl (fun ls hl => ?_)
        refine lv_goto (tgt := 34) hx hb dX6_row_51 (by decide) ?_
        exact ih v3_14 s12 e1 h hk H locs ls B (lv_sub hl [1, 2, 3, 0] rfl)
      · refine r_aald (b := gad G 24) C B (cX_22 G s0) (rows_in (by rw [q10]; decide)) (by rw [q10]; rfl) dX6_row_44 ?_
        refine lv_iload_n hx hb dX6_row_45 rfl (lv_at hl 3 rfl) ?_
        refine lv_iconst (v := (0 : Int32)) hx hb dX6_row_46 rfl ?_
        obtain ⟨q16, h⟩ := gd_o h
        obtain ⟨s17, q18, h⟩ := nm_o h
        refine r_iast C B (cX_24 G s0) (inb_vp q16) ((uXa_12 G s0 _).trans (congrArg (wX G) q18.symm)) dX6_row_47 (fun H locs B => ?_)
        obtain ⟨v3_19, q20, h⟩ := nm_o h
        refine lv_iinc (v := v3_19) (lv' := [(3, .int v3_19), (0, .ref (gad G 0)), (1, .int v1), (2, .int v2)]) hx hb dX6_row_48 hl (k := 3) rfl q20.symm (by decide) rfl (fun ls hl => ?_)
        refine lv_goto (tgt := 34) hx hb dX6_row_51 (by decide) ?_
        exact ih v3_19 s17 e1 h hk H locs ls B (lv_sub hl [1, 2, 3, 0] rfl)
      · refine r_aald (b := gad G 25) C B (cX_22 G s0) (rows_in (by rw [q10]; decide)) (by rw [q10]; rfl) dX6_row_44 ?_
        refine lv_iload_n hx hb dX6_row_45 rfl (lv_at hl 3 rfl) ?_
        refine lv_iconst (v := (0 : Int32)) hx hb dX6_row_46 rfl ?_
        obtain ⟨q21, h⟩ := gd_o h
        obtain ⟨s22, q23, h⟩ := nm_o h
        refine r_iast C B (cX_25 G s0) (inb_vp q21) ((uXa_13 G s0 _).trans (congrArg (wX G) q23.symm)) dX6_row_47 (fun H locs B => ?_)
        obtain ⟨v3_24, q25, h⟩ := nm_o h
        refine lv_iinc (v := v3_24) (lv' := [(3, .int v3_24), (0, .ref (gad G 0)), (1, .int v1), (2, .int v2)]) hx hb dX6_row_48 hl (k := 3) rfl q25.symm (by decide) rfl (fun ls hl => ?_)
        refine lv_goto (tgt := 34) hx hb dX6_row_51 (by decide) ?_
        exact ih v3_24 s22 e1 h hk H locs ls B (lv_sub hl [1, 2, 3, 0] rfl)
set_option maxRecDepth 100000 in
set_option maxHeartbeats 4000000 in
theorem c_X6_row (G : GT) (n : Nat) (s0 : ST) (v1 : Int32) (v2 : Int32) (r : Int32) (s' : ST) (h : X6_row n s0 v1 v2 = some (r, s')) : Con G yX6_row cX6_row 4 (some .int) rm_X6_row [.ref (gad G 0), .int v1, .int v2] (wX G s0) (some (.int r)) (wX G s') := by
  unfold X6_row at h
  refine con_of (by decide +kernel) (Nat.le_of_ble_eq_true rfl) (fun {p e s m below meth c} C hr {H locs ls} B hl => ?_)
  have hx := C.1
  have hb := C.2.1
  have hl : lv_has ls 4 [(0, .ref (gad G 0)), (1, .int v1), (2, .int v2)] := hl
  refine lv_iload_n hx hb dX6_row_0 rfl (lv_at hl 1 rfl) ?_
  obtain ⟨r1, q2, h⟩ := bd_o h
  refine r_callSi (rest := []) C B.2.2 hl (c_X6_isRow G v1 r1 q2) cs_X6_212 rfl rfl (Nat.le_of_ble_eq_true rfl) ⟨rfl, rfl, Nat.le_of_ble_eq_true rfl, Nat.le_of_ble_eq_true rfl⟩ dX6_row_1 ?_
  refine lv_if_ne (tgt := 9) hx hb dX6_row_4 (by decide) (fun q3 => ?_) (fun q3 => ?_)
  · have h := ig h q3
    refine lv_iload_n hx hb dX6_row_9 rfl (lv_at hl 2 rfl) ?_
    refine lv_bipush (v := (40 : Int32)) hx hb dX6_row_10 rfl ?_
    refine lv_icmp_le (tgt := 18) hx hb dX6_row_12 (by decide) (fun q4 => ?_) (fun q4 => ?_)
    · have h := ip h q4
      refine lv_iload_n hx hb dX6_row_18 rfl (lv_at hl 2 rfl) ?_
      refine lv_if_ge (tgt := 25) hx hb dX6_row_19 (by decide) (fun q5 => ?_) (fun q5 => ?_)
      · have h := ip h q5
        refine lv_aload_n hx hb dX6_row_25 rfl (lv_at hl 0 rfl) ?_
        refine r_get C B fo_X6_42 (cX_0 G s0) rfl dX6_row_26 ?_
        refine lv_iload_n hx hb dX6_row_29 rfl (lv_at hl 1 rfl) ?_
        refine lv_iload_n hx hb dX6_row_30 rfl (lv_at hl 2 rfl) ?_
        obtain ⟨q6, h⟩ := gd_o h
        obtain ⟨s7, q8, h⟩ := nm_o h
        refine r_iast C B (cX_26 G s0) (inb_vp q6) ((uXa_14 G s0 _).trans (congrArg (wX G) q8.symm)) dX6_row_31 (fun H locs B => ?_)
        refine lv_iconst (v := (0 : Int32)) hx hb dX6_row_32 rfl ?_
        refine lv_istore_n (lv' := [(3, .int (0 : Int32)), (0, .ref (gad G 0)), (1, .int v1), (2, .int v2)]) hx hb dX6_row_33 rfl hl (by decide) rfl (fun ls hl => ?_)
        obtain ⟨e26, q27, h⟩ := bd_o h
        refine l_X6_row_L1 C hr v1 v2 n (0 : Int32) s7 e26 q27 ?_ H locs ls B (lv_sub hl [1, 2, 3, 0] rfl)
        intro H locs ls B hl
        refine lv_iconst (v := (1 : Int32)) hx hb dX6_row_54 rfl ?_
        obtain ⟨rfl, rfl⟩ := ret2 h
        exact r_iret C B hr rfl dX6_row_55
      · have h := ig h q5
        refine lv_bipush (v := (-14 : Int32)) hx hb dX6_row_22 rfl ?_
        obtain ⟨rfl, rfl⟩ := ret2 h
        exact r_iret C B hr rfl dX6_row_24
    · have h := ig h q4
      refine lv_bipush (v := (-2 : Int32)) hx hb dX6_row_15 rfl ?_
      obtain ⟨rfl, rfl⟩ := ret2 h
      exact r_iret C B hr rfl dX6_row_17
  · have h := ip h q3
    refine lv_iconst (v := (-1 : Int32)) hx hb dX6_row_7 rfl ?_
    obtain ⟨rfl, rfl⟩ := ret2 h
    exact r_iret C B hr rfl dX6_row_8
def rm_X6_isThere : Room := { frames := 0, cells := 0, slots := 0, locals := 0 }
set_option maxRecDepth 100000 in
set_option maxHeartbeats 4000000 in
theorem c_X6_isThere (G : GT) (s0 : ST) (v1 : Int32) (r : Int32) (h : X6_isThere s0 v1 = some r) : Con G yX6_isThere cX6_isThere 2 (some .boolean) rm_X6_isThere [.ref (gad G 0), .int v1] (wX G s0) (some (.int r)) (wX G s0) := by
  unfold X6_isThere at h
  refine con_of (by decide +kernel) (Nat.le_of_ble_eq_true rfl) (fun {p e s m below meth c} C hr {H locs ls} B hl => ?_)
  have hx := C.1
  have hb := C.2.1
  have hl : lv_has ls 2 [(0, .ref (gad G 0)), (1, .int v1)] := hl
  refine lv_aload_n hx hb dX6_isThere_0 rfl (lv_at hl 0 rfl) ?_
  refine r_get C B fo_X6_42 (cX_0 G s0) rfl dX6_isThere_1 ?_
  refine lv_iload_n hx hb dX6_isThere_4 rfl (lv_at hl 1 rfl) ?_
  obtain ⟨q1, h⟩ := gd_o h
  refine r_iald C B (cX_26 G s0) (inb_vp q1) dX6_isThere_5 ?_
  refine lv_iconst (v := (-1 : Int32)) hx hb dX6_isThere_6 rfl ?_
  refine lv_icmp_eq (tgt := 14) hx hb dX6_isThere_7 (by decide) (fun q2 => ?_) (fun q2 => ?_)
  · have h := ip h q2
    refine lv_iconst (v := (0 : Int32)) hx hb dX6_isThere_14 rfl ?_
    obtain rfl := ret1 h
    exact r_iret C B hr nar_0 dX6_isThere_15
  · have h := ig h q2
    refine lv_iconst (v := (1 : Int32)) hx hb dX6_isThere_10 rfl ?_
    refine lv_goto (tgt := 15) hx hb dX6_isThere_11 (by decide) ?_
    obtain rfl := ret1 h
    exact r_iret C B hr nar_1 dX6_isThere_15
def rm_X6_lose : Room := { frames := 1, cells := 0, slots := 0, locals := 21 }
set_option maxRecDepth 100000 in
set_option maxHeartbeats 4000000 in
theorem c_X6_lose (G : GT) (s0 : ST) (v1 : Int32) (r : Int32) (s' : ST) (h : X6_lose s0 v1 = some (r, s')) : Con G yX6_lose cX6_lose 3 (some .int) rm_X6_lose [.ref (gad G 0), .int v1] (wX G s0) (some (.int r)) (wX G s') := by
  unfold X6_lose at h
  refine con_of (by decide +kernel) (Nat.le_of_ble_eq_true rfl) (fun {p e s m below meth c} C hr {H locs ls} B hl => ?_)
  have hx := C.1
  have hb := C.2.1
  have hl : lv_has ls 3 [(0, .ref (gad G 0)), (1, .int v1)] := hl
  refine lv_iload_n hx hb dX6_lose_0 rfl (lv_at hl 1 rfl) ?_
  obtain ⟨r1, q2, h⟩ := bd_o h
  refine r_callSi (rest := []) C B.2.2 hl (c_X6_isRow G v1 r1 q2) cs_X6_212 rfl rfl (Nat.le_of_ble_eq_true rfl) ⟨rfl, rfl, Nat.le_of_ble_eq_true rfl, Nat.le_of_ble_eq_true rfl⟩ dX6_lose_1 ?_
  refine lv_if_ne (tgt := 9) hx hb dX6_lose_4 (by decide) (fun q3 => ?_) (fun q3 => ?_)
  · have h := ig h q3
    refine lv_aload_n hx hb dX6_lose_9 rfl (lv_at hl 0 rfl) ?_
    refine lv_iload_n hx hb dX6_lose_10 rfl (lv_at hl 1 rfl) ?_
    obtain ⟨r5, q4, h⟩ := bd_o h
    refine r_callVi (rest := []) C B hl (c_X6_isThere G s0 v1 r5 q4) cs_X6_215 (cX_0 G s0) rfl rfl rfl (Nat.le_of_ble_eq_true rfl) ⟨rfl, rfl, Nat.le_of_ble_eq_true rfl, Nat.le_of_ble_eq_true rfl⟩ dX6_lose_11 (fun H locs B => ?_)
    refine lv_if_ne (tgt := 20) hx hb dX6_lose_14 (by decide) (fun q6 => ?_) (fun q6 => ?_)
    · have h := ig h q6
      refine lv_aload_n hx hb dX6_lose_20 rfl (lv_at hl 0 rfl) ?_
      refine r_get C B fo_X6_42 (cX_0 G s0) rfl dX6_lose_21 ?_
      refine lv_iload_n hx hb dX6_lose_24 rfl (lv_at hl 1 rfl) ?_
      obtain ⟨q7, h⟩ := gd_o h
      refine r_iald C B (cX_26 G s0) (inb_vp q7) dX6_lose_25 ?_
      obtain ⟨v2_8, q9, h⟩ := nm_o h
      refine r_nm q9 ?_
      refine lv_istore_n (lv' := [(2, .int v2_8), (0, .ref (gad G 0)), (1, .int v1)]) hx hb dX6_lose_26 rfl hl (by decide) rfl (fun ls hl => ?_)
      refine lv_aload_n hx hb dX6_lose_27 rfl (lv_at hl 1 rfl) ?_
      refine r_get C B fo_X6_42 (cX_0 G s0) rfl dX6_lose_28 ?_
      refine lv_iload_n hx hb dX6_lose_31 rfl (lv_at hl 2 rfl) ?_
      refine lv_iconst (v := (-1 : Int32)) hx hb dX6_lose_32 rfl ?_
      obtain ⟨q10, h⟩ := gd_o h
      obtain ⟨s11, q12, h⟩ := nm_o h
      refine r_iast C B (cX_26 G s0) (inb_vp q10) ((uXa_14 G s0 _).trans (congrArg (wX G) q12.symm)) dX6_lose_33 (fun H locs B => ?_)
      refine lv_iload_n hx hb dX6_lose_34 rfl (lv_at hl 0 rfl) ?_
      obtain ⟨rfl, rfl⟩ := ret2 h
      exact r_iret C B hr rfl dX6_lose_35
    · have h := ip h q6
      refine lv_bipush (v := (-11 : Int32)) hx hb dX6_lose_17 rfl ?_
      obtain ⟨rfl, rfl⟩ := ret2 h
      exact r_iret C B hr rfl dX6_lose_19
  · have h := ip h q3
    refine lv_iconst (v := (-1 : Int32)) hx hb dX6_lose_7 rfl ?_
    obtain ⟨rfl, rfl⟩ := ret2 h
    exact r_iret C B hr rfl dX6_lose_8
def rm_X6_put : Room := { frames := 1, cells := 0, slots := 0, locals := 21 }
set_option maxRecDepth 100000 in
set_option maxHeartbeats 4000000 in
theorem c_X6_put (G : GT) (s0 : ST) (v1 : Int32) (v2 : Int32) (v3 : Int32) (r : Int32) (s' : ST) (h : X6_put s0 v1 v2 v3 = some (r, s')) : Con G yX6_put cX6_put 4 (some .int) rm_X6_put [.ref (gad G 0), .int v1, .int v2, .int v3] (wX G s0) (some (.int r)) (wX G s') := by
  unfold X6_put at h
  refine con_of (by decide +kernel) (Nat.le_of_ble_eq_true rfl) (fun {p e s m below meth c} C hr {H locs ls} B hl => ?_)
  have hx := C.1
  have hb := C.2.1
  have hl : lv_has ls 4 [(0, .ref (gad G 0)), (1, .int v1), (2, .int v2), (3, .int v3)] := hl
  refine lv_iload_n hx hb dX6_put_0 rfl (lv_at hl 1 rfl) ?_
  obtain ⟨r1, q2, h⟩ := bd_o h
  refine r_callSi (rest := []) C B.2.2 hl (c_X6_isRow G v1 r1 q2) cs_X6_212 rfl rfl (Nat.le_of_ble_eq_true rfl) ⟨rfl, rfl, Nat.le_of_ble_eq_true rfl, Nat.le_of_ble_eq_true rfl⟩ dX6_put_1 ?_
  refine lv_if_ne (tgt := 9) hx hb dX6_put_4 (by decide) (fun q3 => ?_) (fun q3 => ?_)
  · have h := ig h q3
    refine lv_aload_n hx hb dX6_put_9 rfl (lv_at hl 0 rfl) ?_
    refine lv_iload_n hx hb dX6_put_10 rfl (lv_at hl 1 rfl) ?_
    obtain ⟨r5, q4, h⟩ := bd_o h
    refine r_callVi (rest := []) C B hl (c_X6_isThere G s0 v1 r5 q4) cs_X6_215 (cX_0 G s0) rfl rfl rfl (Nat.le_of_ble_eq_true rfl) ⟨rfl, rfl, Nat.le_of_ble_eq_true rfl, Nat.le_of_ble_eq_true rfl⟩ dX6_put_11 (fun H locs B => ?_)
    refine lv_if_ne (tgt := 20) hx hb dX6_put_14 (by decide) (fun q6 => ?_) (fun q6 => ?_)
    · have h := ig h q6
      refine lv_iload_n hx hb dX6_put_20 rfl (lv_at hl 2 rfl) ?_
      refine lv_if_lt (tgt := 34) hx hb dX6_put_21 (by decide) (fun q7 => ?_) (fun q7 => ?_)
      · have h := ip h q7
        refine lv_bipush (v := (-13 : Int32)) hx hb dX6_put_34 rfl ?_
        obtain ⟨rfl, rfl⟩ := ret2 h
        exact r_iret C B hr rfl dX6_put_36
      · have h := ig h q7
        refine lv_iload_n hx hb dX6_put_24 rfl (lv_at hl 2 rfl) ?_
        refine lv_aload_n hx hb dX6_put_25 rfl (lv_at hl 0 rfl) ?_
        refine r_get C B fo_X6_42 (cX_0 G s0) rfl dX6_put_26 ?_
        refine lv_iload_n hx hb dX6_put_29 rfl (lv_at hl 1 rfl) ?_
        obtain ⟨q8, h⟩ := gd_o h
        refine r_iald C B (cX_26 G s0) (inb_vp q8) dX6_put_30 ?_
        refine lv_icmp_lt (tgt := 37) hx hb dX6_put_31 (by decide) (fun q9 => ?_) (fun q9 => ?_)
        · have h := ip h q9
          refine lv_aload_n hx hb dX6_put_37 rfl (lv_at hl 0 rfl) ?_
          refine r_get C B fo_X6_39 (cX_0 G s0) rfl dX6_put_38 ?_
          refine lv_iload_n hx hb dX6_put_41 rfl (lv_at hl 1 rfl) ?_
          rcases row3_o h with ⟨q10, h⟩ | ⟨q10, h⟩ | ⟨q10, h⟩
          · refine r_aald (b := gad G 23) C B (cX_22 G s0) (rows_in (by rw [q10]; decide)) (by rw [q10]; rfl) dX6_put_42 ?_
            refine lv_iload_n hx hb dX6_put_43 rfl (lv_at hl 2 rfl) ?_
            refine lv_iload_n hx hb dX6_put_44 rfl (lv_at hl 3 rfl) ?_
            obtain ⟨q11, h⟩ := gd_o h
            obtain ⟨s12, q13, h⟩ := nm_o h
            refine r_iast C B (cX_23 G s0) (inb_vp q11) ((uXa_11 G s0 _).trans (congrArg (wX G) q13.symm)) dX6_put_45 (fun H locs B => ?_)
            refine lv_iconst (v := (1 : Int32)) hx hb dX6_put_46 rfl ?_
            obtain ⟨rfl, rfl⟩ := ret2 h
            exact r_iret C B hr rfl dX6_put_47
          · refine r_aald (b := gad G 24) C B (cX_22 G s0) (rows_in (by rw [q10]; decide)) (by rw [q10]; rfl) dX6_put_42 ?_
            refine lv_iload_n hx hb dX6_put_43 rfl (lv_at hl 2 rfl) ?_
            refine lv_iload_n hx hb dX6_put_44 rfl (lv_at hl 3 rfl) ?_
            obtain ⟨q14, h⟩ := gd_o h
            obtain ⟨s15, q16, h⟩ := nm_o h
            refine r_iast C B (cX_24 G s0) (inb_vp q14) ((uXa_12 G s0 _).trans (congrArg (wX G) q16.symm)) dX6_put_45 (fun H locs B => ?_)
            refine lv_iconst (v := (1 : Int32)) hx hb dX6_put_46 rfl ?_
            obtain ⟨rfl, rfl⟩ := ret2 h
            exact r_iret C B hr rfl dX6_put_47
          · refine r_aald (b := gad G 25) C B (cX_22 G s0) (rows_in (by rw [q10]; decide)) (by rw [q10]; rfl) dX6_put_42 ?_
            refine lv_iload_n hx hb dX6_put_43 rfl (lv_at hl 2 rfl) ?_
            refine lv_iload_n hx hb dX6_put_44 rfl (lv_at hl 3 rfl) ?_
            obtain ⟨q17, h⟩ := gd_o h
            obtain ⟨s18, q19, h⟩ := nm_o h
            refine r_iast C B (cX_25 G s0) (inb_vp q17) ((uXa_13 G s0 _).trans (congrArg (wX G) q19.symm)) dX6_put_45 (fun H locs B => ?_)
            refine lv_iconst (v := (1 : Int32)) hx hb dX6_put_46 rfl ?_
            obtain ⟨rfl, rfl⟩ := ret2 h
            exact r_iret C B hr rfl dX6_put_47
        · have h := ig h q9
          refine lv_bipush (v := (-13 : Int32)) hx hb dX6_put_34 rfl ?_
          obtain ⟨rfl, rfl⟩ := ret2 h
          exact r_iret C B hr rfl dX6_put_36
    · have h := ip h q6
      refine lv_bipush (v := (-11 : Int32)) hx hb dX6_put_17 rfl ?_
      obtain ⟨rfl, rfl⟩ := ret2 h
      exact r_iret C B hr rfl dX6_put_19
  · have h := ip h q3
    refine lv_iconst (v := (-1 : Int32)) hx hb dX6_put_7 rfl ?_
    obtain ⟨rfl, rfl⟩ := ret2 h
    exact r_iret C B hr rfl dX6_put_8
def rm_X6_get : Room := { frames := 1, cells := 0, slots := 0, locals := 20 }
set_option maxRecDepth 100000 in
set_option maxHeartbeats 4000000 in
theorem c_X6_get (G : GT) (s0 : ST) (v1 : Int32) (v2 : Int32) (r : Int64) (h : X6_get s0 v1 v2 = some r) : Con G yX6_get cX6_get 3 (some .long) rm_X6_get [.ref (gad G 0), .int v1, .int v2] (wX G s0) (some (.long r)) (wX G s0) := by
  unfold X6_get at h
  refine con_of (by decide +kernel) (Nat.le_of_ble_eq_true rfl) (fun {p e s m below meth c} C hr {H locs ls} B hl => ?_)
  have hx := C.1
  have hb := C.2.1
  have hl : lv_has ls 3 [(0, .ref (gad G 0)), (1, .int v1), (2, .int v2)] := hl
  refine lv_iload_n hx hb dX6_get_0 rfl (lv_at hl 1 rfl) ?_
  obtain ⟨r1, q2, h⟩ := bd_o h
  refine r_callSi (rest := []) C B.2.2 hl (c_X6_isRow G v1 r1 q2) cs_X6_212 rfl rfl (Nat.le_of_ble_eq_true rfl) ⟨rfl, rfl, Nat.le_of_ble_eq_true rfl, Nat.le_of_ble_eq_true rfl⟩ dX6_get_1 ?_
  refine lv_if_eq (tgt := 21) hx hb dX6_get_4 (by decide) (fun q3 => ?_) (fun q3 => ?_)
  · have h := ip h q3
    refine lv_ldc2 (v := (-9223372036854775808 : Int64)) hx hb C.2.2.2.1 (C.2.2.2.2.1 _ wm_644) dX6_get_21 ?_
    obtain rfl := ret1 h
    exact r_lret C B hr dX6_get_24
  · have h := ig h q3
    refine lv_iload_n hx hb dX6_get_7 rfl (lv_at hl 2 rfl) ?_
    refine lv_if_lt (tgt := 21) hx hb dX6_get_8 (by decide) (fun q4 => ?_) (fun q4 => ?_)
    · have h := ip h q4
      refine lv_ldc2 (v := (-9223372036854775808 : Int64)) hx hb C.2.2.2.1 (C.2.2.2.2.1 _ wm_644) dX6_get_21 ?_
      obtain rfl := ret1 h
      exact r_lret C B hr dX6_get_24
    · have h := ig h q4
      refine lv_iload_n hx hb dX6_get_11 rfl (lv_at hl 2 rfl) ?_
      refine lv_aload_n hx hb dX6_get_12 rfl (lv_at hl 0 rfl) ?_
      refine r_get C B fo_X6_42 (cX_0 G s0) rfl dX6_get_13 ?_
      refine lv_iload_n hx hb dX6_get_16 rfl (lv_at hl 1 rfl) ?_
      obtain ⟨q5, h⟩ := gd_o h
      refine r_iald C B (cX_26 G s0) (inb_vp q5) dX6_get_17 ?_
      refine lv_icmp_lt (tgt := 25) hx hb dX6_get_18 (by decide) (fun q6 => ?_) (fun q6 => ?_)
      · have h := ip h q6
        refine lv_aload_n hx hb dX6_get_25 rfl (lv_at hl 0 rfl) ?_
        refine r_get C B fo_X6_39 (cX_0 G s0) rfl dX6_get_26 ?_
        refine lv_iload_n hx hb dX6_get_29 rfl (lv_at hl 1 rfl) ?_
        rcases row3_o h with ⟨q7, h⟩ | ⟨q7, h⟩ | ⟨q7, h⟩
        · refine r_aald (b := gad G 23) C B (cX_22 G s0) (rows_in (by rw [q7]; decide)) (by rw [q7]; rfl) dX6_get_30 ?_
          refine lv_iload_n hx hb dX6_get_31 rfl (lv_at hl 2 rfl) ?_
          obtain ⟨q8, h⟩ := gd_o h
          refine r_iald C B (cX_23 G s0) (inb_vp q8) dX6_get_32 ?_
          refine lv_i2l hx hb dX6_get_33 rfl ?_
          obtain rfl := ret1 h
          exact r_lret C B hr dX6_get_34
        · refine r_aald (b := gad G 24) C B (cX_22 G s0) (rows_in (by rw [q7]; decide)) (by rw [q7]; rfl) dX6_get_30 ?_
          refine lv_iload_n hx hb dX6_get_31 rfl (lv_at hl 2 rfl) ?_
          obtain ⟨q9, h⟩ := gd_o h
          refine r_iald C B (cX_24 G s0) (inb_vp q9) dX6_get_32 ?_
          refine lv_i2l hx hb dX6_get_33 rfl ?_
          obtain rfl := ret1 h
          exact r_lret C B hr dX6_get_34
        · refine r_aald (b := gad G 25) C B (cX_22 G s0) (rows_in (by rw [q7]; decide)) (by rw [q7]; rfl) dX6_get_30 ?_
          refine lv_iload_n hx hb dX6_get_31 rfl (lv_at hl 2 rfl) ?_
          obtain ⟨q10, h⟩ := gd_o h
          refine r_iald C B (cX_25 G s0) (inb_vp q10) dX6_get_32 ?_
          refine lv_i2l hx hb dX6_get_33 rfl ?_
          obtain rfl := ret1 h
          exact r_lret C B hr dX6_get_34
      · have h := ig h q6
        refine lv_ldc2 (v := (-9223372036854775808 : Int64)) hx hb C.2.2.2.1 (C.2.2.2.2.1 _ wm_644) dX6_get_21 ?_
        obtain rfl := ret1 h
        exact r_lret C B hr dX6_get_24
def rm_X6_copy : Room := { frames := 1, cells := 0, slots := 0, locals := 64 }
set_option maxRecDepth 100000 in
set_option maxHeartbeats 4000000 in
theorem c_X6_copy (G : GT) (s0 : ST) (v1 : Int32) (v2 : Int32) (v3 : Int32) (v4 : Int32) (v5 : Int32) (r : Int32) (s' : ST) (h : X6_copy s0 v1 v2 v3 v4 v5 = some (r, s')) : Con G yX6_copy cX6_copy 6 (some .int) rm_X6_copy [.ref (gad G 0), .int v1, .int v2, .int v3, .int v4, .int v5] (wX G s0) (some (.int r)) (wX G s') := by
  unfold X6_copy at h
  refine con_of (by decide +kernel) (Nat.le_of_ble_eq_true rfl) (fun {p e s m below meth c} C hr {H locs ls} B hl => ?_)
  have hx := C.1
  have hb := C.2.1
  have hl : lv_has ls 6 [(0, .ref (gad G 0)), (1, .int v1), (2, .int v2), (3, .int v3), (4, .int v4), (5, .int v5)] := hl
  refine lv_iload_n hx hb dX6_copy_0 rfl (lv_at hl 1 rfl) ?_
  obtain ⟨r1, q2, h⟩ := bd_o h
  refine r_callSi (rest := []) C B.2.2 hl (c_X6_isRow G v1 r1 q2) cs_X6_212 rfl rfl (Nat.le_of_ble_eq_true rfl) ⟨rfl, rfl, Nat.le_of_ble_eq_true rfl, Nat.le_of_ble_eq_true rfl⟩ dX6_copy_1 ?_
  refine lv_if_eq (tgt := 14) hx hb dX6_copy_4 (by decide) (fun q3 => ?_) (fun q3 => ?_)
  · have h := ip h q3
    refine lv_iconst (v := (-1 : Int32)) hx hb dX6_copy_14 rfl ?_
    obtain ⟨rfl, rfl⟩ := ret2 h
    exact r_iret C B hr rfl dX6_copy_15
  · have h := ig h q3
    refine lv_iload_n hx hb dX6_copy_7 rfl (lv_at hl 3 rfl) ?_
    obtain ⟨r4, q5, h⟩ := bd_o h
    refine r_callSi (rest := []) C B.2.2 hl (c_X6_isRow G v3 r4 q5) cs_X6_212 rfl rfl (Nat.le_of_ble_eq_true rfl) ⟨rfl, rfl, Nat.le_of_ble_eq_true rfl, Nat.le_of_ble_eq_true rfl⟩ dX6_copy_8 ?_
    refine lv_if_ne (tgt := 16) hx hb dX6_copy_11 (by decide) (fun q6 => ?_) (fun q6 => ?_)
    · have h := ig h q6
      refine lv_aload_n hx hb dX6_copy_16 rfl (lv_at hl 0 rfl) ?_
      refine lv_iload_n hx hb dX6_copy_17 rfl (lv_at hl 1 rfl) ?_
      obtain ⟨r8, q7, h⟩ := bd_o h
      refine r_callVi (rest := []) C B hl (c_X6_isThere G s0 v1 r8 q7) cs_X6_215 (cX_0 G s0) rfl rfl rfl (Nat.le_of_ble_eq_true rfl) ⟨rfl, rfl, Nat.le_of_ble_eq_true rfl, Nat.le_of_ble_eq_true rfl⟩ dX6_copy_18 (fun H locs B => ?_)
      refine lv_if_eq (tgt := 32) hx hb dX6_copy_21 (by decide) (fun q9 => ?_) (fun q9 => ?_)
      · have h := ip h q9
        refine lv_bipush (v := (-11 : Int32)) hx hb dX6_copy_32 rfl ?_
        obtain ⟨rfl, rfl⟩ := ret2 h
        exact r_iret C B hr rfl dX6_copy_34
      · have h := ig h q9
        refine lv_aload_n hx hb dX6_copy_24 rfl (lv_at hl 0 rfl) ?_
        refine lv_iload_n hx hb dX6_copy_25 rfl (lv_at hl 3 rfl) ?_
        obtain ⟨r11, q10, h⟩ := bd_o h
        refine r_callVi (rest := []) C B hl (c_X6_isThere G s0 v3 r11 q10) cs_X6_215 (cX_0 G s0) rfl rfl rfl (Nat.le_of_ble_eq_true rfl) ⟨rfl, rfl, Nat.le_of_ble_eq_true rfl, Nat.le_of_ble_eq_true rfl⟩ dX6_copy_26 (fun H locs B => ?_)
        refine lv_if_ne (tgt := 35) hx hb dX6_copy_29 (by decide) (fun q12 => ?_) (fun q12 => ?_)
        · have h := ig h q12
          refine lv_iload hx hb dX6_copy_35 (lv_at hl 5 rfl) ?_
          refine lv_if_lt (tgt := 49) hx hb dX6_copy_37 (by decide) (fun q13 => ?_) (fun q13 => ?_)
          · have h := ip h q13
            refine lv_bipush (v := (-13 : Int32)) hx hb dX6_copy_49 rfl ?_
            obtain ⟨rfl, rfl⟩ := ret2 h
            exact r_iret C B hr rfl dX6_copy_51
          · have h := ig h q13
            refine lv_iload_n hx hb dX6_copy_40 rfl (lv_at hl 2 rfl) ?_
            refine lv_if_lt (tgt := 49) hx hb dX6_copy_41 (by decide) (fun q14 => ?_) (fun q14 => ?_)
            · have h := ip h q14
              refine lv_bipush (v := (-13 : Int32)) hx hb dX6_copy_49 rfl ?_
              obtain ⟨rfl, rfl⟩ := ret2 h
              exact r_iret C B hr rfl dX6_copy_51
            · have h := ig h q14
              refine lv_iload hx hb dX6_copy_44 (lv_at hl 4 rfl) ?_
              refine lv_if_ge (tgt := 52) hx hb dX6_copy_46 (by decide) (fun q15 => ?_) (fun q15 => ?_)
              · have h := ip h q15
                refine lv_iload hx hb dX6_copy_52 (lv_at hl 5 rfl) ?_
                refine lv_aload_n hx hb dX6_copy_54 rfl (lv_at hl 0 rfl) ?_
                refine r_get C B fo_X6_42 (cX_0 G s0) rfl dX6_copy_55 ?_
                refine lv_iload_n hx hb dX6_copy_58 rfl (lv_at hl 1 rfl) ?_
                obtain ⟨q16, h⟩ := gd_o h
                refine r_iald C B (cX_26 G s0) (inb_vp q16) dX6_copy_59 ?_
                refine lv_iload_n hx hb dX6_copy_60 rfl (lv_at hl 2 rfl) ?_
                refine lv_isub hx hb dX6_copy_61 ?_
                refine lv_icmp_gt (tgt := 79) hx hb dX6_copy_62 (by decide) (fun q17 => ?_) (fun q17 => ?_)
                · have h := ip h q17
                  refine lv_bipush (v := (-13 : Int32)) hx hb dX6_copy_79 rfl ?_
                  obtain ⟨rfl, rfl⟩ := ret2 h
                  exact r_iret C B hr rfl dX6_copy_81
                · have h := ig h q17
                  refine lv_iload hx hb dX6_copy_65 (lv_at hl 5 rfl) ?_
                  refine lv_aload_n hx hb dX6_copy_67 rfl (lv_at hl 0 rfl) ?_
                  refine r_get C B fo_X6_42 (cX_0 G s0) rfl dX6_copy_68 ?_
                  refine lv_iload_n hx hb dX6_copy_71 rfl (lv_at hl 3 rfl) ?_
                  obtain ⟨q18, h⟩ := gd_o h
                  refine r_iald C B (cX_26 G s0) (inb_vp q18) dX6_copy_72 ?_
                  refine lv_iload hx hb dX6_copy_73 (lv_at hl 4 rfl) ?_
                  refine lv_isub hx hb dX6_copy_75 ?_
                  refine lv_icmp_le (tgt := 82) hx hb dX6_copy_76 (by decide) (fun q19 => ?_) (fun q19 => ?_)
                  · have h := ip h q19
                    refine lv_aload_n hx hb dX6_copy_82 rfl (lv_at hl 0 rfl) ?_
                    refine r_get C B fo_X6_39 (cX_0 G s0) rfl dX6_copy_83 ?_
                    refine lv_iload_n hx hb dX6_copy_86 rfl (lv_at hl 1 rfl) ?_
                    rcases row3_o h with ⟨q20, h⟩ | ⟨q20, h⟩ | ⟨q20, h⟩
                    · refine r_aald (b := gad G 23) C B (cX_22 G s0) (rows_in (by rw [q20]; decide)) (by rw [q20]; rfl) dX6_copy_87 ?_
                      refine lv_iload_n hx hb dX6_copy_88 rfl (lv_at hl 2 rfl) ?_
                      refine lv_aload_n hx hb dX6_copy_89 rfl (lv_at hl 0 rfl) ?_
                      refine r_get C B fo_X6_39 (cX_0 G s0) rfl dX6_copy_90 ?_
                      refine lv_iload_n hx hb dX6_copy_93 rfl (lv_at hl 3 rfl) ?_
                      rcases row3_o h with ⟨q21, h⟩ | ⟨q21, h⟩ | ⟨q21, h⟩
                      · refine r_aald (b := gad G 23) C B (cX_22 G s0) (rows_in (by rw [q21]; decide)) (by rw [q21]; rfl) dX6_copy_94 ?_
                        refine lv_iload hx hb dX6_copy_95 (lv_at hl 4 rfl) ?_
                        refine lv_iload hx hb dX6_copy_97 (lv_at hl 5 rfl) ?_
                        obtain ⟨q22, h⟩ := gd_o h
                        obtain ⟨s23, q24, h⟩ := nm_o h
                        refine r_acp C B hl wm_649 wm_651 wm_650 wm_71 (cX_23 G s0) (cX_23 G s0) q22 ((uXa_11 G s0 _).trans (congrArg (wX G) q24.symm)) (Nat.le_of_ble_eq_true rfl) (by decide +kernel) dX6_copy_99 (fun H locs B => ?_)
                        refine lv_iload hx hb dX6_copy_102 (lv_at hl 5 rfl) ?_
                        obtain ⟨rfl, rfl⟩ := ret2 h
                        exact r_iret C B hr rfl dX6_copy_104
                      · refine r_aald (b := gad G 24) C B (cX_22 G s0) (rows_in (by rw [q21]; decide)) (by rw [q21]; rfl) dX6_copy_94 ?_
                        refine lv_iload hx hb dX6_copy_95 (lv_at hl 4 rfl) ?_
                        refine lv_iload hx hb dX6_copy_97 (lv_at hl 5 rfl) ?_
                        obtain ⟨q25, h⟩ := gd_o h
                        obtain ⟨s26, q27, h⟩ := nm_o h
                        refine r_acp C B hl wm_649 wm_651 wm_650 wm_71 (cX_23 G s0) (cX_24 G s0) q25 ((uXa_12 G s0 _).trans (congrArg (wX G) q27.symm)) (Nat.le_of_ble_eq_true rfl) (by decide +kernel) dX6_copy_99 (fun H locs B => ?_)
                        refine lv_iload hx hb dX6_copy_102 (lv_at hl 5 rfl) ?_
                        obtain ⟨rfl, rfl⟩ := ret2 h
                        exact r_iret C B hr rfl dX6_copy_104
                      · refine r_aald (b := gad G 25) C B (cX_22 G s0) (rows_in (by rw [q21]; decide)) (by rw [q21]; rfl) dX6_copy_94 ?_
                        refine lv_iload hx hb dX6_copy_95 (lv_at hl 4 rfl) ?_
                        refine lv_iload hx hb dX6_copy_97 (lv_at hl 5 rfl) ?_
                        obtain ⟨q28, h⟩ := gd_o h
                        obtain ⟨s29, q30, h⟩ := nm_o h
                        refine r_acp C B hl wm_649 wm_651 wm_650 wm_71 (cX_23 G s0) (cX_25 G s0) q28 ((uXa_13 G s0 _).trans (congrArg (wX G) q30.symm)) (Nat.le_of_ble_eq_true rfl) (by decide +kernel) dX6_copy_99 (fun H locs B => ?_)
                        refine lv_iload hx hb dX6_copy_102 (lv_at hl 5 rfl) ?_
                        obtain ⟨rfl, rfl⟩ := ret2 h
                        exact r_iret C B hr rfl dX6_copy_104
                    · refine r_aald (b := gad G 24) C B (cX_22 G s0) (rows_in (by rw [q20]; decide)) (by rw [q20]; rfl) dX6_copy_87 ?_
                      refine lv_iload_n hx hb dX6_copy_88 rfl (lv_at hl 2 rfl) ?_
                      refine lv_aload_n hx hb dX6_copy_89 rfl (lv_at hl 0 rfl) ?_
                      refine r_get C B fo_X6_39 (cX_0 G s0) rfl dX6_copy_90 ?_
                      refine lv_iload_n hx hb dX6_copy_93 rfl (lv_at hl 3 rfl) ?_
                      rcases row3_o h with ⟨q31, h⟩ | ⟨q31, h⟩ | ⟨q31, h⟩
                      · refine r_aald (b := gad G 23) C B (cX_22 G s0) (rows_in (by rw [q31]; decide)) (by rw [q31]; rfl) dX6_copy_94 ?_
                        refine lv_iload hx hb dX6_copy_95 (lv_at hl 4 rfl) ?_
                        refine lv_iload hx hb dX6_copy_97 (lv_at hl 5 rfl) ?_
                        obtain ⟨q32, h⟩ := gd_o h
                        obtain ⟨s33, q34, h⟩ := nm_o h
                        refine r_acp C B hl wm_649 wm_651 wm_650 wm_71 (cX_24 G s0) (cX_23 G s0) q32 ((uXa_11 G s0 _).trans (congrArg (wX G) q34.symm)) (Nat.le_of_ble_eq_true rfl) (by decide +kernel) dX6_copy_99 (fun H locs B => ?_)
                        refine lv_iload hx hb dX6_copy_102 (lv_at hl 5 rfl) ?_
                        obtain ⟨rfl, rfl⟩ := ret2 h
                        exact r_iret C B hr rfl dX6_copy_104
                      · refine r_aald (b := gad G 24) C B (cX_22 G s0) (rows_in (by rw [q31]; decide)) (by rw [q31]; rfl) dX6_copy_94 ?_
                        refine lv_iload hx hb dX6_copy_95 (lv_at hl 4 rfl) ?_
                        refine lv_iload hx hb dX6_copy_97 (lv_at hl 5 rfl) ?_
                        obtain ⟨q35, h⟩ := gd_o h
                        obtain ⟨s36, q37, h⟩ := nm_o h
                        refine r_acp C B hl wm_649 wm_651 wm_650 wm_71 (cX_24 G s0) (cX_24 G s0) q35 ((uXa_12 G s0 _).trans (congrArg (wX G) q37.symm)) (Nat.le_of_ble_eq_true rfl) (by decide +kernel) dX6_copy_99 (fun H locs B => ?_)
                        refine lv_iload hx hb dX6_copy_102 (lv_at hl 5 rfl) ?_
                        obtain ⟨rfl, rfl⟩ := ret2 h
                        exact r_iret C B hr rfl dX6_copy_104
                      · refine r_aald (b := gad G 25) C B (cX_22 G s0) (rows_in (by rw [q31]; decide)) (by rw [q31]; rfl) dX6_copy_94 ?_
                        refine lv_iload hx hb dX6_copy_95 (lv_at hl 4 rfl) ?_
                        refine lv_iload hx hb dX6_copy_97 (lv_at hl 5 rfl) ?_
                        obtain ⟨q38, h⟩ := gd_o h
                        obtain ⟨s39, q40, h⟩ := nm_o h
                        refine r_acp C B hl wm_649 wm_651 wm_650 wm_71 (cX_24 G s0) (cX_25 G s0) q38 ((uXa_13 G s0 _).trans (congrArg (wX G) q40.symm)) (Nat.le_of_ble_eq_true rfl) (by decide +kernel) dX6_copy_99 (fun H locs B => ?_)
                        refine lv_iload hx hb dX6_copy_102 (lv_at hl 5 rfl) ?_
                        obtain ⟨rfl, rfl⟩ := ret2 h
                        exact r_iret C B hr rfl dX6_copy_104
                    · refine r_aald (b := gad G 25) C B (cX_22 G s0) (rows_in (by rw [q20]; decide)) (by rw [q20]; rfl) dX6_copy_87 ?_
                      refine lv_iload_n hx hb dX6_copy_88 rfl (lv_at hl 2 rfl) ?_
                      refine lv_aload_n hx hb dX6_copy_89 rfl (lv_at hl 0 rfl) ?_
                      refine r_get C B fo_X6_39 (cX_0 G s0) rfl dX6_copy_90 ?_
                      refine lv_iload_n hx hb dX6_copy_93 rfl (lv_at hl 3 rfl) ?_
                      rcases row3_o h with ⟨q41, h⟩ | ⟨q41, h⟩ | ⟨q41, h⟩
                      · refine r_aald (b := gad G 23) C B (cX_22 G s0) (rows_in (by rw [q41]; decide)) (by rw [q41]; rfl) dX6_copy_94 ?_
                        refine lv_iload hx hb dX6_copy_95 (lv_at hl 4 rfl) ?_
                        refine lv_iload hx hb dX6_copy_97 (lv_at hl 5 rfl) ?_
                        obtain ⟨q42, h⟩ := gd_o h
                        obtain ⟨s43, q44, h⟩ := nm_o h
                        refine r_acp C B hl wm_649 wm_651 wm_650 wm_71 (cX_25 G s0) (cX_23 G s0) q42 ((uXa_11 G s0 _).trans (congrArg (wX G) q44.symm)) (Nat.le_of_ble_eq_true rfl) (by decide +kernel) dX6_copy_99 (fun H locs B => ?_)
                        refine lv_iload hx hb dX6_copy_102 (lv_at hl 5 rfl) ?_
                        obtain ⟨rfl, rfl⟩ := ret2 h
                        exact r_iret C B hr rfl dX6_copy_104
                      · refine r_aald (b := gad G 24) C B (cX_22 G s0) (rows_in (by rw [q41]; decide)) (by rw [q41]; rfl) dX6_copy_94 ?_
                        refine lv_iload hx hb dX6_copy_95 (lv_at hl 4 rfl) ?_
                        refine lv_iload hx hb dX6_copy_97 (lv_at hl 5 rfl) ?_
                        obtain ⟨q45, h⟩ := gd_o h
                        obtain ⟨s46, q47, h⟩ := nm_o h
                        refine r_acp C B hl wm_649 wm_651 wm_650 wm_71 (cX_25 G s0) (cX_24 G s0) q45 ((uXa_12 G s0 _).trans (congrArg (wX G) q47.symm)) (Nat.le_of_ble_eq_true rfl) (by decide +kernel) dX6_copy_99 (fun H locs B => ?_)
                        refine lv_iload hx hb dX6_copy_102 (lv_at hl 5 rfl) ?_
                        obtain ⟨rfl, rfl⟩ := ret2 h
                        exact r_iret C B hr rfl dX6_copy_104
                      · refine r_aald (b := gad G 25) C B (cX_22 G s0) (rows_in (by rw [q41]; decide)) (by rw [q41]; rfl) dX6_copy_94 ?_
                        refine lv_iload hx hb dX6_copy_95 (lv_at hl 4 rfl) ?_
                        refine lv_iload hx hb dX6_copy_97 (lv_at hl 5 rfl) ?_
                        obtain ⟨q48, h⟩ := gd_o h
                        obtain ⟨s49, q50, h⟩ := nm_o h
                        refine r_acp C B hl wm_649 wm_651 wm_650 wm_71 (cX_25 G s0) (cX_25 G s0) q48 ((uXa_13 G s0 _).trans (congrArg (wX G) q50.symm)) (Nat.le_of_ble_eq_true rfl) (by decide +kernel) dX6_copy_99 (fun H locs B => ?_)
                        refine lv_iload hx hb dX6_copy_102 (lv_at hl 5 rfl) ?_
                        obtain ⟨rfl, rfl⟩ := ret2 h
                        exact r_iret C B hr rfl dX6_copy_104
                  · have h := ig h q19
                    refine lv_bipush (v := (-13 : Int32)) hx hb dX6_copy_79 rfl ?_
                    obtain ⟨rfl, rfl⟩ := ret2 h
                    exact r_iret C B hr rfl dX6_copy_81
              · have h := ig h q15
                refine lv_bipush (v := (-13 : Int32)) hx hb dX6_copy_49 rfl ?_
                obtain ⟨rfl, rfl⟩ := ret2 h
                exact r_iret C B hr rfl dX6_copy_51
        · have h := ip h q12
          refine lv_bipush (v := (-11 : Int32)) hx hb dX6_copy_32 rfl ?_
          obtain ⟨rfl, rfl⟩ := ret2 h
          exact r_iret C B hr rfl dX6_copy_34
    · have h := ip h q6
      refine lv_iconst (v := (-1 : Int32)) hx hb dX6_copy_14 rfl ?_
      obtain ⟨rfl, rfl⟩ := ret2 h
      exact r_iret C B hr rfl dX6_copy_15
def rm_X6_film : Room := { frames := 5, cells := 0, slots := 0, locals := 110 }
set_option maxRecDepth 100000 in
set_option maxHeartbeats 4000000 in
theorem l_X6_film_L1 {G : GT} {p : Program} {e : Env} {s : State} {m : MethodId} {args : Array Value} {below : List Frame} {meth : Method} {c : Code} {Q : State → Prop} (C : CT G p s m meth c args cX6_film 8 RX6) (hr : meth.sig.returnType = (some .int)) (v6 : Int32) (v1 : Int32) (v2 : Int32) (v3 : Int32) : ∀ (k : Nat) (v7 : Int32) (s0 : ST) (e1 : ST), X6_film_L1 v6 v1 v2 v3 k v7 s0 = some e1 → Kn G p e rm_X6_film s m args below meth c Q 8 101 [(0, .ref (gad G 0)), (6, .int v6), (1, .int v1)] (wX G e1) → Kn G p e rm_X6_film s m args below meth c Q 8 69 [(5, .ref (gad G 9)), (0, .ref (gad G 0)), (6, .int v6), (1, .int v1), (2, .int v2), (3, .int v3), (7, .int v7)] (wX G s0) := by
  have hx := C.1
  have hb := C.2.1
  intro k
  induction k with
  | zero =>
    intro v7 s0 e1 h
    exact nso h
  | succ k ih =>
    intro v7 s0 e1 h hk H locs ls B hl
    have h : X6_film_L1_b v6 v1 v2 v3 (X6_film_L1 v6 v1 v2 v3 k) v7 s0 = some e1 := h
    unfold X6_film_L1_b at h
    refine lv_iload hx hb dX6_film_69 (lv_at hl 6 rfl) ?_
    refine lv_iload hx hb dX6_film_71 (lv_at hl 2 rfl) ?_
    refine lv_icmp_ge (tgt := 101) hx hb dX6_film_73 (by decide) (fun q18 => ?_) (fun q18 => ?_)
    · have h := ip h q18
      obtain rfl := ret1 h
      exact hk H locs ls B (lv_sub hl [1, 2, 3] rfl)
    · have h := ig h q18
      refine lv_aload_n hx hb dX6_film_76 rfl (lv_at hl 1 rfl) ?_
      refine r_get C B fo_X6_39 (cX_0 G s0) rfl dX6_film_77 ?_
      refine lv_iload_n hx hb dX6_film_80 rfl (lv_at hl 3 rfl) ?_
      rcases row3_o h with ⟨q19, h⟩ | ⟨q19, h⟩ | ⟨q19, h⟩
      · refine r_aald (b := gad G 23) C B (cX_22 G s0) (rows_in (by rw [q19]; decide)) (by rw [q19]; rfl) dX6_film_81 ?_
        refine lv_iload hx hb dX6_film_82 (lv_at hl 6 rfl) ?_
        refine lv_aload hx hb dX6_film_84 (lv_at hl 0 rfl) ?_
        refine lv_iload_n hx hb dX6_film_86 rfl (lv_at hl 4 rfl) ?_
        refine lv_iload_n hx hb dX6_film_87 rfl (lv_at hl 5 rfl) ?_
        refine lv_iload hx hb dX6_film_88 (lv_at hl 6 rfl) ?_
        refine lv_iadd hx hb dX6_film_90 ?_
        obtain ⟨r21, q20, h⟩ := bd_o h
        refine r_callVi (rest := [.int v7, .ref (gad G 23)]) C B hl (c_X2_of G s0 v2 (v3 + v7) r21 q20) cs_X6_120 (cX_9 G s0) rfl rfl rfl (Nat.le_of_ble_eq_true rfl) ⟨rfl, rfl, Nat.le_of_ble_eq_true rfl, Nat.le_of_ble_eq_true rfl⟩ dX6_film_91 (fun H locs B => ?_)
        obtain ⟨q22, h⟩ := gd_o h
        obtain ⟨s23, q24, h⟩ := nm_o h
        refine r_iast C B (cX_23 G s0) (inb_vp q22) ((uXa_11 G s0 _).trans (congrArg (wX G) q24.symm)) dX6_film_94 (fun H locs B => ?_)
        obtain ⟨v7_25, q26, h⟩ := nm_o h
        refine lv_iinc (v := v7_25) (lv' := [(7, .int v7_25), (5, .ref (gad G 9)), (0, .ref (gad G 0)), (6, .int v6), (1, .int v1), (2, .int v2), (3, .int v3)]) hx hb dX6_film_95 hl (k := 6) rfl q26.symm (by decide) rfl (fun ls hl => ?_)
        refine lv_goto (tgt := 69) hx hb dX6_film_98 (by decide) ?_
        exact ih v7_25 s23 e1 h hk H locs ls B (lv_sub hl [1, 2, 3, 4, 5, 6, 0] rfl)
      · refine r_aald (b := gad G 24) C B (cX_22 G s0) (rows_in (by rw [q19]; decide)) (by rw [q19]; rfl) dX6_film_81 ?_
        refine lv_iload hx hb dX6_film_82 (lv_at hl 6 rfl) ?_
        refine lv_aload hx hb dX6_film_84 (lv_at hl 0 rfl) ?_
        refine lv_iload_n hx hb dX6_film_86 rfl (lv_at hl 4 rfl) ?_
        refine lv_iload_n hx hb dX6_film_87 rfl (lv_at hl 5 rfl) ?_
        refine lv_iload hx hb dX6_film_88 (lv_at hl 6 rfl) ?_
        refine lv_iadd hx hb dX6_film_90 ?_
        obtain ⟨r28, q27, h⟩ := bd_o h
        refine r_callVi (rest := [.int v7, .ref (gad G 24)]) C B hl (c_X2_of G s0 v2 (v3 + v7) r28 q27) cs_X6_120 (cX_9 G s0) rfl rfl rfl (Nat.le_of_ble_eq_true rfl) ⟨rfl, rfl, Nat.le_of_ble_eq_true rfl, Nat.le_of_ble_eq_true rfl⟩ dX6_film_91 (fun H locs B => ?_)
        obtain ⟨q29, h⟩ := gd_o h
        obtain ⟨s30, q31, h⟩ := nm_o h
        refine r_iast C B (cX_24 G s0) (inb_vp q29) ((uXa_12 G s0 _).trans (congrArg (wX G) q31.symm)) dX6_film_94 (fun H locs B => ?_)
        obtain ⟨v7_32, q33, h⟩ := nm_o h
        refine lv_iinc (v := v7_32) (lv' := [(7, .int v7_32), (5, .ref (gad G 9)), (0, .ref (gad G 0)), (6, .int v6), (1, .int v1), (2, .int v2), (3, .int v3)]) hx hb dX6_film_95 hl (k := 6) rfl q33.symm (by decide) rfl (fun ls hl => ?_)
        refine lv_goto (tgt := 69) hx hb dX6_film_98 (by decide) ?_
        exact ih v7_32 s30 e1 h hk H locs ls B (lv_sub hl [1, 2, 3, 4, 5, 6, 0] rfl)
      · refine r_aald (b := gad G 25) C B (cX_22 G s0) (rows_in (by rw [q19]; decide)) (by rw [q19]; rfl) dX6_film_81 ?_
        refine lv_iload hx hb dX6_film_82 (lv_at hl 6 rfl) ?_
        refine lv_aload hx hb dX6_film_84 (lv_at hl 0 rfl) ?_
        refine lv_iload_n hx hb dX6_film_86 rfl (lv_at hl 4 rfl) ?_
        refine lv_iload_n hx hb dX6_film_87 rfl (lv_at hl 5 rfl) ?_
        refine lv_iload hx hb dX6_film_88 (lv_at hl 6 rfl) ?_
        refine lv_iadd hx hb dX6_film_90 ?_
        obtain ⟨r35, q34, h⟩ := bd_o h
        refine r_callVi (rest := [.int v7, .ref (gad G 25)]) C B hl (c_X2_of G s0 v2 (v3 + v7) r35 q34) cs_X6_120 (cX_9 G s0) rfl rfl rfl (Nat.le_of_ble_eq_true rfl) ⟨rfl, rfl, Nat.le_of_ble_eq_true rfl, Nat.le_of_ble_eq_true rfl⟩ dX6_film_91 (fun H locs B => ?_)
        obtain ⟨q36, h⟩ := gd_o h
        obtain ⟨s37, q38, h⟩ := nm_o h
        refine r_iast C B (cX_25 G s0) (inb_vp q36) ((uXa_13 G s0 _).trans (congrArg (wX G) q38.symm)) dX6_film_94 (fun H locs B => ?_)
        obtain ⟨v7_39, q40, h⟩ := nm_o h
        refine lv_iinc (v := v7_39) (lv' := [(7, .int v7_39), (5, .ref (gad G 9)), (0, .ref (gad G 0)), (6, .int v6), (1, .int v1), (2, .int v2), (3, .int v3)]) hx hb dX6_film_95 hl (k := 6) rfl q40.symm (by decide) rfl (fun ls hl => ?_)
        refine lv_goto (tgt := 69) hx hb dX6_film_98 (by decide) ?_
        exact ih v7_39 s37 e1 h hk H locs ls B (lv_sub hl [1, 2, 3, 4, 5, 6, 0] rfl)
