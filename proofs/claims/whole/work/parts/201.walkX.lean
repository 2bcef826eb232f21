/-! WALKS (X 1): each method comes back with what its plain function says -/
def rm_X4_begin : Room := { frames := 0, cells := 0, slots := 0, locals := 0 }
set_option maxRecDepth 100000 in
set_option maxHeartbeats 4000000 in
theorem l_X4_begin_L1 {G : GT} {p : Program} {e : Env} {s : State} {m : MethodId} {args : Array Value} {below : List Frame} {meth : Method} {c : Code} {Q : State → Prop} (C : CT G p s m meth c args cX4_begin 3 RX4) (hr : meth.sig.returnType = none) : ∀ (k : Nat) (v2 : Int32) (s0 : ST) (e1 : ST), X4_begin_L1  k v2 s0 = some e1 → Kn G p e rm_X4_begin s m args below meth c Q 3 43 [(0, .ref (gad G 1))] (wX G e1) → Kn G p e rm_X4_begin s m args below meth c Q 3 17 [(0, .ref (gad G 1)), (2, .int v2)] (wX G s0) := by
  have hx := C.1
  have hb := C.2.1
  intro k
  induction k with
  | zero =>
    intro v2 s0 e1 h
    exact nso h
  | succ k ih =>
    intro v2 s0 e1 h hk H locs ls B hl
    have h : X4_begin_L1_b  (X4_begin_L1  k) v2 s0 = some e1 := h
    unfold X4_begin_L1_b at h
    refine lv_iload_n hx hb dX4_begin_17 rfl (lv_at hl 1 rfl) ?_
    refine lv_bipush (v := (8 : Int32)) hx hb dX4_begin_18 rfl ?_
    refine lv_icmp_ge (tgt := 43) hx hb dX4_begin_20 (by decide) (fun q7 => ?_) (fun q7 => ?_)
    · have h := ip h q7
      obtain rfl := ret1 h
      exact hk H locs ls B (lv_sub hl [0] rfl)
    · have h := ig h q7
      refine lv_aload_n hx hb dX4_begin_23 rfl (lv_at hl 0 rfl) ?_
      refine r_get C B fo_X4_24 (cX_1 G s0) rfl dX4_begin_24 ?_
      refine lv_iload_n hx hb dX4_begin_27 rfl (lv_at hl 1 rfl) ?_
      refine lv_iconst (v := (0 : Int32)) hx hb dX4_begin_28 rfl ?_
      obtain ⟨q8, h⟩ := gd_o h
      obtain ⟨s9, q10, h⟩ := nm_o h
      refine r_iast C B (cX_2 G s0) (inb_vp q8) ((uXa_0 G s0 _).trans (congrArg (wX G) q10.symm)) dX4_begin_29 (fun H locs B => ?_)
      refine lv_aload_n hx hb dX4_begin_30 rfl (lv_at hl 0 rfl) ?_
      refine r_get C B fo_X4_28 (cX_1 G s9) rfl dX4_begin_31 ?_
      refine lv_iload_n hx hb dX4_begin_34 rfl (lv_at hl 1 rfl) ?_
      refine lv_iconst (v := (0 : Int32)) hx hb dX4_begin_35 rfl ?_
      obtain ⟨q11, h⟩ := gd_o h
      obtain ⟨s12, q13, h⟩ := nm_o h
      refine r_iast C B (cX_3 G s9) (inb_vp q11) ((uXa_1 G s9 _).trans (congrArg (wX G) q13.symm)) dX4_begin_36 (fun H locs B => ?_)
      obtain ⟨v2_14, q15, h⟩ := nm_o h
      refine lv_iinc (v := v2_14) (lv' := [(2, .int v2_14), (0, .ref (gad G 1))]) hx hb dX4_begin_37 hl (k := 1) rfl q15.symm (by decide) rfl (fun ls hl => ?_)
      refine lv_goto (tgt := 17) hx hb dX4_begin_40 (by decide) ?_
      exact ih v2_14 s12 e1 h hk H locs ls B (lv_sub hl [1, 0] rfl)
set_option maxRecDepth 100000 in
set_option maxHeartbeats 4000000 in
theorem c_X4_begin (G : GT) (n : Nat) (s0 : ST) (v1 : Int32) (s' : ST) (h : X4_begin n s0 v1 = some s') : Con G yX4_begin cX4_begin 3 none rm_X4_begin [.ref (gad G 1), .int v1] (wX G s0) none (wX G s') := by
  unfold X4_begin at h
  refine con_of (by decide +kernel) (Nat.le_of_ble_eq_true rfl) (fun {p e s m below meth c} C hr {H locs ls} B hl => ?_)
  have hx := C.1
  have hb := C.2.1
  have hl : lv_has ls 3 [(0, .ref (gad G 1)), (1, .int v1)] := hl
  refine lv_aload_n hx hb dX4_begin_0 rfl (lv_at hl 0 rfl) ?_
  refine lv_iload_n hx hb dX4_begin_1 rfl (lv_at hl 1 rfl) ?_
  obtain ⟨s1, q2, h⟩ := nm_o h
  refine r_put C B fp_X4_9 (cX_1 G s0) (Nat.le_of_ble_eq_true rfl) rfl rfl ((uXs_1 G s0 _).trans (congrArg (wX G) q2.symm)) dX4_begin_2 (fun H locs B => ?_)
  refine lv_aload_n hx hb dX4_begin_5 rfl (lv_at hl 0 rfl) ?_
  refine lv_iconst (v := (0 : Int32)) hx hb dX4_begin_6 rfl ?_
  obtain ⟨s3, q4, h⟩ := nm_o h
  refine r_put C B fp_X4_15 (cX_1 G s1) (Nat.le_of_ble_eq_true rfl) rfl rfl ((uXs_2 G s1 _).trans (congrArg (wX G) q4.symm)) dX4_begin_7 (fun H locs B => ?_)
  refine lv_aload_n hx hb dX4_begin_10 rfl (lv_at hl 0 rfl) ?_
  refine lv_iconst (v := (0 : Int32)) hx hb dX4_begin_11 rfl ?_
  obtain ⟨s5, q6, h⟩ := nm_o h
  refine r_put C B fp_X4_18 (cX_1 G s3) (Nat.le_of_ble_eq_true rfl) rfl rfl ((uXs_3 G s3 _).trans (congrArg (wX G) q6.symm)) dX4_begin_12 (fun H locs B => ?_)
  refine lv_iconst (v := (0 : Int32)) hx hb dX4_begin_15 rfl ?_
  refine lv_istore_n (lv' := [(2, .int (0 : Int32)), (0, .ref (gad G 1)), (1, .int v1)]) hx hb dX4_begin_16 rfl hl (by decide) rfl (fun ls hl => ?_)
  obtain ⟨e16, q17, h⟩ := bd_o h
  refine l_X4_begin_L1 C hr  n (0 : Int32) s5 e16 q17 ?_ H locs ls B (lv_sub hl [1, 0] rfl)
  intro H locs ls B hl
  refine lv_aload_n hx hb dX4_begin_43 rfl (lv_at hl 0 rfl) ?_
  refine lv_dup hx hb dX4_begin_44 rfl ?_
  refine r_get C B fo_X4_21 (cX_1 G e16) rfl dX4_begin_45 ?_
  refine lv_iconst (v := (1 : Int32)) hx hb dX4_begin_48 rfl ?_
  refine lv_iadd hx hb dX4_begin_49 ?_
  obtain ⟨s18, q19, h⟩ := nm_o h
  refine r_put C B fp_X4_21 (cX_1 G e16) (Nat.le_of_ble_eq_true rfl) rfl rfl ((uXs_4 G e16 _).trans (congrArg (wX G) q19.symm)) dX4_begin_50 (fun H locs B => ?_)
  obtain rfl := ret1 h
  exact r_vret C B hr dX4_begin_53
def rm_X6_posts : Room := { frames := 1, cells := 0, slots := 0, locals := 22 }
set_option maxRecDepth 100000 in
set_option maxHeartbeats 4000000 in
theorem c_X6_posts (G : GT) (n : Nat) (s0 : ST) (v1 : Int32) (r : Int32) (s' : ST) (h : X6_posts n s0 v1 = some (r, s')) : Con G yX6_posts cX6_posts 3 (some .int) rm_X6_posts [.ref (gad G 0), .int v1] (wX G s0) (some (.int r)) (wX G s') := by
  unfold X6_posts at h
  refine con_of (by decide +kernel) (Nat.le_of_ble_eq_true rfl) (fun {p e s m below meth c} C hr {H locs ls} B hl => ?_)
  have hx := C.1
  have hb := C.2.1
  have hl : lv_has ls 3 [(0, .ref (gad G 0)), (1, .int v1)] := hl
  refine lv_iload_n hx hb dX6_posts_0 rfl (lv_at hl 1 rfl) ?_
  refine lv_iconst (v := (1 : Int32)) hx hb dX6_posts_1 rfl ?_
  refine lv_icmp_lt (tgt := 11) hx hb dX6_posts_2 (by decide) (fun q1 => ?_) (fun q1 => ?_)
  · have h := ip h q1
    refine lv_bipush (v := (-2 : Int32)) hx hb dX6_posts_11 rfl ?_
    obtain ⟨rfl, rfl⟩ := ret2 h
    exact r_iret C B hr rfl dX6_posts_13
  · have h := ig h q1
    refine lv_iload_n hx hb dX6_posts_5 rfl (lv_at hl 1 rfl) ?_
    refine lv_bipush (v := (8 : Int32)) hx hb dX6_posts_6 rfl ?_
    refine lv_icmp_le (tgt := 14) hx hb dX6_posts_8 (by decide) (fun q2 => ?_) (fun q2 => ?_)
    · have h := ip h q2
      refine lv_aload_n hx hb dX6_posts_14 rfl (lv_at hl 0 rfl) ?_
      refine r_get C B fo_X6_10 (cX_0 G s0) rfl dX6_posts_15 ?_
      refine r_get C B fo_X6_60 (cX_1 G s0) rfl dX6_posts_18 ?_
      obtain ⟨v2_3, q4, h⟩ := nm_o h
      refine r_nm q4 ?_
      refine lv_istore_n (lv' := [(2, .int v2_3), (0, .ref (gad G 0)), (1, .int v1)]) hx hb dX6_posts_21 rfl hl (by decide) rfl (fun ls hl => ?_)
      refine lv_aload_n hx hb dX6_posts_22 rfl (lv_at hl 1 rfl) ?_
      refine r_get C B fo_X6_10 (cX_0 G s0) rfl dX6_posts_23 ?_
      refine lv_iload_n hx hb dX6_posts_26 rfl (lv_at hl 2 rfl) ?_
      obtain ⟨s6, q5, h⟩ := bd_o h
      refine r_callVv (rest := []) C B hl (c_X4_begin G n s0 v1 s6 q5) cs_X6_64 (cX_1 G s0) rfl rfl rfl (Nat.le_of_ble_eq_true rfl) ⟨rfl, rfl, Nat.le_of_ble_eq_true rfl, Nat.le_of_ble_eq_true rfl⟩ dX6_posts_27 (fun H locs B => ?_)
      refine lv_iload_n hx hb dX6_posts_30 rfl (lv_at hl 0 rfl) ?_
      obtain ⟨rfl, rfl⟩ := ret2 h
      exact r_iret C B hr rfl dX6_posts_31
    · have h := ig h q2
      refine lv_bipush (v := (-2 : Int32)) hx hb dX6_posts_11 rfl ?_
      obtain ⟨rfl, rfl⟩ := ret2 h
      exact r_iret C B hr rfl dX6_posts_13
def rm_X4_isPost : Room := { frames := 0, cells := 0, slots := 0, locals := 0 }
set_option maxRecDepth 100000 in
set_option maxHeartbeats 4000000 in
theorem c_X4_isPost (G : GT) (s0 : ST) (v1 : Int32) (r : Int32) (h : X4_isPost s0 v1 = some r) : Con G yX4_isPost cX4_isPost 2 (some .boolean) rm_X4_isPost [.ref (gad G 1), .int v1] (wX G s0) (some (.int r)) (wX G s0) := by
  unfold X4_isPost at h
  refine con_of (by decide +kernel) (Nat.le_of_ble_eq_true rfl) (fun {p e s m below meth c} C hr {H locs ls} B hl => ?_)
  have hx := C.1
  have hb := C.2.1
  have hl : lv_has ls 2 [(0, .ref (gad G 1)), (1, .int v1)] := hl
  refine lv_iload_n hx hb dX4_isPost_0 rfl (lv_at hl 1 rfl) ?_
  refine lv_if_lt (tgt := 16) hx hb dX4_isPost_1 (by decide) (fun q1 => ?_) (fun q1 => ?_)
  · have h := ip h q1
    refine lv_iconst (v := (0 : Int32)) hx hb dX4_isPost_16 rfl ?_
    obtain rfl := ret1 h
    exact r_iret C B hr nar_0 dX4_isPost_17
  · have h := ig h q1
    refine lv_iload_n hx hb dX4_isPost_4 rfl (lv_at hl 1 rfl) ?_
    refine lv_aload_n hx hb dX4_isPost_5 rfl (lv_at hl 0 rfl) ?_
    refine r_get C B fo_X4_9 (cX_1 G s0) rfl dX4_isPost_6 ?_
    refine lv_icmp_ge (tgt := 16) hx hb dX4_isPost_9 (by decide) (fun q2 => ?_) (fun q2 => ?_)
    · have h := ip h q2
      refine lv_iconst (v := (0 : Int32)) hx hb dX4_isPost_16 rfl ?_
      obtain rfl := ret1 h
      exact r_iret C B hr nar_0 dX4_isPost_17
    · have h := ig h q2
      refine lv_iconst (v := (1 : Int32)) hx hb dX4_isPost_12 rfl ?_
      refine lv_goto (tgt := 17) hx hb dX4_isPost_13 (by decide) ?_
      obtain rfl := ret1 h
      exact r_iret C B hr nar_1 dX4_isPost_17
def rm_X4_lay : Room := { frames := 0, cells := 0, slots := 0, locals := 0 }
set_option maxRecDepth 100000 in
set_option maxHeartbeats 4000000 in
theorem c_X4_lay (G : GT) (s0 : ST) (v1 : Int32) (v2 : Int32) (v3 : Int32) (s' : ST) (h : X4_lay s0 v1 v2 v3 = some s') : Con G yX4_lay cX4_lay 4 none rm_X4_lay [.ref (gad G 1), .int v1, .int v2, .int v3] (wX G s0) none (wX G s') := by
  unfold X4_lay at h
  refine con_of (by decide +kernel) (Nat.le_of_ble_eq_true rfl) (fun {p e s m below meth c} C hr {H locs ls} B hl => ?_)
  have hx := C.1
  have hb := C.2.1
  have hl : lv_has ls 4 [(0, .ref (gad G 1)), (1, .int v1), (2, .int v2), (3, .int v3)] := hl
  refine lv_aload_n hx hb dX4_lay_0 rfl (lv_at hl 0 rfl) ?_
  refine r_get C B fo_X4_24 (cX_1 G s0) rfl dX4_lay_1 ?_
  refine lv_iload_n hx hb dX4_lay_4 rfl (lv_at hl 1 rfl) ?_
  refine lv_iload_n hx hb dX4_lay_5 rfl (lv_at hl 3 rfl) ?_
  refine lv_if_eq (tgt := 22) hx hb dX4_lay_6 (by decide) (fun q1 => ?_) (fun q1 => ?_)
  · have h := ip h q1
    refine lv_aload_n hx hb dX4_lay_22 rfl (lv_at hl 0 rfl) ?_
    refine r_get C B fo_X4_24 (cX_1 G s0) rfl dX4_lay_23 ?_
    refine lv_iload_n hx hb dX4_lay_26 rfl (lv_at hl 1 rfl) ?_
    obtain ⟨q2, h⟩ := gd_o h
    refine r_iald C B (cX_2 G s0) (inb_vp q2) dX4_lay_27 ?_
    refine lv_iconst (v := (1 : Int32)) hx hb dX4_lay_28 rfl ?_
    refine lv_iload_n hx hb dX4_lay_29 rfl (lv_at hl 2 rfl) ?_
    refine lv_ishl hx hb dX4_lay_30 ?_
    refine lv_iconst (v := (-1 : Int32)) hx hb dX4_lay_31 rfl ?_
    refine lv_ixor hx hb dX4_lay_32 ?_
    refine lv_iand hx hb dX4_lay_33 ?_
    obtain ⟨q3, h⟩ := gd_o h
    obtain ⟨s4, q5, h⟩ := nm_o h
    refine r_iast C B (cX_2 G s0) (inb_vp q3) ((uXa_0 G s0 _).trans (congrArg (wX G) q5.symm)) dX4_lay_34 (fun H locs B => ?_)
    refine lv_aload_n hx hb dX4_lay_35 rfl (lv_at hl 0 rfl) ?_
    refine lv_dup hx hb dX4_lay_36 rfl ?_
    refine r_get C B fo_X4_21 (cX_1 G s4) rfl dX4_lay_37 ?_
    refine lv_iconst (v := (1 : Int32)) hx hb dX4_lay_40 rfl ?_
    refine lv_iadd hx hb dX4_lay_41 ?_
    obtain ⟨s6, q7, h⟩ := nm_o h
    refine r_put C B fp_X4_21 (cX_1 G s4) (Nat.le_of_ble_eq_true rfl) rfl rfl ((uXs_4 G s4 _).trans (congrArg (wX G) q7.symm)) dX4_lay_42 (fun H locs B => ?_)
    obtain rfl := ret1 h
    exact r_vret C B hr dX4_lay_45
  · have h := ig h q1
    refine lv_aload_n hx hb dX4_lay_9 rfl (lv_at hl 0 rfl) ?_
    refine r_get C B fo_X4_24 (cX_1 G s0) rfl dX4_lay_10 ?_
    refine lv_iload_n hx hb dX4_lay_13 rfl (lv_at hl 1 rfl) ?_
    obtain ⟨q8, h⟩ := gd_o h
    refine r_iald C B (cX_2 G s0) (inb_vp q8) dX4_lay_14 ?_
    refine lv_iconst (v := (1 : Int32)) hx hb dX4_lay_15 rfl ?_
    refine lv_iload_n hx hb dX4_lay_16 rfl (lv_at hl 2 rfl) ?_
    refine lv_ishl hx hb dX4_lay_17 ?_
    refine lv_ior hx hb dX4_lay_18 ?_
    refine lv_goto (tgt := 34) hx hb dX4_lay_19 (by decide) ?_
    obtain ⟨q9, h⟩ := gd_o h
    obtain ⟨s10, q11, h⟩ := nm_o h
    refine r_iast C B (cX_2 G s0) (inb_vp q9) ((uXa_0 G s0 _).trans (congrArg (wX G) q11.symm)) dX4_lay_34 (fun H locs B => ?_)
    refine lv_aload_n hx hb dX4_lay_35 rfl (lv_at hl 0 rfl) ?_
    refine lv_dup hx hb dX4_lay_36 rfl ?_
    refine r_get C B fo_X4_21 (cX_1 G s10) rfl dX4_lay_37 ?_
    refine lv_iconst (v := (1 : Int32)) hx hb dX4_lay_40 rfl ?_
    refine lv_iadd hx hb dX4_lay_41 ?_
    obtain ⟨s12, q13, h⟩ := nm_o h
    refine r_put C B fp_X4_21 (cX_1 G s10) (Nat.le_of_ble_eq_true rfl) rfl rfl ((uXs_4 G s10 _).trans (congrArg (wX G) q13.symm)) dX4_lay_42 (fun H locs B => ?_)
    obtain rfl := ret1 h
    exact r_vret C B hr dX4_lay_45
def rm_X6_road : Room := { frames := 1, cells := 0, slots := 0, locals := 23 }
set_option maxRecDepth 100000 in
set_option maxHeartbeats 4000000 in
theorem c_X6_road (G : GT) (s0 : ST) (v1 : Int32) (v2 : Int32) (v3 : Int32) (r : Int32) (s' : ST) (h : X6_road s0 v1 v2 v3 = some (r, s')) : Con G yX6_road cX6_road 5 (some .int) rm_X6_road [.ref (gad G 0), .int v1, .int v2, .int v3] (wX G s0) (some (.int r)) (wX G s') := by
  unfold X6_road at h
  refine con_of (by decide +kernel) (Nat.le_of_ble_eq_true rfl) (fun {p e s m below meth c} C hr {H locs ls} B hl => ?_)
  have hx := C.1
  have hb := C.2.1
  have hl : lv_has ls 5 [(0, .ref (gad G 0)), (1, .int v1), (2, .int v2), (3, .int v3)] := hl
  refine lv_aload_n hx hb dX6_road_0 rfl (lv_at hl 0 rfl) ?_
  refine r_get C B fo_X6_10 (cX_0 G s0) rfl dX6_road_1 ?_
  refine lv_iload_n hx hb dX6_road_4 rfl (lv_at hl 1 rfl) ?_
  obtain ⟨r2, q1, h⟩ := bd_o h
  refine r_callVi (rest := []) C B hl (c_X4_isPost G s0 v1 r2 q1) cs_X6_68 (cX_1 G s0) rfl rfl rfl (Nat.le_of_ble_eq_true rfl) ⟨rfl, rfl, Nat.le_of_ble_eq_true rfl, Nat.le_of_ble_eq_true rfl⟩ dX6_road_5 (fun H locs B => ?_)
  refine lv_if_eq (tgt := 22) hx hb dX6_road_8 (by decide) (fun q3 => ?_) (fun q3 => ?_)
  · have h := ip h q3
    refine lv_iconst (v := (-1 : Int32)) hx hb dX6_road_22 rfl ?_
    obtain ⟨rfl, rfl⟩ := ret2 h
    exact r_iret C B hr rfl dX6_road_23
  · have h := ig h q3
    refine lv_aload_n hx hb dX6_road_11 rfl (lv_at hl 0 rfl) ?_
    refine r_get C B fo_X6_10 (cX_0 G s0) rfl dX6_road_12 ?_
    refine lv_iload_n hx hb dX6_road_15 rfl (lv_at hl 2 rfl) ?_
    obtain ⟨r5, q4, h⟩ := bd_o h
    refine r_callVi (rest := []) C B hl (c_X4_isPost G s0 v2 r5 q4) cs_X6_68 (cX_1 G s0) rfl rfl rfl (Nat.le_of_ble_eq_true rfl) ⟨rfl, rfl, Nat.le_of_ble_eq_true rfl, Nat.le_of_ble_eq_true rfl⟩ dX6_road_16 (fun H locs B => ?_)
    refine lv_if_ne (tgt := 24) hx hb dX6_road_19 (by decide) (fun q6 => ?_) (fun q6 => ?_)
    · have h := ig h q6
      refine lv_iload_n hx hb dX6_road_24 rfl (lv_at hl 3 rfl) ?_
      refine lv_if_eq (tgt := 36) hx hb dX6_road_25 (by decide) (fun q7 => ?_) (fun q7 => ?_)
      · have h := ip h q7
        refine lv_iload_n hx hb dX6_road_36 rfl (lv_at hl 1 rfl) ?_
        refine lv_iload_n hx hb dX6_road_37 rfl (lv_at hl 2 rfl) ?_
        refine lv_icmp_ne (tgt := 44) hx hb dX6_road_38 (by decide) (fun q8 => ?_) (fun q8 => ?_)
        · have h := ig h q8
          refine lv_aload_n hx hb dX6_road_44 rfl (lv_at hl 0 rfl) ?_
          refine r_get C B fo_X6_10 (cX_0 G s0) rfl dX6_road_45 ?_
          refine r_get C B fo_X6_72 (cX_1 G s0) rfl dX6_road_48 ?_
          refine lv_iload_n hx hb dX6_road_51 rfl (lv_at hl 1 rfl) ?_
          obtain ⟨q9, h⟩ := gd_o h
          refine r_iald C B (cX_2 G s0) (inb_vp q9) dX6_road_52 ?_
          refine lv_iload_n hx hb dX6_road_53 rfl (lv_at hl 2 rfl) ?_
          refine lv_ishr hx hb dX6_road_54 ?_
          refine lv_iconst (v := (1 : Int32)) hx hb dX6_road_55 rfl ?_
          refine lv_iand hx hb dX6_road_56 ?_
          obtain ⟨v4_10, q11, h⟩ := nm_o h
          refine r_nm q11 ?_
          refine lv_istore (lv' := [(4, .int v4_10), (0, .ref (gad G 0)), (1, .int v1), (2, .int v2), (3, .int v3)]) hx hb dX6_road_57 hl (by decide) rfl (fun ls hl => ?_)
          refine lv_aload_n hx hb dX6_road_59 rfl (lv_at hl 1 rfl) ?_
          refine r_get C B fo_X6_10 (cX_0 G s0) rfl dX6_road_60 ?_
          refine lv_iload_n hx hb dX6_road_63 rfl (lv_at hl 2 rfl) ?_
          refine lv_iload_n hx hb dX6_road_64 rfl (lv_at hl 3 rfl) ?_
          refine lv_iload_n hx hb dX6_road_65 rfl (lv_at hl 4 rfl) ?_
          refine lv_iconst (v := (1 : Int32)) hx hb dX6_road_66 rfl ?_
          refine lv_icmp_ne (tgt := 74) hx hb dX6_road_67 (by decide) (fun q12 => ?_) (fun q12 => ?_)
          · have h := ig h q12
            refine lv_iconst (v := (0 : Int32)) hx hb dX6_road_74 rfl ?_
            obtain ⟨s14, q13, h⟩ := bd_o h
            refine r_callVv (rest := []) C B hl (c_X4_lay G s0 v1 v2 (0 : Int32) s14 q13) cs_X6_75 (cX_1 G s0) rfl rfl rfl (Nat.le_of_ble_eq_true rfl) ⟨rfl, rfl, Nat.le_of_ble_eq_true rfl, Nat.le_of_ble_eq_true rfl⟩ dX6_road_75 (fun H locs B => ?_)
            refine lv_iload hx hb dX6_road_78 (lv_at hl 0 rfl) ?_
            obtain ⟨rfl, rfl⟩ := ret2 h
            exact r_iret C B hr rfl dX6_road_80
          · have h := ip h q12
            refine lv_iconst (v := (1 : Int32)) hx hb dX6_road_70 rfl ?_
            refine lv_goto (tgt := 75) hx hb dX6_road_71 (by decide) ?_
            obtain ⟨s16, q15, h⟩ := bd_o h
            refine r_callVv (rest := []) C B hl (c_X4_lay G s0 v1 v2 (1 : Int32) s16 q15) cs_X6_75 (cX_1 G s0) rfl rfl rfl (Nat.le_of_ble_eq_true rfl) ⟨rfl, rfl, Nat.le_of_ble_eq_true rfl, Nat.le_of_ble_eq_true rfl⟩ dX6_road_75 (fun H locs B => ?_)
            refine lv_iload hx hb dX6_road_78 (lv_at hl 0 rfl) ?_
            obtain ⟨rfl, rfl⟩ := ret2 h
            exact r_iret C B hr rfl dX6_road_80
        · have h := ip h q8
          refine lv_bipush (v := (-3 : Int32)) hx hb dX6_road_41 rfl ?_
          obtain ⟨rfl, rfl⟩ := ret2 h
          exact r_iret C B hr rfl dX6_road_43
      · have h := ig h q7
        refine lv_iload_n hx hb dX6_road_28 rfl (lv_at hl 3 rfl) ?_
        refine lv_iconst (v := (1 : Int32)) hx hb dX6_road_29 rfl ?_
        refine lv_icmp_eq (tgt := 36) hx hb dX6_road_30 (by decide) (fun q17 => ?_) (fun q17 => ?_)
        · have h := ip h q17
          refine lv_iload_n hx hb dX6_road_36 rfl (lv_at hl 1 rfl) ?_
          refine lv_iload_n hx hb dX6_road_37 rfl (lv_at hl 2 rfl) ?_
          refine lv_icmp_ne (tgt := 44) hx hb dX6_road_38 (by decide) (fun q18 => ?_) (fun q18 => ?_)
          · have h := ig h q18
            refine lv_aload_n hx hb dX6_road_44 rfl (lv_at hl 0 rfl) ?_
            refine r_get C B fo_X6_10 (cX_0 G s0) rfl dX6_road_45 ?_
            refine r_get C B fo_X6_72 (cX_1 G s0) rfl dX6_road_48 ?_
            refine lv_iload_n hx hb dX6_road_51 rfl (lv_at hl 1 rfl) ?_
            obtain ⟨q19, h⟩ := gd_o h
            refine r_iald C B (cX_2 G s0) (inb_vp q19) dX6_road_52 ?_
            refine lv_iload_n hx hb dX6_road_53 rfl (lv_at hl 2 rfl) ?_
            refine lv_ishr hx hb dX6_road_54 ?_
            refine lv_iconst (v := (1 : Int32)) hx hb dX6_road_55 rfl ?_
            refine lv_iand hx hb dX6_road_56 ?_
            obtain ⟨v4_20, q21, h⟩ := nm_o h
            refine r_nm q21 ?_
            refine lv_istore (lv' := [(4, .int v4_20), (0, .ref (gad G 0)), (1, .int v1), (2, .int v2), (3, .int v3)]) hx hb dX6_road_57 hl (by decide) rfl (fun ls hl => ?_)
            refine lv_aload_n hx hb dX6_road_59 rfl (lv_at hl 1 rfl) ?_
            refine r_get C B fo_X6_10 (cX_0 G s0) rfl dX6_road_60 ?_
            refine lv_iload_n hx hb dX6_road_63 rfl (lv_at hl 2 rfl) ?_
            refine lv_iload_n hx hb dX6_road_64 rfl (lv_at hl 3 rfl) ?_
            refine lv_iload_n hx hb dX6_road_65 rfl (lv_at hl 4 rfl) ?_
            refine lv_iconst (v := (1 : Int32)) hx hb dX6_road_66 rfl ?_
            refine lv_icmp_ne (tgt := 74) hx hb dX6_road_67 (by decide) (fun q22 => ?_) (fun q22 => ?_)
            · have h := ig h q22
              refine lv_iconst (v := (0 : Int32)) hx hb dX6_road_74 rfl ?_
              obtain ⟨s24, q23, h⟩ := bd_o h
              refine r_callVv (rest := []) C B hl (c_X4_lay G s0 v1 v2 (0 : Int32) s24 q23) cs_X6_75 (cX_1 G s0) rfl rfl rfl (Nat.le_of_ble_eq_true rfl) ⟨rfl, rfl, Nat.le_of_ble_eq_true rfl, Nat.le_of_ble_eq_true rfl⟩ dX6_road_75 (fun H locs B => ?_)
              refine lv_iload hx hb dX6_road_78 (lv_at hl 0 rfl) ?_
              obtain ⟨rfl, rfl⟩ := ret2 h
              exact r_iret C B hr rfl dX6_road_80
            · have h := ip h q22
              refine lv_iconst (v := (1 : Int32)) hx hb dX6_road_70 rfl ?_
              refine lv_goto (tgt := 75) hx hb dX6_road_71 (by decide) ?_
              obtain ⟨s26, q25, h⟩ := bd_o h
              refine r_callVv (rest := []) C B hl (c_X4_lay G s0 v1 v2 (1 : Int32) s26 q25) cs_X6_75 (cX_1 G s0) rfl rfl rfl (Nat.le_of_ble_eq_true rfl) ⟨rfl, rfl, Nat.le_of_ble_eq_true rfl, Nat.le_of_ble_eq_true rfl⟩ dX6_road_75 (fun H locs B => ?_)
              refine lv_iload hx hb dX6_road_78 (lv_at hl 0 rfl) ?_
              obtain ⟨rfl, rfl⟩ := ret2 h
              exact r_iret C B hr rfl dX6_road_80
          · have h := ip h q18
            refine lv_bipush (v := (-3 : Int32)) hx hb dX6_road_41 rfl ?_
            obtain ⟨rfl, rfl⟩ := ret2 h
            exact r_iret C B hr rfl dX6_road_43
        · have h := ig h q17
          refine lv_bipush (v := (-2 : Int32)) hx hb dX6_road_33 rfl ?_
          obtain ⟨rfl, rfl⟩ := ret2 h
          exact r_iret C B hr rfl dX6_road_35
    · have h := ip h q6
      refine lv_iconst (v := (-1 : Int32)) hx hb dX6_road_22 rfl ?_
      obtain ⟨rfl, rfl⟩ := ret2 h
      exact r_iret C B hr rfl dX6_road_23
def rm_X6_isRoad : Room := { frames := 1, cells := 0, slots := 0, locals := 21 }
set_option maxRecDepth 100000 in
set_option maxHeartbeats 4000000 in
theorem c_X6_isRoad (G : GT) (s0 : ST) (v1 : Int32) (v2 : Int32) (r : Int32) (h : X6_isRoad s0 v1 v2 = some r) : Con G yX6_isRoad cX6_isRoad 3 (some .int) rm_X6_isRoad [.ref (gad G 0), .int v1, .int v2] (wX G s0) (some (.int r)) (wX G s0) := by
  unfold X6_isRoad at h
  refine con_of (by decide +kernel) (Nat.le_of_ble_eq_true rfl) (fun {p e s m below meth c} C hr {H locs ls} B hl => ?_)
  have hx := C.1
  have hb := C.2.1
  have hl : lv_has ls 3 [(0, .ref (gad G 0)), (1, .int v1), (2, .int v2)] := hl
  refine lv_aload_n hx hb dX6_isRoad_0 rfl (lv_at hl 0 rfl) ?_
  refine r_get C B fo_X6_10 (cX_0 G s0) rfl dX6_isRoad_1 ?_
  refine lv_iload_n hx hb dX6_isRoad_4 rfl (lv_at hl 1 rfl) ?_
  obtain ⟨r2, q1, h⟩ := bd_o h
  refine r_callVi (rest := []) C B hl (c_X4_isPost G s0 v1 r2 q1) cs_X6_68 (cX_1 G s0) rfl rfl rfl (Nat.le_of_ble_eq_true rfl) ⟨rfl, rfl, Nat.le_of_ble_eq_true rfl, Nat.le_of_ble_eq_true rfl⟩ dX6_isRoad_5 (fun H locs B => ?_)
  refine lv_if_eq (tgt := 22) hx hb dX6_isRoad_8 (by decide) (fun q3 => ?_) (fun q3 => ?_)
  · have h := ip h q3
    refine lv_iconst (v := (-1 : Int32)) hx hb dX6_isRoad_22 rfl ?_
    obtain rfl := ret1 h
    exact r_iret C B hr rfl dX6_isRoad_23
  · have h := ig h q3
    refine lv_aload_n hx hb dX6_isRoad_11 rfl (lv_at hl 0 rfl) ?_
    refine r_get C B fo_X6_10 (cX_0 G s0) rfl dX6_isRoad_12 ?_
    refine lv_iload_n hx hb dX6_isRoad_15 rfl (lv_at hl 2 rfl) ?_
    obtain ⟨r5, q4, h⟩ := bd_o h
    refine r_callVi (rest := []) C B hl (c_X4_isPost G s0 v2 r5 q4) cs_X6_68 (cX_1 G s0) rfl rfl rfl (Nat.le_of_ble_eq_true rfl) ⟨rfl, rfl, Nat.le_of_ble_eq_true rfl, Nat.le_of_ble_eq_true rfl⟩ dX6_isRoad_16 (fun H locs B => ?_)
    refine lv_if_ne (tgt := 24) hx hb dX6_isRoad_19 (by decide) (fun q6 => ?_) (fun q6 => ?_)
    · have h := ig h q6
      refine lv_aload_n hx hb dX6_isRoad_24 rfl (lv_at hl 0 rfl) ?_
      refine r_get C B fo_X6_10 (cX_0 G s0) rfl dX6_isRoad_25 ?_
      refine r_get C B fo_X6_72 (cX_1 G s0) rfl dX6_isRoad_28 ?_
      refine lv_iload_n hx hb dX6_isRoad_31 rfl (lv_at hl 1 rfl) ?_
      obtain ⟨q7, h⟩ := gd_o h
      refine r_iald C B (cX_2 G s0) (inb_vp q7) dX6_isRoad_32 ?_
      refine lv_iload_n hx hb dX6_isRoad_33 rfl (lv_at hl 2 rfl) ?_
      refine lv_ishr hx hb dX6_isRoad_34 ?_
      refine lv_iconst (v := (1 : Int32)) hx hb dX6_isRoad_35 rfl ?_
      refine lv_iand hx hb dX6_isRoad_36 ?_
      obtain rfl := ret1 h
      exact r_iret C B hr rfl dX6_isRoad_37
    · have h := ip h q6
      refine lv_iconst (v := (-1 : Int32)) hx hb dX6_isRoad_22 rfl ?_
      obtain rfl := ret1 h
      exact r_iret C B hr rfl dX6_isRoad_23
def rm_X4_all : Room := { frames := 0, cells := 0, slots := 0, locals := 0 }
set_option maxRecDepth 100000 in
set_option maxHeartbeats 4000000 in
theorem c_X4_all (G : GT) (s0 : ST)  (r : Int32) (h : X4_all s0  = some r) : Con G yX4_all cX4_all 1 (some .int) rm_X4_all [.ref (gad G 1)] (wX G s0) (some (.int r)) (wX G s0) := by
  unfold X4_all at h
  refine con_of (by decide +kernel) (Nat.le_of_ble_eq_true rfl) (fun {p e s m below meth c} C hr {H locs ls} B hl => ?_)
  have hx := C.1
  have hb := C.2.1
  have hl : lv_has ls 1 [(0, .ref (gad G 1))] := hl
  refine lv_iconst (v := (1 : Int32)) hx hb dX4_all_0 rfl ?_
  refine lv_aload_n hx hb dX4_all_1 rfl (lv_at hl 0 rfl) ?_
  refine r_get C B fo_X4_9 (cX_1 G s0) rfl dX4_all_2 ?_
  refine lv_ishl hx hb dX4_all_5 ?_
  refine lv_iconst (v := (1 : Int32)) hx hb dX4_all_6 rfl ?_
  refine lv_isub hx hb dX4_all_7 ?_
  obtain rfl := ret1 h
  exact r_iret C B hr rfl dX4_all_8
def rm_X4_isSet : Room := { frames := 1, cells := 0, slots := 0, locals := 20 }
set_option maxRecDepth 100000 in
set_option maxHeartbeats 4000000 in
theorem c_X4_isSet (G : GT) (s0 : ST) (v1 : Int32) (r : Int32) (h : X4_isSet s0 v1 = some r) : Con G yX4_isSet cX4_isSet 2 (some .boolean) rm_X4_isSet [.ref (gad G 1), .int v1] (wX G s0) (some (.int r)) (wX G s0) := by
  unfold X4_isSet at h
  refine con_of (by decide +kernel) (Nat.le_of_ble_eq_true rfl) (fun {p e s m below meth c} C hr {H locs ls} B hl => ?_)
  have hx := C.1
  have hb := C.2.1
  have hl : lv_has ls 2 [(0, .ref (gad G 1)), (1, .int v1)] := hl
  refine lv_iload_n hx hb dX4_isSet_0 rfl (lv_at hl 1 rfl) ?_
  refine lv_if_lt (tgt := 16) hx hb dX4_isSet_1 (by decide) (fun q1 => ?_) (fun q1 => ?_)
  · have h := ip h q1
    refine lv_iconst (v := (0 : Int32)) hx hb dX4_isSet_16 rfl ?_
    obtain rfl := ret1 h
    exact r_iret C B hr nar_0 dX4_isSet_17
  · have h := ig h q1
    refine lv_iload_n hx hb dX4_isSet_4 rfl (lv_at hl 1 rfl) ?_
    refine lv_aload_n hx hb dX4_isSet_5 rfl (lv_at hl 0 rfl) ?_
    obtain ⟨r3, q2, h⟩ := bd_o h
    refine r_callVi (rest := [.int v1]) C B hl (c_X4_all G s0 r3 q2) cs_X4_34 (cX_1 G s0) rfl rfl rfl (Nat.le_of_ble_eq_true rfl) ⟨rfl, rfl, Nat.le_of_ble_eq_true rfl, Nat.le_of_ble_eq_true rfl⟩ dX4_isSet_6 (fun H locs B => ?_)
    refine lv_icmp_gt (tgt := 16) hx hb dX4_isSet_9 (by decide) (fun q4 => ?_) (fun q4 => ?_)
    · have h := ip h q4
      refine lv_iconst (v := (0 : Int32)) hx hb dX4_isSet_16 rfl ?_
      obtain rfl := ret1 h
      exact r_iret C B hr nar_0 dX4_isSet_17
    · have h := ig h q4
      refine lv_iconst (v := (1 : Int32)) hx hb dX4_isSet_12 rfl ?_
      refine lv_goto (tgt := 17) hx hb dX4_isSet_13 (by decide) ?_
      obtain rfl := ret1 h
      exact r_iret C B hr nar_1 dX4_isSet_17
def rm_X4_aim : Room := { frames := 0, cells := 0, slots := 0, locals := 0 }
set_option maxRecDepth 100000 in
set_option maxHeartbeats 4000000 in
theorem c_X4_aim (G : GT) (s0 : ST) (v1 : Int32) (s' : ST) (h : X4_aim s0 v1 = some s') : Con G yX4_aim cX4_aim 2 none rm_X4_aim [.ref (gad G 1), .int v1] (wX G s0) none (wX G s') := by
  unfold X4_aim at h
  refine con_of (by decide +kernel) (Nat.le_of_ble_eq_true rfl) (fun {p e s m below meth c} C hr {H locs ls} B hl => ?_)
  have hx := C.1
  have hb := C.2.1
  have hl : lv_has ls 2 [(0, .ref (gad G 1)), (1, .int v1)] := hl
  refine lv_aload_n hx hb dX4_aim_0 rfl (lv_at hl 0 rfl) ?_
  refine lv_iload_n hx hb dX4_aim_1 rfl (lv_at hl 1 rfl) ?_
  obtain ⟨s1, q2, h⟩ := nm_o h
  refine r_put C B fp_X4_15 (cX_1 G s0) (Nat.le_of_ble_eq_true rfl) rfl rfl ((uXs_2 G s0 _).trans (congrArg (wX G) q2.symm)) dX4_aim_2 (fun H locs B => ?_)
  refine lv_aload_n hx hb dX4_aim_5 rfl (lv_at hl 0 rfl) ?_
  refine lv_dup hx hb dX4_aim_6 rfl ?_
  refine r_get C B fo_X4_21 (cX_1 G s1) rfl dX4_aim_7 ?_
  refine lv_iconst (v := (1 : Int32)) hx hb dX4_aim_10 rfl ?_
  refine lv_iadd hx hb dX4_aim_11 ?_
  obtain ⟨s3, q4, h⟩ := nm_o h
  refine r_put C B fp_X4_21 (cX_1 G s1) (Nat.le_of_ble_eq_true rfl) rfl rfl ((uXs_4 G s1 _).trans (congrArg (wX G) q4.symm)) dX4_aim_12 (fun H locs B => ?_)
  obtain rfl := ret1 h
  exact r_vret C B hr dX4_aim_15
def rm_X6_targets : Room := { frames := 2, cells := 0, slots := 0, locals := 41 }
set_option maxRecDepth 100000 in
set_option maxHeartbeats 4000000 in
theorem c_X6_targets (G : GT) (s0 : ST) (v1 : Int32) (r : Int32) (s' : ST) (h : X6_targets s0 v1 = some (r, s')) : Con G yX6_targets cX6_targets 3 (some .int) rm_X6_targets [.ref (gad G 0), .int v1] (wX G s0) (some (.int r)) (wX G s') := by
  unfold X6_targets at h
  refine con_of (by decide +kernel) (Nat.le_of_ble_eq_true rfl) (fun {p e s m below meth c} C hr {H locs ls} B hl => ?_)
  have hx := C.1
  have hb := C.2.1
  have hl : lv_has ls 3 [(0, .ref (gad G 0)), (1, .int v1)] := hl
  refine lv_aload_n hx hb dX6_targets_0 rfl (lv_at hl 0 rfl) ?_
  refine r_get C B fo_X6_10 (cX_0 G s0) rfl dX6_targets_1 ?_
  refine lv_iload_n hx hb dX6_targets_4 rfl (lv_at hl 1 rfl) ?_
  obtain ⟨r2, q1, h⟩ := bd_o h
  refine r_callVi (rest := []) C B hl (c_X4_isSet G s0 v1 r2 q1) cs_X6_79 (cX_1 G s0) rfl rfl rfl (Nat.le_of_ble_eq_true rfl) ⟨rfl, rfl, Nat.le_of_ble_eq_true rfl, Nat.le_of_ble_eq_true rfl⟩ dX6_targets_5 (fun H locs B => ?_)
  refine lv_if_ne (tgt := 14) hx hb dX6_targets_8 (by decide) (fun q3 => ?_) (fun q3 => ?_)
  · have h := ig h q3
    refine lv_aload_n hx hb dX6_targets_14 rfl (lv_at hl 0 rfl) ?_
    refine r_get C B fo_X6_10 (cX_0 G s0) rfl dX6_targets_15 ?_
    refine r_get C B fo_X6_82 (cX_1 G s0) rfl dX6_targets_18 ?_
    obtain ⟨v2_4, q5, h⟩ := nm_o h
    refine r_nm q5 ?_
    refine lv_istore_n (lv' := [(2, .int v2_4), (0, .ref (gad G 0)), (1, .int v1)]) hx hb dX6_targets_21 rfl hl (by decide) rfl (fun ls hl => ?_)
    refine lv_aload_n hx hb dX6_targets_22 rfl (lv_at hl 1 rfl) ?_
    refine r_get C B fo_X6_10 (cX_0 G s0) rfl dX6_targets_23 ?_
    refine lv_iload_n hx hb dX6_targets_26 rfl (lv_at hl 2 rfl) ?_
    obtain ⟨s7, q6, h⟩ := bd_o h
    refine r_callVv (rest := []) C B hl (c_X4_aim G s0 v1 s7 q6) cs_X6_85 (cX_1 G s0) rfl rfl rfl (Nat.le_of_ble_eq_true rfl) ⟨rfl, rfl, Nat.le_of_ble_eq_true rfl, Nat.le_of_ble_eq_true rfl⟩ dX6_targets_27 (fun H locs B => ?_)
    refine lv_iload_n hx hb dX6_targets_30 rfl (lv_at hl 0 rfl) ?_
    obtain ⟨rfl, rfl⟩ := ret2 h
    exact r_iret C B hr rfl dX6_targets_31
  · have h := ip h q3
    refine lv_bipush (v := (-2 : Int32)) hx hb dX6_targets_11 rfl ?_
    obtain ⟨rfl, rfl⟩ := ret2 h
    exact r_iret C B hr rfl dX6_targets_13
def rm_X4_load : Room := { frames := 0, cells := 0, slots := 0, locals := 0 }
set_option maxRecDepth 100000 in
set_option maxHeartbeats 4000000 in
theorem c_X4_load (G : GT) (s0 : ST) (v1 : Int32) (v2 : Int32) (s' : ST) (h : X4_load s0 v1 v2 = some s') : Con G yX4_load cX4_load 3 none rm_X4_load [.ref (gad G 1), .int v1, .int v2] (wX G s0) none (wX G s') := by
  unfold X4_load at h
  refine con_of (by decide +kernel) (Nat.le_of_ble_eq_true rfl) (fun {p e s m below meth c} C hr {H locs ls} B hl => ?_)
  have hx := C.1
  have hb := C.2.1
  have hl : lv_has ls 3 [(0, .ref (gad G 1)), (1, .int v1), (2, .int v2)] := hl
  refine lv_aload_n hx hb dX4_load_0 rfl (lv_at hl 0 rfl) ?_
  refine r_get C B fo_X4_28 (cX_1 G s0) rfl dX4_load_1 ?_
  refine lv_iload_n hx hb dX4_load_4 rfl (lv_at hl 1 rfl) ?_
  refine lv_iload_n hx hb dX4_load_5 rfl (lv_at hl 2 rfl) ?_
  obtain ⟨q1, h⟩ := gd_o h
  obtain ⟨s2, q3, h⟩ := nm_o h
  refine r_iast C B (cX_3 G s0) (inb_vp q1) ((uXa_1 G s0 _).trans (congrArg (wX G) q3.symm)) dX4_load_6 (fun H locs B => ?_)
  refine lv_aload_n hx hb dX4_load_7 rfl (lv_at hl 0 rfl) ?_
  refine lv_dup hx hb dX4_load_8 rfl ?_
  refine r_get C B fo_X4_21 (cX_1 G s2) rfl dX4_load_9 ?_
  refine lv_iconst (v := (1 : Int32)) hx hb dX4_load_12 rfl ?_
  refine lv_iadd hx hb dX4_load_13 ?_
  obtain ⟨s4, q5, h⟩ := nm_o h
  refine r_put C B fp_X4_21 (cX_1 G s2) (Nat.le_of_ble_eq_true rfl) rfl rfl ((uXs_4 G s2 _).trans (congrArg (wX G) q5.symm)) dX4_load_14 (fun H locs B => ?_)
  obtain rfl := ret1 h
  exact r_vret C B hr dX4_load_17
def rm_X6_weigh : Room := { frames := 1, cells := 0, slots := 0, locals := 22 }
set_option maxRecDepth 100000 in
set_option maxHeartbeats 4000000 in
theorem c_X6_weigh (G : GT) (s0 : ST) (v1 : Int32) (v2 : Int32) (r : Int32) (s' : ST) (h : X6_weigh s0 v1 v2 = some (r, s')) : Con G yX6_weigh cX6_weigh 4 (some .int) rm_X6_weigh [.ref (gad G 0), .int v1, .int v2] (wX G s0) (some (.int r)) (wX G s') := by
  unfold X6_weigh at h
  refine con_of (by decide +kernel) (Nat.le_of_ble_eq_true rfl) (fun {p e s m below meth c} C hr {H locs ls} B hl => ?_)
  have hx := C.1
  have hb := C.2.1
  have hl : lv_has ls 4 [(0, .ref (gad G 0)), (1, .int v1), (2, .int v2)] := hl
  refine lv_aload_n hx hb dX6_weigh_0 rfl (lv_at hl 0 rfl) ?_
  refine r_get C B fo_X6_10 (cX_0 G s0) rfl dX6_weigh_1 ?_
  refine lv_iload_n hx hb dX6_weigh_4 rfl (lv_at hl 1 rfl) ?_
  obtain ⟨r2, q1, h⟩ := bd_o h
  refine r_callVi (rest := []) C B hl (c_X4_isPost G s0 v1 r2 q1) cs_X6_68 (cX_1 G s0) rfl rfl rfl (Nat.le_of_ble_eq_true rfl) ⟨rfl, rfl, Nat.le_of_ble_eq_true rfl, Nat.le_of_ble_eq_true rfl⟩ dX6_weigh_5 (fun H locs B => ?_)
  refine lv_if_ne (tgt := 13) hx hb dX6_weigh_8 (by decide) (fun q3 => ?_) (fun q3 => ?_)
  · have h := ig h q3
    refine lv_iload_n hx hb dX6_weigh_13 rfl (lv_at hl 2 rfl) ?_
    refine lv_if_lt (tgt := 23) hx hb dX6_weigh_14 (by decide) (fun q4 => ?_) (fun q4 => ?_)
    · have h := ip h q4
      refine lv_bipush (v := (-2 : Int32)) hx hb dX6_weigh_23 rfl ?_
      obtain ⟨rfl, rfl⟩ := ret2 h
      exact r_iret C B hr rfl dX6_weigh_25
    · have h := ig h q4
      refine lv_iload_n hx hb dX6_weigh_17 rfl (lv_at hl 2 rfl) ?_
      refine lv_bipush (v := (99 : Int32)) hx hb dX6_weigh_18 rfl ?_
      refine lv_icmp_le (tgt := 26) hx hb dX6_weigh_20 (by decide) (fun q5 => ?_) (fun q5 => ?_)
      · have h := ip h q5
        refine lv_aload_n hx hb dX6_weigh_26 rfl (lv_at hl 0 rfl) ?_
        refine r_get C B fo_X6_10 (cX_0 G s0) rfl dX6_weigh_27 ?_
        refine r_get C B fo_X6_88 (cX_1 G s0) rfl dX6_weigh_30 ?_
        refine lv_iload_n hx hb dX6_weigh_33 rfl (lv_at hl 1 rfl) ?_
        obtain ⟨q6, h⟩ := gd_o h
        refine r_iald C B (cX_3 G s0) (inb_vp q6) dX6_weigh_34 ?_
        obtain ⟨v3_7, q8, h⟩ := nm_o h
        refine r_nm q8 ?_
        refine lv_istore_n (lv' := [(3, .int v3_7), (0, .ref (gad G 0)), (1, .int v1), (2, .int v2)]) hx hb dX6_weigh_35 rfl hl (by decide) rfl (fun ls hl => ?_)
        refine lv_aload_n hx hb dX6_weigh_36 rfl (lv_at hl 1 rfl) ?_
        refine r_get C B fo_X6_10 (cX_0 G s0) rfl dX6_weigh_37 ?_
        refine lv_iload_n hx hb dX6_weigh_40 rfl (lv_at hl 2 rfl) ?_
        refine lv_iload_n hx hb dX6_weigh_41 rfl (lv_at hl 3 rfl) ?_
        obtain ⟨s10, q9, h⟩ := bd_o h
        refine r_callVv (rest := []) C B hl (c_X4_load G s0 v1 v2 s10 q9) cs_X6_91 (cX_1 G s0) rfl rfl rfl (Nat.le_of_ble_eq_true rfl) ⟨rfl, rfl, Nat.le_of_ble_eq_true rfl, Nat.le_of_ble_eq_true rfl⟩ dX6_weigh_42 (fun H locs B => ?_)
        refine lv_iload_n hx hb dX6_weigh_45 rfl (lv_at hl 0 rfl) ?_
        obtain ⟨rfl, rfl⟩ := ret2 h
        exact r_iret C B hr rfl dX6_weigh_46
      · have h := ig h q5
        refine lv_bipush (v := (-2 : Int32)) hx hb dX6_weigh_23 rfl ?_
        obtain ⟨rfl, rfl⟩ := ret2 h
        exact r_iret C B hr rfl dX6_weigh_25
  · have h := ip h q3
    refine lv_iconst (v := (-1 : Int32)) hx hb dX6_weigh_11 rfl ?_
    obtain ⟨rfl, rfl⟩ := ret2 h
    exact r_iret C B hr rfl dX6_weigh_12
def rm_X4_join : Room := { frames := 0, cells := 0, slots := 0, locals := 0 }
set_option maxRecDepth 100000 in
set_option maxHeartbeats 4000000 in
theorem c_X4_join (G : GT) (s0 : ST) (v1 : Int32) (s' : ST) (h : X4_join s0 v1 = some s') : Con G yX4_join cX4_join 2 none rm_X4_join [.ref (gad G 1), .int v1] (wX G s0) none (wX G s') := by
  unfold X4_join at h
  refine con_of (by decide +kernel) (Nat.le_of_ble_eq_true rfl) (fun {p e s m below meth c} C hr {H locs ls} B hl => ?_)
  have hx := C.1
  have hb := C.2.1
  have hl : lv_has ls 2 [(0, .ref (gad G 1)), (1, .int v1)] := hl
  refine lv_aload_n hx hb dX4_join_0 rfl (lv_at hl 0 rfl) ?_
  refine r_get C B fo_X4_18 (cX_1 G s0) rfl dX4_join_1 ?_
  refine lv_bipush (v := (8 : Int32)) hx hb dX4_join_4 rfl ?_
  refine lv_icmp_lt (tgt := 10) hx hb dX4_join_6 (by decide) (fun q1 => ?_) (fun q1 => ?_)
  · have h := ip h q1
    refine lv_aload_n hx hb dX4_join_10 rfl (lv_at hl 0 rfl) ?_
    refine r_get C B fo_X4_31 (cX_1 G s0) rfl dX4_join_11 ?_
    refine lv_aload_n hx hb dX4_join_14 rfl (lv_at hl 0 rfl) ?_
    refine r_get C B fo_X4_18 (cX_1 G s0) rfl dX4_join_15 ?_
    refine lv_iload_n hx hb dX4_join_18 rfl (lv_at hl 1 rfl) ?_
    obtain ⟨q2, h⟩ := gd_o h
    obtain ⟨s3, q4, h⟩ := nm_o h
    refine r_iast C B (cX_4 G s0) (inb_vp q2) ((uXa_2 G s0 _).trans (congrArg (wX G) q4.symm)) dX4_join_19 (fun H locs B => ?_)
    refine lv_aload_n hx hb dX4_join_20 rfl (lv_at hl 0 rfl) ?_
    refine lv_dup hx hb dX4_join_21 rfl ?_
    refine r_get C B fo_X4_18 (cX_1 G s3) rfl dX4_join_22 ?_
    refine lv_iconst (v := (1 : Int32)) hx hb dX4_join_25 rfl ?_
    refine lv_iadd hx hb dX4_join_26 ?_
    obtain ⟨s5, q6, h⟩ := nm_o h
    refine r_put C B fp_X4_18 (cX_1 G s3) (Nat.le_of_ble_eq_true rfl) rfl rfl ((uXs_3 G s3 _).trans (congrArg (wX G) q6.symm)) dX4_join_27 (fun H locs B => ?_)
    refine lv_aload_n hx hb dX4_join_30 rfl (lv_at hl 0 rfl) ?_
    refine lv_dup hx hb dX4_join_31 rfl ?_
    refine r_get C B fo_X4_21 (cX_1 G s5) rfl dX4_join_32 ?_
    refine lv_iconst (v := (1 : Int32)) hx hb dX4_join_35 rfl ?_
    refine lv_iadd hx hb dX4_join_36 ?_
    obtain ⟨s7, q8, h⟩ := nm_o h
    refine r_put C B fp_X4_21 (cX_1 G s5) (Nat.le_of_ble_eq_true rfl) rfl rfl ((uXs_4 G s5 _).trans (congrArg (wX G) q8.symm)) dX4_join_37 (fun H locs B => ?_)
    obtain rfl := ret1 h
    exact r_vret C B hr dX4_join_40
  · have h := ig h q1
    obtain rfl := ret1 h
    exact r_vret C B hr dX4_join_9
def rm_X6_add : Room := { frames := 2, cells := 0, slots := 0, locals := 41 }
set_option maxRecDepth 100000 in
set_option maxHeartbeats 4000000 in
theorem c_X6_add (G : GT) (s0 : ST) (v1 : Int32) (r : Int32) (s' : ST) (h : X6_add s0 v1 = some (r, s')) : Con G yX6_add cX6_add 2 (some .int) rm_X6_add [.ref (gad G 0), .int v1] (wX G s0) (some (.int r)) (wX G s') := by
  unfold X6_add at h
  refine con_of (by decide +kernel) (Nat.le_of_ble_eq_true rfl) (fun {p e s m below meth c} C hr {H locs ls} B hl => ?_)
  have hx := C.1
  have hb := C.2.1
  have hl : lv_has ls 2 [(0, .ref (gad G 0)), (1, .int v1)] := hl
  refine lv_aload_n hx hb dX6_add_0 rfl (lv_at hl 0 rfl) ?_
  refine r_get C B fo_X6_10 (cX_0 G s0) rfl dX6_add_1 ?_
  refine lv_iload_n hx hb dX6_add_4 rfl (lv_at hl 1 rfl) ?_
  obtain ⟨r2, q1, h⟩ := bd_o h
  refine r_callVi (rest := []) C B hl (c_X4_isSet G s0 v1 r2 q1) cs_X6_79 (cX_1 G s0) rfl rfl rfl (Nat.le_of_ble_eq_true rfl) ⟨rfl, rfl, Nat.le_of_ble_eq_true rfl, Nat.le_of_ble_eq_true rfl⟩ dX6_add_5 (fun H locs B => ?_)
  refine lv_if_ne (tgt := 14) hx hb dX6_add_8 (by decide) (fun q3 => ?_) (fun q3 => ?_)
  · have h := ig h q3
    refine lv_aload_n hx hb dX6_add_14 rfl (lv_at hl 0 rfl) ?_
    refine r_get C B fo_X6_10 (cX_0 G s0) rfl dX6_add_15 ?_
    refine r_get C B fo_X6_95 (cX_1 G s0) rfl dX6_add_18 ?_
    refine lv_bipush (v := (8 : Int32)) hx hb dX6_add_21 rfl ?_
    refine lv_icmp_lt (tgt := 29) hx hb dX6_add_23 (by decide) (fun q4 => ?_) (fun q4 => ?_)
    · have h := ip h q4
      refine lv_aload_n hx hb dX6_add_29 rfl (lv_at hl 0 rfl) ?_
      refine r_get C B fo_X6_10 (cX_0 G s0) rfl dX6_add_30 ?_
      refine lv_iload_n hx hb dX6_add_33 rfl (lv_at hl 1 rfl) ?_
      obtain ⟨s6, q5, h⟩ := bd_o h
      refine r_callVv (rest := []) C B hl (c_X4_join G s0 v1 s6 q5) cs_X6_98 (cX_1 G s0) rfl rfl rfl (Nat.le_of_ble_eq_true rfl) ⟨rfl, rfl, Nat.le_of_ble_eq_true rfl, Nat.le_of_ble_eq_true rfl⟩ dX6_add_34 (fun H locs B => ?_)
      refine lv_aload_n hx hb dX6_add_37 rfl (lv_at hl 0 rfl) ?_
      refine r_get C B fo_X6_10 (cX_0 G s6) rfl dX6_add_38 ?_
      refine r_get C B fo_X6_95 (cX_1 G s6) rfl dX6_add_41 ?_
      refine lv_iconst (v := (1 : Int32)) hx hb dX6_add_44 rfl ?_
      refine lv_isub hx hb dX6_add_45 ?_
      obtain ⟨rfl, rfl⟩ := ret2 h
      exact r_iret C B hr rfl dX6_add_46
    · have h := ig h q4
      refine lv_bipush (v := (-4 : Int32)) hx hb dX6_add_26 rfl ?_
      obtain ⟨rfl, rfl⟩ := ret2 h
      exact r_iret C B hr rfl dX6_add_28
  · have h := ip h q3
    refine lv_bipush (v := (-2 : Int32)) hx hb dX6_add_11 rfl ?_
    obtain ⟨rfl, rfl⟩ := ret2 h
    exact r_iret C B hr rfl dX6_add_13
def rm_X4_isNumber : Room := { frames := 0, cells := 0, slots := 0, locals := 0 }
set_option maxRecDepth 100000 in
set_option maxHeartbeats 4000000 in
theorem c_X4_isNumber (G : GT) (s0 : ST) (v1 : Int32) (r : Int32) (h : X4_isNumber s0 v1 = some r) : Con G yX4_isNumber cX4_isNumber 2 (some .boolean) rm_X4_isNumber [.ref (gad G 1), .int v1] (wX G s0) (some (.int r)) (wX G s0) := by
  unfold X4_isNumber at h
  refine con_of (by decide +kernel) (Nat.le_of_ble_eq_true rfl) (fun {p e s m below meth c} C hr {H locs ls} B hl => ?_)
  have hx := C.1
  have hb := C.2.1
  have hl : lv_has ls 2 [(0, .ref (gad G 1)), (1, .int v1)] := hl
  refine lv_iload_n hx hb dX4_isNumber_0 rfl (lv_at hl 1 rfl) ?_
  refine lv_if_lt (tgt := 16) hx hb dX4_isNumber_1 (by decide) (fun q1 => ?_) (fun q1 => ?_)
  · have h := ip h q1
    refine lv_iconst (v := (0 : Int32)) hx hb dX4_isNumber_16 rfl ?_
    obtain rfl := ret1 h
    exact r_iret C B hr nar_0 dX4_isNumber_17
  · have h := ig h q1
    refine lv_iload_n hx hb dX4_isNumber_4 rfl (lv_at hl 1 rfl) ?_
    refine lv_aload_n hx hb dX4_isNumber_5 rfl (lv_at hl 0 rfl) ?_
    refine r_get C B fo_X4_18 (cX_1 G s0) rfl dX4_isNumber_6 ?_
    refine lv_icmp_ge (tgt := 16) hx hb dX4_isNumber_9 (by decide) (fun q2 => ?_) (fun q2 => ?_)
    · have h := ip h q2
      refine lv_iconst (v := (0 : Int32)) hx hb dX4_isNumber_16 rfl ?_
      obtain rfl := ret1 h
      exact r_iret C B hr nar_0 dX4_isNumber_17
    · have h := ig h q2
      refine lv_iconst (v := (1 : Int32)) hx hb dX4_isNumber_12 rfl ?_
      refine lv_goto (tgt := 17) hx hb dX4_isNumber_13 (by decide) ?_
      obtain rfl := ret1 h
      exact r_iret C B hr nar_1 dX4_isNumber_17
def rm_X4_replace : Room := { frames := 0, cells := 0, slots := 0, locals := 0 }
set_option maxRecDepth 100000 in
set_option maxHeartbeats 4000000 in
theorem c_X4_replace (G : GT) (s0 : ST) (v1 : Int32) (v2 : Int32) (s' : ST) (h : X4_replace s0 v1 v2 = some s') : Con G yX4_replace cX4_replace 3 none rm_X4_replace [.ref (gad G 1), .int v1, .int v2] (wX G s0) none (wX G s') := by
  unfold X4_replace at h
  refine con_of (by decide +kernel) (Nat.le_of_ble_eq_true rfl) (fun {p e s m below meth c} C hr {H locs ls} B hl => ?_)
  have hx := C.1
  have hb := C.2.1
  have hl : lv_has ls 3 [(0, .ref (gad G 1)), (1, .int v1), (2, .int v2)] := hl
  refine lv_aload_n hx hb dX4_replace_0 rfl (lv_at hl 0 rfl) ?_
  refine r_get C B fo_X4_31 (cX_1 G s0) rfl dX4_replace_1 ?_
  refine lv_iload_n hx hb dX4_replace_4 rfl (lv_at hl 1 rfl) ?_
  refine lv_iload_n hx hb dX4_replace_5 rfl (lv_at hl 2 rfl) ?_
  obtain ⟨q1, h⟩ := gd_o h
  obtain ⟨s2, q3, h⟩ := nm_o h
  refine r_iast C B (cX_4 G s0) (inb_vp q1) ((uXa_2 G s0 _).trans (congrArg (wX G) q3.symm)) dX4_replace_6 (fun H locs B => ?_)
  refine lv_aload_n hx hb dX4_replace_7 rfl (lv_at hl 0 rfl) ?_
  refine lv_dup hx hb dX4_replace_8 rfl ?_
  refine r_get C B fo_X4_21 (cX_1 G s2) rfl dX4_replace_9 ?_
  refine lv_iconst (v := (1 : Int32)) hx hb dX4_replace_12 rfl ?_
  refine lv_iadd hx hb dX4_replace_13 ?_
  obtain ⟨s4, q5, h⟩ := nm_o h
  refine r_put C B fp_X4_21 (cX_1 G s2) (Nat.le_of_ble_eq_true rfl) rfl rfl ((uXs_4 G s2 _).trans (congrArg (wX G) q5.symm)) dX4_replace_14 (fun H locs B => ?_)
  obtain rfl := ret1 h
  exact r_vret C B hr dX4_replace_17
def rm_X6_change : Room := { frames := 2, cells := 0, slots := 0, locals := 41 }
set_option maxRecDepth 100000 in
set_option maxHeartbeats 4000000 in
theorem c_X6_change (G : GT) (s0 : ST) (v1 : Int32) (v2 : Int32) (r : Int32) (s' : ST) (h : X6_change s0 v1 v2 = some (r, s')) : Con G yX6_change cX6_change 4 (some .int) rm_X6_change [.ref (gad G 0), .int v1, .int v2] (wX G s0) (some (.int r)) (wX G s') := by
  unfold X6_change at h
  refine con_of (by decide +kernel) (Nat.le_of_ble_eq_true rfl) (fun {p e s m below meth c} C hr {H locs ls} B hl => ?_)
  have hx := C.1
  have hb := C.2.1
  have hl : lv_has ls 4 [(0, .ref (gad G 0)), (1, .int v1), (2, .int v2)] := hl
  refine lv_aload_n hx hb dX6_change_0 rfl (lv_at hl 0 rfl) ?_
  refine r_get C B fo_X6_10 (cX_0 G s0) rfl dX6_change_1 ?_
  refine lv_iload_n hx hb dX6_change_4 rfl (lv_at hl 1 rfl) ?_
  obtain ⟨r2, q1, h⟩ := bd_o h
  refine r_callVi (rest := []) C B hl (c_X4_isNumber G s0 v1 r2 q1) cs_X6_101 (cX_1 G s0) rfl rfl rfl (Nat.le_of_ble_eq_true rfl) ⟨rfl, rfl, Nat.le_of_ble_eq_true rfl, Nat.le_of_ble_eq_true rfl⟩ dX6_change_5 (fun H locs B => ?_)
  refine lv_if_ne (tgt := 13) hx hb dX6_change_8 (by decide) (fun q3 => ?_) (fun q3 => ?_)
  · have h := ig h q3
    refine lv_aload_n hx hb dX6_change_13 rfl (lv_at hl 0 rfl) ?_
    refine r_get C B fo_X6_10 (cX_0 G s0) rfl dX6_change_14 ?_
    refine lv_iload_n hx hb dX6_change_17 rfl (lv_at hl 2 rfl) ?_
    obtain ⟨r5, q4, h⟩ := bd_o h
    refine r_callVi (rest := []) C B hl (c_X4_isSet G s0 v2 r5 q4) cs_X6_79 (cX_1 G s0) rfl rfl rfl (Nat.le_of_ble_eq_true rfl) ⟨rfl, rfl, Nat.le_of_ble_eq_true rfl, Nat.le_of_ble_eq_true rfl⟩ dX6_change_18 (fun H locs B => ?_)
    refine lv_if_ne (tgt := 27) hx hb dX6_change_21 (by decide) (fun q6 => ?_) (fun q6 => ?_)
    · have h := ig h q6
      refine lv_aload_n hx hb dX6_change_27 rfl (lv_at hl 0 rfl) ?_
      refine r_get C B fo_X6_10 (cX_0 G s0) rfl dX6_change_28 ?_
      refine r_get C B fo_X6_104 (cX_1 G s0) rfl dX6_change_31 ?_
      refine lv_iload_n hx hb dX6_change_34 rfl (lv_at hl 1 rfl) ?_
      obtain ⟨q7, h⟩ := gd_o h
      refine r_iald C B (cX_4 G s0) (inb_vp q7) dX6_change_35 ?_
      obtain ⟨v3_8, q9, h⟩ := nm_o h
      refine r_nm q9 ?_
      refine lv_istore_n (lv' := [(3, .int v3_8), (0, .ref (gad G 0)), (1, .int v1), (2, .int v2)]) hx hb dX6_change_36 rfl hl (by decide) rfl (fun ls hl => ?_)
      refine lv_aload_n hx hb dX6_change_37 rfl (lv_at hl 1 rfl) ?_
      refine r_get C B fo_X6_10 (cX_0 G s0) rfl dX6_change_38 ?_
      refine lv_iload_n hx hb dX6_change_41 rfl (lv_at hl 2 rfl) ?_
      refine lv_iload_n hx hb dX6_change_42 rfl (lv_at hl 3 rfl) ?_
      obtain ⟨s11, q10, h⟩ := bd_o h
      refine r_callVv (rest := []) C B hl (c_X4_replace G s0 v1 v2 s11 q10) cs_X6_107 (cX_1 G s0) rfl rfl rfl (Nat.le_of_ble_eq_true rfl) ⟨rfl, rfl, Nat.le_of_ble_eq_true rfl, Nat.le_of_ble_eq_true rfl⟩ dX6_change_43 (fun H locs B => ?_)
      refine lv_iload_n hx hb dX6_change_46 rfl (lv_at hl 0 rfl) ?_
      obtain ⟨rfl, rfl⟩ := ret2 h
      exact r_iret C B hr rfl dX6_change_47
    · have h := ip h q6
      refine lv_bipush (v := (-2 : Int32)) hx hb dX6_change_24 rfl ?_
      obtain ⟨rfl, rfl⟩ := ret2 h
      exact r_iret C B hr rfl dX6_change_26
  · have h := ip h q3
    refine lv_iconst (v := (-1 : Int32)) hx hb dX6_change_11 rfl ?_
    obtain ⟨rfl, rfl⟩ := ret2 h
    exact r_iret C B hr rfl dX6_change_12
def rm_X4_remove : Room := { frames := 0, cells := 0, slots := 0, locals := 0 }
set_option maxRecDepth 100000 in
set_option maxHeartbeats 4000000 in
theorem l_X4_remove_L1 {G : GT} {p : Program} {e : Env} {s : State} {m : MethodId} {args : Array Value} {below : List Frame} {meth : Method} {c : Code} {Q : State → Prop} (C : CT G p s m meth c args cX4_remove 3 RX4) (hr : meth.sig.returnType = none) : ∀ (k : Nat) (v2 : Int32) (s0 : ST) (e1 : ST), X4_remove_L1  k v2 s0 = some e1 → Kn G p e rm_X4_remove s m args below meth c Q 3 32 [(0, .ref (gad G 1))] (wX G e1) → Kn G p e rm_X4_remove s m args below meth c Q 3 2 [(0, .ref (gad G 1)), (2, .int v2)] (wX G s0) := by
  have hx := C.1
  have hb := C.2.1
  intro k
  induction k with
  | zero =>
    intro v2 s0 e1 h
    exact nso h
  | succ k ih =>
    intro v2 s0 e1 h hk H locs ls B hl
    have h : X4_remove_L1_b  (X4_remove_L1  k) v2 s0 = some e1 := h
    unfold X4_remove_L1_b at h
    refine lv_iload_n hx hb dX4_remove_2 rfl (lv_at hl 1 rfl) ?_
    refine lv_iconst (v := (1 : Int32)) hx hb dX4_remove_3 rfl ?_
    refine lv_iadd hx hb dX4_remove_4 ?_
    refine lv_aload_n hx hb dX4_remove_5 rfl (lv_at hl 0 rfl) ?_
    refine r_get C B fo_X4_18 (cX_1 G s0) rfl dX4_remove_6 ?_
    refine lv_icmp_ge (tgt := 32) hx hb dX4_remove_9 (by decide) (fun q1 => ?_) (fun q1 => ?_)
    · have h := ip h q1
      obtain rfl := ret1 h
      exact hk H locs ls B (lv_sub hl [0] rfl)
    · have h := ig h q1
      refine lv_aload_n hx hb dX4_remove_12 rfl (lv_at hl 0 rfl) ?_
      refine r_get C B fo_X4_31 (cX_1 G s0) rfl dX4_remove_13 ?_
      refine lv_iload_n hx hb dX4_remove_16 rfl (lv_at hl 1 rfl) ?_
      refine lv_aload_n hx hb dX4_remove_17 rfl (lv_at hl 0 rfl) ?_
      refine r_get C B fo_X4_31 (cX_1 G s0) rfl dX4_remove_18 ?_
      refine lv_iload_n hx hb dX4_remove_21 rfl (lv_at hl 1 rfl) ?_
      refine lv_iconst (v := (1 : Int32)) hx hb dX4_remove_22 rfl ?_
      refine lv_iadd hx hb dX4_remove_23 ?_
      obtain ⟨q2, h⟩ := gd_o h
      refine r_iald C B (cX_4 G s0) (inb_vp q2) dX4_remove_24 ?_
      obtain ⟨q3, h⟩ := gd_o h
      obtain ⟨s4, q5, h⟩ := nm_o h
      refine r_iast C B (cX_4 G s0) (inb_vp q3) ((uXa_2 G s0 _).trans (congrArg (wX G) q5.symm)) dX4_remove_25 (fun H locs B => ?_)
      obtain ⟨v2_6, q7, h⟩ := nm_o h
      refine lv_iinc (v := v2_6) (lv' := [(2, .int v2_6), (0, .ref (gad G 1))]) hx hb dX4_remove_26 hl (k := 1) rfl q7.symm (by decide) rfl (fun ls hl => ?_)
      refine lv_goto (tgt := 2) hx hb dX4_remove_29 (by decide) ?_
      exact ih v2_6 s4 e1 h hk H locs ls B (lv_sub hl [1, 0] rfl)
set_option maxRecDepth 100000 in
set_option maxHeartbeats 4000000 in
theorem c_X4_remove (G : GT) (n : Nat) (s0 : ST) (v1 : Int32) (s' : ST) (h : X4_remove n s0 v1 = some s') : Con G yX4_remove cX4_remove 3 none rm_X4_remove [.ref (gad G 1), .int v1] (wX G s0) none (wX G s') := by
  unfold X4_remove at h
  refine con_of (by decide +kernel) (Nat.le_of_ble_eq_true rfl) (fun {p e s m below meth c} C hr {H locs ls} B hl => ?_)
  have hx := C.1
  have hb := C.2.1
  have hl : lv_has ls 3 [(0, .ref (gad G 1)), (1, .int v1)] := hl
  refine lv_iload_n hx hb dX4_remove_0 rfl (lv_at hl 1 rfl) ?_
  refine lv_istore_n (lv' := [(2, .int v1), (0, .ref (gad G 1)), (1, .int v1)]) hx hb dX4_remove_1 rfl hl (by decide) rfl (fun ls hl => ?_)
  obtain ⟨e8, q9, h⟩ := bd_o h
  refine l_X4_remove_L1 C hr  n v1 s0 e8 q9 ?_ H locs ls B (lv_sub hl [1, 0] rfl)
  intro H locs ls B hl
  refine lv_aload_n hx hb dX4_remove_32 rfl (lv_at hl 0 rfl) ?_
  refine lv_dup hx hb dX4_remove_33 rfl ?_
  refine r_get C B fo_X4_18 (cX_1 G e8) rfl dX4_remove_34 ?_
  refine lv_iconst (v := (1 : Int32)) hx hb dX4_remove_37 rfl ?_
  refine lv_isub hx hb dX4_remove_38 ?_
  obtain ⟨s10, q11, h⟩ := nm_o h
  refine r_put C B fp_X4_18 (cX_1 G e8) (Nat.le_of_ble_eq_true rfl) rfl rfl ((uXs_3 G e8 _).trans (congrArg (wX G) q11.symm)) dX4_remove_39 (fun H locs B => ?_)
  refine lv_aload_n hx hb dX4_remove_42 rfl (lv_at hl 0 rfl) ?_
  refine lv_dup hx hb dX4_remove_43 rfl ?_
  refine r_get C B fo_X4_21 (cX_1 G s10) rfl dX4_remove_44 ?_
  refine lv_iconst (v := (1 : Int32)) hx hb dX4_remove_47 rfl ?_
  refine lv_iadd hx hb dX4_remove_48 ?_
  obtain ⟨s12, q13, h⟩ := nm_o h
  refine r_put C B fp_X4_21 (cX_1 G s10) (Nat.le_of_ble_eq_true rfl) rfl rfl ((uXs_4 G s10 _).trans (congrArg (wX G) q13.symm)) dX4_remove_49 (fun H locs B => ?_)
  obtain rfl := ret1 h
  exact r_vret C B hr dX4_remove_52
def rm_X6_drop : Room := { frames := 1, cells := 0, slots := 0, locals := 22 }
set_option maxRecDepth 100000 in
set_option maxHeartbeats 4000000 in
theorem c_X6_drop (G : GT) (n : Nat) (s0 : ST) (v1 : Int32) (r : Int32) (s' : ST) (h : X6_drop n s0 v1 = some (r, s')) : Con G yX6_drop cX6_drop 2 (some .int) rm_X6_drop [.ref (gad G 0), .int v1] (wX G s0) (some (.int r)) (wX G s') := by
  unfold X6_drop at h
  refine con_of (by decide +kernel) (Nat.le_of_ble_eq_true rfl) (fun {p e s m below meth c} C hr {H locs ls} B hl => ?_)
  have hx := C.1
  have hb := C.2.1
  have hl : lv_has ls 2 [(0, .ref (gad G 0)), (1, .int v1)] := hl
  refine lv_aload_n hx hb dX6_drop_0 rfl (lv_at hl 0 rfl) ?_
  refine r_get C B fo_X6_10 (cX_0 G s0) rfl dX6_drop_1 ?_
  refine lv_iload_n hx hb dX6_drop_4 rfl (lv_at hl 1 rfl) ?_
  obtain ⟨r2, q1, h⟩ := bd_o h
  refine r_callVi (rest := []) C B hl (c_X4_isNumber G s0 v1 r2 q1) cs_X6_101 (cX_1 G s0) rfl rfl rfl (Nat.le_of_ble_eq_true rfl) ⟨rfl, rfl, Nat.le_of_ble_eq_true rfl, Nat.le_of_ble_eq_true rfl⟩ dX6_drop_5 (fun H locs B => ?_)
  refine lv_if_ne (tgt := 13) hx hb dX6_drop_8 (by decide) (fun q3 => ?_) (fun q3 => ?_)
  · have h := ig h q3
    refine lv_aload_n hx hb dX6_drop_13 rfl (lv_at hl 0 rfl) ?_
    refine r_get C B fo_X6_10 (cX_0 G s0) rfl dX6_drop_14 ?_
    refine lv_iload_n hx hb dX6_drop_17 rfl (lv_at hl 1 rfl) ?_
    obtain ⟨s5, q4, h⟩ := bd_o h
    refine r_callVv (rest := []) C B hl (c_X4_remove G n s0 v1 s5 q4) cs_X6_110 (cX_1 G s0) rfl rfl rfl (Nat.le_of_ble_eq_true rfl) ⟨rfl, rfl, Nat.le_of_ble_eq_true rfl, Nat.le_of_ble_eq_true rfl⟩ dX6_drop_18 (fun H locs B => ?_)
    refine lv_aload_n hx hb dX6_drop_21 rfl (lv_at hl 0 rfl) ?_
    refine r_get C B fo_X6_10 (cX_0 G s5) rfl dX6_drop_22 ?_
    refine r_get C B fo_X6_95 (cX_1 G s5) rfl dX6_drop_25 ?_
    obtain ⟨rfl, rfl⟩ := ret2 h
    exact r_iret C B hr rfl dX6_drop_28
  · have h := ip h q3
    refine lv_iconst (v := (-1 : Int32)) hx hb dX6_drop_11 rfl ?_
    obtain ⟨rfl, rfl⟩ := ret2 h
    exact r_iret C B hr rfl dX6_drop_12
def rm_X6_set : Room := { frames := 1, cells := 0, slots := 0, locals := 21 }
set_option maxRecDepth 100000 in
set_option maxHeartbeats 4000000 in
theorem c_X6_set (G : GT) (s0 : ST) (v1 : Int32) (r : Int32) (h : X6_set s0 v1 = some r) : Con G yX6_set cX6_set 2 (some .int) rm_X6_set [.ref (gad G 0), .int v1] (wX G s0) (some (.int r)) (wX G s0) := by
  unfold X6_set at h
  refine con_of (by decide +kernel) (Nat.le_of_ble_eq_true rfl) (fun {p e s m below meth c} C hr {H locs ls} B hl => ?_)
  have hx := C.1
  have hb := C.2.1
  have hl : lv_has ls 2 [(0, .ref (gad G 0)), (1, .int v1)] := hl
  refine lv_aload_n hx hb dX6_set_0 rfl (lv_at hl 0 rfl) ?_
  refine r_get C B fo_X6_10 (cX_0 G s0) rfl dX6_set_1 ?_
  refine lv_iload_n hx hb dX6_set_4 rfl (lv_at hl 1 rfl) ?_
  obtain ⟨r2, q1, h⟩ := bd_o h
  refine r_callVi (rest := []) C B hl (c_X4_isNumber G s0 v1 r2 q1) cs_X6_101 (cX_1 G s0) rfl rfl rfl (Nat.le_of_ble_eq_true rfl) ⟨rfl, rfl, Nat.le_of_ble_eq_true rfl, Nat.le_of_ble_eq_true rfl⟩ dX6_set_5 (fun H locs B => ?_)
  refine lv_if_ne (tgt := 13) hx hb dX6_set_8 (by decide) (fun q3 => ?_) (fun q3 => ?_)
  · have h := ig h q3
    refine lv_aload_n hx hb dX6_set_13 rfl (lv_at hl 0 rfl) ?_
    refine r_get C B fo_X6_10 (cX_0 G s0) rfl dX6_set_14 ?_
    refine r_get C B fo_X6_104 (cX_1 G s0) rfl dX6_set_17 ?_
    refine lv_iload_n hx hb dX6_set_20 rfl (lv_at hl 1 rfl) ?_
    obtain ⟨q4, h⟩ := gd_o h
    refine r_iald C B (cX_4 G s0) (inb_vp q4) dX6_set_21 ?_
    obtain rfl := ret1 h
    exact r_iret C B hr rfl dX6_set_22
  · have h := ip h q3
    refine lv_iconst (v := (-1 : Int32)) hx hb dX6_set_11 rfl ?_
    obtain rfl := ret1 h
    exact r_iret C B hr rfl dX6_set_12
def rm_X6_isSide : Room := { frames := 0, cells := 0, slots := 0, locals := 0 }
set_option maxRecDepth 100000 in
set_option maxHeartbeats 4000000 in
theorem c_X6_isSide (G : GT) (v0 : Int32) (r : Int32) (h : X6_isSide v0 = some r) : ConP G yX6_isSide cX6_isSide 1 (some .boolean) rm_X6_isSide [.int v0] (some (.int r)) := by
  unfold X6_isSide at h
  refine conP_of (by decide +kernel) (Nat.le_of_ble_eq_true rfl) (fun {p e s m below meth c} C hr {ls} hl => ?_)
  have hx := C.1
  have hb := C.2.1
  have hl : lv_has ls 1 [(0, .int v0)] := hl
  refine lv_iload_n hx hb dX6_isSide_0 rfl (lv_at hl 0 rfl) ?_
  refine lv_if_lt (tgt := 13) hx hb dX6_isSide_1 (by decide) (fun q1 => ?_) (fun q1 => ?_)
  · have h := ip h q1
    refine lv_iconst (v := (0 : Int32)) hx hb dX6_isSide_13 rfl ?_
    obtain rfl := ret1 h
    exact r_iretP C hr nar_0 dX6_isSide_14
  · have h := ig h q1
    refine lv_iload_n hx hb dX6_isSide_4 rfl (lv_at hl 0 rfl) ?_
    refine lv_iconst (v := (4 : Int32)) hx hb dX6_isSide_5 rfl ?_
    refine lv_icmp_ge (tgt := 13) hx hb dX6_isSide_6 (by decide) (fun q2 => ?_) (fun q2 => ?_)
    · have h := ip h q2
      refine lv_iconst (v := (0 : Int32)) hx hb dX6_isSide_13 rfl ?_
      obtain rfl := ret1 h
      exact r_iretP C hr nar_0 dX6_isSide_14
    · have h := ig h q2
      refine lv_iconst (v := (1 : Int32)) hx hb dX6_isSide_9 rfl ?_
      refine lv_goto (tgt := 14) hx hb dX6_isSide_10 (by decide) ?_
      obtain rfl := ret1 h
      exact r_iretP C hr nar_1 dX6_isSide_14
def rm_X1_begin_13 : Room := { frames := 0, cells := 0, slots := 0, locals := 0 }
set_option maxRecDepth 100000 in
set_option maxHeartbeats 4000000 in
theorem l_X1_begin_13_L1 {G : GT} {p : Program} {e : Env} {s : State} {m : MethodId} {args : Array Value} {below : List Frame} {meth : Method} {c : Code} {Q : State → Prop} (C : CT G p s m meth c args cX1_begin 2 RX1) (hr : meth.sig.returnType = none) : ∀ (k : Nat) (v1 : Int32) (s0 : ST) (e1 : ST), X1_begin_13_L1  k v1 s0 = some e1 → Kn G p e rm_X1_begin_13 s m args below meth c Q 2 27 [] (wX G e1) → Kn G p e rm_X1_begin_13 s m args below meth c Q 2 9 [(0, .ref (gad G 13)), (1, .int v1)] (wX G s0) := by
  have hx := C.1
  have hb := C.2.1
  intro k
  induction k with
  | zero =>
    intro v1 s0 e1 h
    exact nso h
  | succ k ih =>
    intro v1 s0 e1 h hk H locs ls B hl
    have h : X1_begin_13_L1_b  (X1_begin_13_L1  k) v1 s0 = some e1 := h
    unfold X1_begin_13_L1_b at h
    refine lv_iload_n hx hb dX1_begin_9 rfl (lv_at hl 1 rfl) ?_
    refine lv_iconst (v := (4 : Int32)) hx hb dX1_begin_10 rfl ?_
    refine lv_icmp_ge (tgt := 27) hx hb dX1_begin_11 (by decide) (fun q4 => ?_) (fun q4 => ?_)
    · have h := ip h q4
      obtain rfl := ret1 h
      exact hk H locs ls B (lv_sub hl [] rfl)
    · have h := ig h q4
      refine lv_aload_n hx hb dX1_begin_14 rfl (lv_at hl 0 rfl) ?_
      refine r_get C B fo_X1_11 (cX_13 G s0) rfl dX1_begin_15 ?_
      refine lv_iload_n hx hb dX1_begin_18 rfl (lv_at hl 1 rfl) ?_
      refine lv_lconst (v := (0 : Int64)) hx hb dX1_begin_19 rfl ?_
      obtain ⟨q5, h⟩ := gd_o h
      obtain ⟨s6, q7, h⟩ := nm_o h
      refine r_last C B (cX_14 G s0) (inb_vp q5) ((uXj_2 G s0 _).trans (congrArg (wX G) q7.symm)) dX1_begin_20 (fun H locs B => ?_)
      obtain ⟨v1_8, q9, h⟩ := nm_o h
      refine lv_iinc (v := v1_8) (lv' := [(1, .int v1_8), (0, .ref (gad G 13))]) hx hb dX1_begin_21 hl (k := 1) rfl q9.symm (by decide) rfl (fun ls hl => ?_)
      refine lv_goto (tgt := 9) hx hb dX1_begin_24 (by decide) ?_
      exact ih v1_8 s6 e1 h hk H locs ls B (lv_sub hl [1, 0] rfl)
set_option maxRecDepth 100000 in
set_option maxHeartbeats 4000000 in
theorem c_X1_begin_13 (G : GT) (n : Nat) (s0 : ST)  (s' : ST) (h : X1_begin_13 n s0  = some s') : Con G yX1_begin cX1_begin 2 none rm_X1_begin_13 [.ref (gad G 13)] (wX G s0) none (wX G s') := by
  unfold X1_begin_13 at h
  refine con_of (by decide +kernel) (Nat.le_of_ble_eq_true rfl) (fun {p e s m below meth c} C hr {H locs ls} B hl => ?_)
  have hx := C.1
  have hb := C.2.1
  have hl : lv_has ls 2 [(0, .ref (gad G 13))] := hl
  refine lv_aload_n hx hb dX1_begin_0 rfl (lv_at hl 0 rfl) ?_
  refine r_get C B fo_X1_11 (cX_13 G s0) rfl dX1_begin_1 ?_
  refine lv_iconst (v := (0 : Int32)) hx hb dX1_begin_4 rfl ?_
  refine lv_lconst (v := (1 : Int64)) hx hb dX1_begin_5 rfl ?_
  obtain ⟨q1, h⟩ := gd_o h
  obtain ⟨s2, q3, h⟩ := nm_o h
  refine r_last C B (cX_14 G s0) (inb_vp q1) ((uXj_2 G s0 _).trans (congrArg (wX G) q3.symm)) dX1_begin_6 (fun H locs B => ?_)
  refine lv_iconst (v := (1 : Int32)) hx hb dX1_begin_7 rfl ?_
  refine lv_istore_n (lv' := [(1, .int (1 : Int32)), (0, .ref (gad G 13))]) hx hb dX1_begin_8 rfl hl (by decide) rfl (fun ls hl => ?_)
  obtain ⟨e10, q11, h⟩ := bd_o h
  refine l_X1_begin_13_L1 C hr  n (1 : Int32) s2 e10 q11 ?_ H locs ls B (lv_sub hl [1, 0] rfl)
  intro H locs ls B hl
  obtain rfl := ret1 h
  exact r_vret C B hr dX1_begin_27
def rm_X6_has : Room := { frames := 0, cells := 0, slots := 0, locals := 0 }
set_option maxRecDepth 100000 in
set_option maxHeartbeats 4000000 in
theorem c_X6_has (G : GT) (v0 : Int32) (v1 : Int32) (r : Int32) (h : X6_has v0 v1 = some r) : ConP G yX6_has cX6_has 2 (some .boolean) rm_X6_has [.int v0, .int v1] (some (.int r)) := by
  unfold X6_has at h
  refine conP_of (by decide +kernel) (Nat.le_of_ble_eq_true rfl) (fun {p e s m below meth c} C hr {ls} hl => ?_)
  have hx := C.1
  have hb := C.2.1
  have hl : lv_has ls 2 [(0, .int v0), (1, .int v1)] := hl
  refine lv_iload_n hx hb dX6_has_0 rfl (lv_at hl 0 rfl) ?_
  refine lv_iload_n hx hb dX6_has_1 rfl (lv_at hl 1 rfl) ?_
  refine lv_ishr hx hb dX6_has_2 ?_
  refine lv_iconst (v := (1 : Int32)) hx hb dX6_has_3 rfl ?_
  refine lv_iand hx hb dX6_has_4 ?_
  refine lv_iconst (v := (1 : Int32)) hx hb dX6_has_5 rfl ?_
  refine lv_icmp_ne (tgt := 13) hx hb dX6_has_6 (by decide) (fun q1 => ?_) (fun q1 => ?_)
  · have h := ig h q1
    refine lv_iconst (v := (0 : Int32)) hx hb dX6_has_13 rfl ?_
    obtain rfl := ret1 h
    exact r_iretP C hr nar_0 dX6_has_14
  · have h := ip h q1
    refine lv_iconst (v := (1 : Int32)) hx hb dX6_has_9 rfl ?_
    refine lv_goto (tgt := 14) hx hb dX6_has_10 (by decide) ?_
    obtain rfl := ret1 h
    exact r_iretP C hr nar_1 dX6_has_14
def rm_X1_spread_13 : Room := { frames := 0, cells := 0, slots := 0, locals := 0 }
set_option maxRecDepth 100000 in
set_option maxHeartbeats 4000000 in
theorem l_X1_spread_13_L1 {G : GT} {p : Program} {e : Env} {s : State} {m : MethodId} {args : Array Value} {below : List Frame} {meth : Method} {c : Code} {Q : State → Prop} (C : CT G p s m meth c args cX1_spread 4 RX1) (hr : meth.sig.returnType = none) (v2 : Int32) : ∀ (k : Nat) (v3 : Int32) (s0 : ST) (e1 : ST), X1_spread_13_L1 v2 k v3 s0 = some e1 → Kn G p e rm_X1_spread_13 s m args below meth c Q 4 90 [] (wX G e1) → Kn G p e rm_X1_spread_13 s m args below meth c Q 4 54 [(0, .ref (gad G 13)), (2, .int v2), (3, .int v3)] (wX G s0) := by
  have hx := C.1
  have hb := C.2.1
  intro k
  induction k with
  | zero =>
    intro v3 s0 e1 h
    exact nso h
  | succ k ih =>
    intro v3 s0 e1 h hk H locs ls B hl
    have h : X1_spread_13_L1_b v2 (X1_spread_13_L1 v2 k) v3 s0 = some e1 := h
    unfold X1_spread_13_L1_b at h
    refine lv_iload_n hx hb dX1_spread_54 rfl (lv_at hl 2 rfl) ?_
    refine lv_iload_n hx hb dX1_spread_55 rfl (lv_at hl 1 rfl) ?_
    refine lv_iadd hx hb dX1_spread_56 ?_
    refine lv_iconst (v := (4 : Int32)) hx hb dX1_spread_57 rfl ?_
    refine lv_icmp_ge (tgt := 90) hx hb dX1_spread_58 (by decide) (fun q4 => ?_) (fun q4 => ?_)
    · have h := ip h q4
      obtain rfl := ret1 h
      exact hk H locs ls B (lv_sub hl [] rfl)
    · have h := ig h q4
      refine lv_iload_n hx hb dX1_spread_61 rfl (lv_at hl 2 rfl) ?_
      refine lv_iload_n hx hb dX1_spread_62 rfl (lv_at hl 1 rfl) ?_
      refine lv_iand hx hb dX1_spread_63 ?_
      refine lv_if_ne (tgt := 84) hx hb dX1_spread_64 (by decide) (fun q5 => ?_) (fun q5 => ?_)
      · have h := ig h q5
        obtain ⟨v3_6, q7, h⟩ := nm_o h
        refine lv_iinc (v := v3_6) (lv' := [(3, .int v3_6), (0, .ref (gad G 13)), (2, .int v2)]) hx hb dX1_spread_84 hl (k := 2) rfl q7.symm (by decide) rfl (fun ls hl => ?_)
        refine lv_goto (tgt := 54) hx hb dX1_spread_87 (by decide) ?_
        exact ih v3_6 s0 e1 h hk H locs ls B (lv_sub hl [1, 2, 0] rfl)
      · have h := ip h q5
        refine lv_aload_n hx hb dX1_spread_67 rfl (lv_at hl 0 rfl) ?_
        refine r_get C B fo_X1_11 (cX_13 G s0) rfl dX1_spread_68 ?_
        refine lv_iload_n hx hb dX1_spread_71 rfl (lv_at hl 2 rfl) ?_
        refine lv_iload_n hx hb dX1_spread_72 rfl (lv_at hl 1 rfl) ?_
        refine lv_iadd hx hb dX1_spread_73 ?_
        refine lv_dup2_11 hx hb dX1_spread_74 rfl rfl ?_
        obtain ⟨q8, h⟩ := gd_o h
        refine r_lald C B (cX_14 G s0) (inb_vp q8) dX1_spread_75 ?_
        refine lv_aload_n hx hb dX1_spread_76 rfl (lv_at hl 0 rfl) ?_
        refine r_get C B fo_X1_15 (cX_13 G s0) rfl dX1_spread_77 ?_
        refine lv_iload_n hx hb dX1_spread_80 rfl (lv_at hl 2 rfl) ?_
        obtain ⟨q9, h⟩ := gd_o h
        refine r_lald C B (cX_15 G s0) (inb_vp q9) dX1_spread_81 ?_
        refine lv_lor hx hb dX1_spread_82 ?_
        obtain ⟨q10, h⟩ := gd_o h
        obtain ⟨s11, q12, h⟩ := nm_o h
        refine r_last C B (cX_14 G s0) (inb_vp q10) ((uXj_2 G s0 _).trans (congrArg (wX G) q12.symm)) dX1_spread_83 (fun H locs B => ?_)
        obtain ⟨v3_13, q14, h⟩ := nm_o h
        refine lv_iinc (v := v3_13) (lv' := [(3, .int v3_13), (0, .ref (gad G 13)), (2, .int v2)]) hx hb dX1_spread_84 hl (k := 2) rfl q14.symm (by decide) rfl (fun ls hl => ?_)
        refine lv_goto (tgt := 54) hx hb dX1_spread_87 (by decide) ?_
        exact ih v3_13 s11 e1 h hk H locs ls B (lv_sub hl [1, 2, 0] rfl)
set_option maxRecDepth 100000 in
set_option maxHeartbeats 4000000 in
theorem l_X1_spread_13_L2 {G : GT} {p : Program} {e : Env} {s : State} {m : MethodId} {args : Array Value} {below : List Frame} {meth : Method} {c : Code} {Q : State → Prop} (C : CT G p s m meth c args cX1_spread 4 RX1) (hr : meth.sig.returnType = none) (v1 : Int32) : ∀ (k : Nat) (v2 : Int32) (s0 : ST) (e1 : ST), X1_spread_13_L2 v1 k v2 s0 = some e1 → Kn G p e rm_X1_spread_13 s m args below meth c Q 4 44 [] (wX G e1) → Kn G p e rm_X1_spread_13 s m args below meth c Q 4 8 [(0, .ref (gad G 13)), (1, .int v1), (2, .int v2)] (wX G s0) := by
  have hx := C.1
  have hb := C.2.1
  intro k
  induction k with
  | zero =>
    intro v2 s0 e1 h
    exact nso h
  | succ k ih =>
    intro v2 s0 e1 h hk H locs ls B hl
    have h : X1_spread_13_L2_b v1 (X1_spread_13_L2 v1 k) v2 s0 = some e1 := h
    unfold X1_spread_13_L2_b at h
    refine lv_iload_n hx hb dX1_spread_8 rfl (lv_at hl 2 rfl) ?_
    refine lv_iconst (v := (4 : Int32)) hx hb dX1_spread_9 rfl ?_
    refine lv_icmp_ge (tgt := 44) hx hb dX1_spread_10 (by decide) (fun q17 => ?_) (fun q17 => ?_)
    · have h := ip h q17
      obtain rfl := ret1 h
      exact hk H locs ls B (lv_sub hl [] rfl)
    · have h := ig h q17
      refine lv_aload_n hx hb dX1_spread_13 rfl (lv_at hl 0 rfl) ?_
      refine r_get C B fo_X1_11 (cX_13 G s0) rfl dX1_spread_14 ?_
      refine lv_iload_n hx hb dX1_spread_17 rfl (lv_at hl 2 rfl) ?_
      refine lv_dup2_11 hx hb dX1_spread_18 rfl rfl ?_
      obtain ⟨q18, h⟩ := gd_o h
      refine r_lald C B (cX_14 G s0) (inb_vp q18) dX1_spread_19 ?_
      refine lv_aload_n hx hb dX1_spread_20 rfl (lv_at hl 0 rfl) ?_
      refine r_get C B fo_X1_15 (cX_13 G s0) rfl dX1_spread_21 ?_
      refine lv_iload_n hx hb dX1_spread_24 rfl (lv_at hl 2 rfl) ?_
      obtain ⟨q19, h⟩ := gd_o h
      refine r_lald C B (cX_15 G s0) (inb_vp q19) dX1_spread_25 ?_
      refine r_lack C B.2.2 dX1_spread_26 ?_
      refine lv_iload_n hx hb dX1_spread_29 rfl (lv_at hl 1 rfl) ?_
      obtain ⟨q20, h⟩ := gd_o h
      refine r_lackld C B.2.2 (inb_vp q20) dX1_spread_30 ?_
      refine lv_land hx hb dX1_spread_31 ?_
      refine lv_iconst (v := (1 : Int32)) hx hb dX1_spread_32 rfl ?_
      refine lv_iload_n hx hb dX1_spread_33 rfl (lv_at hl 1 rfl) ?_
      refine lv_ishl hx hb dX1_spread_34 ?_
      refine lv_lshl hx hb dX1_spread_35 rfl ?_
      refine lv_lor hx hb dX1_spread_36 ?_
      obtain ⟨q21, h⟩ := gd_o h
      obtain ⟨s22, q23, h⟩ := nm_o h
      refine r_last C B (cX_14 G s0) (inb_vp q21) ((uXj_2 G s0 _).trans (congrArg (wX G) q23.symm)) dX1_spread_37 (fun H locs B => ?_)
      obtain ⟨v2_24, q25, h⟩ := nm_o h
      refine lv_iinc (v := v2_24) (lv' := [(2, .int v2_24), (0, .ref (gad G 13)), (1, .int v1)]) hx hb dX1_spread_38 hl (k := 2) rfl q25.symm (by decide) rfl (fun ls hl => ?_)
      refine lv_goto (tgt := 8) hx hb dX1_spread_41 (by decide) ?_
      exact ih v2_24 s22 e1 h hk H locs ls B (lv_sub hl [1, 2, 0] rfl)
set_option maxRecDepth 100000 in
set_option maxHeartbeats 4000000 in
theorem c_X1_spread_13 (G : GT) (n : Nat) (s0 : ST) (v1 : Int32) (s' : ST) (h : X1_spread_13 n s0 v1 = some s') : Con G yX1_spread cX1_spread 4 none rm_X1_spread_13 [.ref (gad G 13), .int v1] (wX G s0) none (wX G s') := by
  unfold X1_spread_13 at h
  refine con_of (by decide +kernel) (Nat.le_of_ble_eq_true rfl) (fun {p e s m below meth c} C hr {H locs ls} B hl => ?_)
  have hx := C.1
  have hb := C.2.1
  have hl : lv_has ls 4 [(0, .ref (gad G 13)), (1, .int v1)] := hl
  refine lv_iload_n hx hb dX1_spread_0 rfl (lv_at hl 1 rfl) ?_
  refine lv_bipush (v := (6 : Int32)) hx hb dX1_spread_1 rfl ?_
  refine lv_icmp_ge (tgt := 45) hx hb dX1_spread_3 (by decide) (fun q1 => ?_) (fun q1 => ?_)
  · have h := ip h q1
    refine lv_iconst (v := (1 : Int32)) hx hb dX1_spread_45 rfl ?_
    refine lv_iload_n hx hb dX1_spread_46 rfl (lv_at hl 1 rfl) ?_
    refine lv_bipush (v := (6 : Int32)) hx hb dX1_spread_47 rfl ?_
    refine lv_isub hx hb dX1_spread_49 ?_
    refine lv_ishl hx hb dX1_spread_50 ?_
    obtain ⟨v2_2, q3, h⟩ := nm_o h
    refine r_nm q3 ?_
    refine lv_istore_n (lv' := [(2, .int v2_2), (0, .ref (gad G 13)), (1, .int v1)]) hx hb dX1_spread_51 rfl hl (by decide) rfl (fun ls hl => ?_)
    refine lv_iconst (v := (0 : Int32)) hx hb dX1_spread_52 rfl ?_
    refine lv_istore_n (lv' := [(3, .int (0 : Int32)), (2, .int v2_2), (0, .ref (gad G 13)), (1, .int v1)]) hx hb dX1_spread_53 rfl hl (by decide) rfl (fun ls hl => ?_)
    obtain ⟨e15, q16, h⟩ := bd_o h
    refine l_X1_spread_13_L1 C hr v2_2 n (0 : Int32) s0 e15 q16 ?_ H locs ls B (lv_sub hl [2, 1, 0] rfl)
    intro H locs ls B hl
    obtain rfl := ret1 h
    exact r_vret C B hr dX1_spread_90
  · have h := ig h q1
    refine lv_iconst (v := (0 : Int32)) hx hb dX1_spread_6 rfl ?_
    refine lv_istore_n (lv' := [(2, .int (0 : Int32)), (0, .ref (gad G 13)), (1, .int v1)]) hx hb dX1_spread_7 rfl hl (by decide) rfl (fun ls hl => ?_)
    obtain ⟨e26, q27, h⟩ := bd_o h
    refine l_X1_spread_13_L2 C hr v1 n (0 : Int32) s0 e26 q27 ?_ H locs ls B (lv_sub hl [1, 2, 0] rfl)
    intro H locs ls B hl
    obtain rfl := ret1 h
    exact r_vret C B hr dX1_spread_44
def rm_X1_join_13 : Room := { frames := 1, cells := 0, slots := 0, locals := 23 }
set_option maxRecDepth 100000 in
set_option maxHeartbeats 4000000 in
theorem l_X1_join_13_L1 {G : GT} {p : Program} {e : Env} {s : State} {m : MethodId} {args : Array Value} {below : List Frame} {meth : Method} {c : Code} {Q : State → Prop} (C : CT G p s m meth c args cX1_join 3 RX1) (hr : meth.sig.returnType = none) (v1 : Int32) : ∀ (k : Nat) (v2 : Int32) (s0 : ST) (e1 : ST), X1_join_13_L1  k v2 s0 = some e1 → Kn G p e rm_X1_join_13 s m args below meth c Q 3 25 [(0, .ref (gad G 13)), (1, .int v1)] (wX G e1) → Kn G p e rm_X1_join_13 s m args below meth c Q 3 2 [(0, .ref (gad G 13)), (1, .int v1), (2, .int v2)] (wX G s0) := by
  have hx := C.1
  have hb := C.2.1
  intro k
  induction k with
  | zero =>
    intro v2 s0 e1 h
    exact nso h
  | succ k ih =>
    intro v2 s0 e1 h hk H locs ls B hl
    have h : X1_join_13_L1_b  (X1_join_13_L1  k) v2 s0 = some e1 := h
    unfold X1_join_13_L1_b at h
    refine lv_iload_n hx hb dX1_join_2 rfl (lv_at hl 2 rfl) ?_
    refine lv_iconst (v := (4 : Int32)) hx hb dX1_join_3 rfl ?_
    refine lv_icmp_ge (tgt := 25) hx hb dX1_join_4 (by decide) (fun q1 => ?_) (fun q1 => ?_)
    · have h := ip h q1
      obtain rfl := ret1 h
      exact hk H locs ls B (lv_sub hl [0, 1] rfl)
    · have h := ig h q1
      refine lv_aload_n hx hb dX1_join_7 rfl (lv_at hl 0 rfl) ?_
      refine r_get C B fo_X1_15 (cX_13 G s0) rfl dX1_join_8 ?_
      refine lv_iload_n hx hb dX1_join_11 rfl (lv_at hl 2 rfl) ?_
      refine lv_aload_n hx hb dX1_join_12 rfl (lv_at hl 0 rfl) ?_
      refine r_get C B fo_X1_11 (cX_13 G s0) rfl dX1_join_13 ?_
      refine lv_iload_n hx hb dX1_join_16 rfl (lv_at hl 2 rfl) ?_
      obtain ⟨q2, h⟩ := gd_o h
      refine r_lald C B (cX_14 G s0) (inb_vp q2) dX1_join_17 ?_
      obtain ⟨q3, h⟩ := gd_o h
      obtain ⟨s4, q5, h⟩ := nm_o h
      refine r_last C B (cX_15 G s0) (inb_vp q3) ((uXj_3 G s0 _).trans (congrArg (wX G) q5.symm)) dX1_join_18 (fun H locs B => ?_)
      obtain ⟨v2_6, q7, h⟩ := nm_o h
      refine lv_iinc (v := v2_6) (lv' := [(2, .int v2_6), (0, .ref (gad G 13)), (1, .int v1)]) hx hb dX1_join_19 hl (k := 2) rfl q7.symm (by decide) rfl (fun ls hl => ?_)
      refine lv_goto (tgt := 2) hx hb dX1_join_22 (by decide) ?_
      exact ih v2_6 s4 e1 h hk H locs ls B (lv_sub hl [1, 2, 0] rfl)
set_option maxRecDepth 100000 in
set_option maxHeartbeats 4000000 in
theorem l_X1_join_13_L2 {G : GT} {p : Program} {e : Env} {s : State} {m : MethodId} {args : Array Value} {below : List Frame} {meth : Method} {c : Code} {Q : State → Prop} (C : CT G p s m meth c args cX1_join 3 RX1) (hr : meth.sig.returnType = none) (n : Nat) (v1 : Int32) : ∀ (k : Nat) (v2 : Int32) (s0 : ST) (e1 : ST), X1_join_13_L2 n v1 k v2 s0 = some e1 → Kn G p e rm_X1_join_13 s m args below meth c Q 3 52 [] (wX G e1) → Kn G p e rm_X1_join_13 s m args below meth c Q 3 27 [(0, .ref (gad G 13)), (1, .int v1), (2, .int v2)] (wX G s0) := by
  have hx := C.1
  have hb := C.2.1
  intro k
  induction k with
  | zero =>
    intro v2 s0 e1 h
    exact nso h
  | succ k ih =>
    intro v2 s0 e1 h hk H locs ls B hl
    have h : X1_join_13_L2_b n v1 (X1_join_13_L2 n v1 k) v2 s0 = some e1 := h
    unfold X1_join_13_L2_b at h
    refine lv_iload_n hx hb dX1_join_27 rfl (lv_at hl 2 rfl) ?_
    refine lv_bipush (v := (8 : Int32)) hx hb dX1_join_28 rfl ?_
    refine lv_icmp_ge (tgt := 52) hx hb dX1_join_30 (by decide) (fun q10 => ?_) (fun q10 => ?_)
    · have h := ip h q10
      obtain rfl := ret1 h
      exact hk H locs ls B (lv_sub hl [] rfl)
    · have h := ig h q10
      refine lv_iload_n hx hb dX1_join_33 rfl (lv_at hl 1 rfl) ?_
      refine lv_iload_n hx hb dX1_join_34 rfl (lv_at hl 2 rfl) ?_
      obtain ⟨r11, q12, h⟩ := bd_o h
      refine r_callSNi (rest := []) C B.2.2 hl (c_X6_has G v1 v2 r11 q12) cs_X1_18 rfl rfl (Nat.le_of_ble_eq_true rfl) ⟨rfl, rfl, Nat.le_of_ble_eq_true rfl, Nat.le_of_ble_eq_true rfl⟩ dX1_join_35 ?_
      refine lv_if_eq (tgt := 46) hx hb dX1_join_38 (by decide) (fun q13 => ?_) (fun q13 => ?_)
      · have h := ip h q13
        obtain ⟨v2_14, q15, h⟩ := nm_o h
        refine lv_iinc (v := v2_14) (lv' := [(2, .int v2_14), (0, .ref (gad G 13)), (1, .int v1)]) hx hb dX1_join_46 hl (k := 2) rfl q15.symm (by decide) rfl (fun ls hl => ?_)
        refine lv_goto (tgt := 27) hx hb dX1_join_49 (by decide) ?_
        exact ih v2_14 s0 e1 h hk H locs ls B (lv_sub hl [1, 2, 0] rfl)
      · have h := ig h q13
        refine lv_aload_n hx hb dX1_join_41 rfl (lv_at hl 0 rfl) ?_
        refine lv_iload_n hx hb dX1_join_42 rfl (lv_at hl 2 rfl) ?_
        obtain ⟨s17, q16, h⟩ := bd_o h
        refine r_callVv (rest := []) C B hl (c_X1_spread_13 G n s0 v2 s17 q16) cs_X1_22 (cX_13 G s0) rfl rfl rfl (Nat.le_of_ble_eq_true rfl) ⟨rfl, rfl, Nat.le_of_ble_eq_true rfl, Nat.le_of_ble_eq_true rfl⟩ dX1_join_43 (fun H locs B => ?_)
        obtain ⟨v2_18, q19, h⟩ := nm_o h
        refine lv_iinc (v := v2_18) (lv' := [(2, .int v2_18), (0, .ref (gad G 13)), (1, .int v1)]) hx hb dX1_join_46 hl (k := 2) rfl q19.symm (by decide) rfl (fun ls hl => ?_)
        refine lv_goto (tgt := 27) hx hb dX1_join_49 (by decide) ?_
        exact ih v2_18 s17 e1 h hk H locs ls B (lv_sub hl [1, 2, 0] rfl)
set_option maxRecDepth 100000 in
set_option maxHeartbeats 4000000 in
theorem c_X1_join_13 (G : GT) (n : Nat) (s0 : ST) (v1 : Int32) (s' : ST) (h : X1_join_13 n s0 v1 = some s') : Con G yX1_join cX1_join 3 none rm_X1_join_13 [.ref (gad G 13), .int v1] (wX G s0) none (wX G s') := by
  unfold X1_join_13 at h
  refine con_of (by decide +kernel) (Nat.le_of_ble_eq_true rfl) (fun {p e s m below meth c} C hr {H locs ls} B hl => ?_)
  have hx := C.1
  have hb := C.2.1
  have hl : lv_has ls 3 [(0, .ref (gad G 13)), (1, .int v1)] := hl
  refine lv_iconst (v := (0 : Int32)) hx hb dX1_join_0 rfl ?_
  refine lv_istore_n (lv' := [(2, .int (0 : Int32)), (0, .ref (gad G 13)), (1, .int v1)]) hx hb dX1_join_1 rfl hl (by decide) rfl (fun ls hl => ?_)
  obtain ⟨e8, q9, h⟩ := bd_o h
  refine l_X1_join_13_L1 C hr v1 n (0 : Int32) s0 e8 q9 ?_ H locs ls B (lv_sub hl [1, 2, 0] rfl)
  intro H locs ls B hl
  refine lv_iconst (v := (0 : Int32)) hx hb dX1_join_25 rfl ?_
  refine lv_istore_n (lv' := [(2, .int (0 : Int32)), (0, .ref (gad G 13)), (1, .int v1)]) hx hb dX1_join_26 rfl hl (by decide) rfl (fun ls hl => ?_)
  obtain ⟨e20, q21, h⟩ := bd_o h
  refine l_X1_join_13_L2 C hr n v1 n (0 : Int32) e8 e20 q21 ?_ H locs ls B (lv_sub hl [1, 2, 0] rfl)
  intro H locs ls B hl
  obtain rfl := ret1 h
  exact r_vret C B hr dX1_join_52
def rm_X1_holds_13 : Room := { frames := 0, cells := 0, slots := 0, locals := 0 }
set_option maxRecDepth 100000 in
set_option maxHeartbeats 4000000 in
theorem c_X1_holds_13 (G : GT) (s0 : ST) (v1 : Int32) (r : Int32) (h : X1_holds_13 s0 v1 = some r) : Con G yX1_holds cX1_holds 2 (some .boolean) rm_X1_holds_13 [.ref (gad G 13), .int v1] (wX G s0) (some (.int r)) (wX G s0) := by
  unfold X1_holds_13 at h
  refine con_of (by decide +kernel) (Nat.le_of_ble_eq_true rfl) (fun {p e s m below meth c} C hr {H locs ls} B hl => ?_)
  have hx := C.1
  have hb := C.2.1
  have hl : lv_has ls 2 [(0, .ref (gad G 13)), (1, .int v1)] := hl
  refine lv_aload_n hx hb dX1_holds_0 rfl (lv_at hl 0 rfl) ?_
  refine r_get C B fo_X1_11 (cX_13 G s0) rfl dX1_holds_1 ?_
  refine lv_iload_n hx hb dX1_holds_4 rfl (lv_at hl 1 rfl) ?_
  refine lv_bipush (v := (6 : Int32)) hx hb dX1_holds_5 rfl ?_
  refine lv_ishr hx hb dX1_holds_7 ?_
  obtain ⟨q1, h⟩ := gd_o h
  refine r_lald C B (cX_14 G s0) (inb_vp q1) dX1_holds_8 ?_
  refine lv_iload_n hx hb dX1_holds_9 rfl (lv_at hl 1 rfl) ?_
  refine lv_bipush (v := (63 : Int32)) hx hb dX1_holds_10 rfl ?_
  refine lv_iand hx hb dX1_holds_12 ?_
  refine lv_lushr hx hb dX1_holds_13 rfl ?_
  refine lv_lconst (v := (1 : Int64)) hx hb dX1_holds_14 rfl ?_
  refine lv_land hx hb dX1_holds_15 ?_
  refine lv_lconst (v := (1 : Int64)) hx hb dX1_holds_16 rfl ?_
  refine W.lcmp hx hb dX1_holds_17 ?_
  refine lv_if_ne (tgt := 25) hx hb dX1_holds_18 (by decide) (fun q2 => ?_) (fun q2 => ?_)
  · have h := ig h q2
    refine lv_iconst (v := (0 : Int32)) hx hb dX1_holds_25 rfl ?_
    obtain rfl := ret1 h
    exact r_iret C B hr nar_0 dX1_holds_26
  · have h := ip h q2
    refine lv_iconst (v := (1 : Int32)) hx hb dX1_holds_21 rfl ?_
    refine lv_goto (tgt := 26) hx hb dX1_holds_22 (by decide) ?_
    obtain rfl := ret1 h
    exact r_iret C B hr nar_1 dX1_holds_26
def rm_X2_greatestWithin_a16 : Room := { frames := 1, cells := 0, slots := 0, locals := 21 }
set_option maxRecDepth 100000 in
set_option maxHeartbeats 4000000 in
theorem l_X2_greatestWithin_a16_L1 {G : GT} {p : Program} {e : Env} {s : State} {m : MethodId} {args : Array Value} {below : List Frame} {meth : Method} {c : Code} {Q : State → Prop} (C : CT G p s m meth c args cX2_greatestWithin 5 RX2) (hr : meth.sig.returnType = (some .int)) (s0 : ST) (v2 : Int32) : ∀ (k : Nat) (v4 : Int32) (v3 : Int32) (e1 : Int32), X2_greatestWithin_a16_L1 s0 v2 k v4 v3 = some e1 → Kn G p e rm_X2_greatestWithin_a16 s m args below meth c Q 5 44 [(3, .int e1)] (wX G s0) → Kn G p e rm_X2_greatestWithin_a16 s m args below meth c Q 5 5 [(0, .ref (gad G 9)), (1, .ref (gad G 16)), (2, .int v2), (4, .int v4), (3, .int v3)] (wX G s0) := by
  have hx := C.1
  have hb := C.2.1
  intro k
  induction k with
  | zero =>
    intro v4 v3 e1 h
    exact nso h
  | succ k ih =>
    intro v4 v3 e1 h hk H locs ls B hl
    have h : X2_greatestWithin_a16_L1_b s0 v2 (X2_greatestWithin_a16_L1 s0 v2 k) v4 v3 = some e1 := h
    unfold X2_greatestWithin_a16_L1_b at h
    refine lv_iload hx hb dX2_greatestWithin_5 (lv_at hl 3 rfl) ?_
    refine lv_aload_n hx hb dX2_greatestWithin_7 rfl (lv_at hl 0 rfl) ?_
    refine r_get C B fo_X2_28 (cX_9 G s0) rfl dX2_greatestWithin_8 ?_
    refine lv_icmp_ge (tgt := 44) hx hb dX2_greatestWithin_11 (by decide) (fun q1 => ?_) (fun q1 => ?_)
    · have h := ip h q1
      obtain rfl := ret1 h
      exact hk H locs ls B (lv_sub hl [4] rfl)
    · have h := ig h q1
      refine lv_iload_n hx hb dX2_greatestWithin_14 rfl (lv_at hl 2 rfl) ?_
      refine lv_iload hx hb dX2_greatestWithin_15 (lv_at hl 3 rfl) ?_
      obtain ⟨r2, q3, h⟩ := bd_o h
      refine r_callSNi (rest := []) C B.2.2 hl (c_X6_has G v2 v4 r2 q3) cs_X2_53 rfl rfl (Nat.le_of_ble_eq_true rfl) ⟨rfl, rfl, Nat.le_of_ble_eq_true rfl, Nat.le_of_ble_eq_true rfl⟩ dX2_greatestWithin_17 ?_
      refine lv_if_eq (tgt := 38) hx hb dX2_greatestWithin_20 (by decide) (fun q4 => ?_) (fun q4 => ?_)
      · have h := ip h q4
        obtain ⟨v4_5, q6, h⟩ := nm_o h
        refine lv_iinc (v := v4_5) (lv' := [(4, .int v4_5), (0, .ref (gad G 9)), (1, .ref (gad G 16)), (2, .int v2), (3, .int v3)]) hx hb dX2_greatestWithin_38 hl (k := 3) rfl q6.symm (by decide) rfl (fun ls hl => ?_)
        refine lv_goto (tgt := 5) hx hb dX2_greatestWithin_41 (by decide) ?_
        exact ih v4_5 v3 e1 h hk H locs ls B (lv_sub hl [1, 2, 3, 0, 4] rfl)
      · have h := ig h q4
        refine lv_iload_n hx hb dX2_greatestWithin_23 rfl (lv_at hl 4 rfl) ?_
        refine lv_aload_n hx hb dX2_greatestWithin_24 rfl (lv_at hl 1 rfl) ?_
        refine lv_iload_n hx hb dX2_greatestWithin_25 rfl (lv_at hl 2 rfl) ?_
        refine lv_iconst (v := (1 : Int32)) hx hb dX2_greatestWithin_26 rfl ?_
        refine lv_iload hx hb dX2_greatestWithin_27 (lv_at hl 3 rfl) ?_
        refine lv_ishl hx hb dX2_greatestWithin_29 ?_
        refine lv_iconst (v := (-1 : Int32)) hx hb dX2_greatestWithin_30 rfl ?_
        refine lv_ixor hx hb dX2_greatestWithin_31 ?_
        refine lv_iand hx hb dX2_greatestWithin_32 ?_
        obtain ⟨q7, h⟩ := gd_o h
        refine r_iald C B (cX_16 G s0) (inb_vp q7) dX2_greatestWithin_33 ?_
        obtain ⟨r8, q9, h⟩ := nm_o h
        refine va_mmax hx hb (C.2.2.1.trans hl.1.symm) C.2.2.2.1 (C.2.2.2.2.1 _ wm_414) (C.2.2.2.2.1 _ wm_415) (C.2.2.2.2.1 _ wm_70) (C.2.2.2.2.1 _ wm_416) (Nat.le_of_ble_eq_true rfl) (Nat.le_of_ble_eq_true rfl) (Nat.zero_le _) (Nat.zero_le _) dX2_greatestWithin_34 ?_
        refine r_nm q9 ?_
        refine lv_istore_n (lv' := [(3, .int r8), (0, .ref (gad G 9)), (1, .ref (gad G 16)), (2, .int v2), (4, .int v4)]) hx hb dX2_greatestWithin_37 rfl hl (by decide) rfl (fun ls hl => ?_)
        obtain ⟨v4_10, q11, h⟩ := nm_o h
        refine lv_iinc (v := v4_10) (lv' := [(4, .int v4_10), (3, .int r8), (0, .ref (gad G 9)), (1, .ref (gad G 16)), (2, .int v2)]) hx hb dX2_greatestWithin_38 hl (k := 4) rfl q11.symm (by decide) rfl (fun ls hl => ?_)
        refine lv_goto (tgt := 5) hx hb dX2_greatestWithin_41 (by decide) ?_
        exact ih v4_10 r8 e1 h hk H locs ls B (lv_sub hl [2, 3, 4, 0, 1] rfl)
set_option maxRecDepth 100000 in
set_option maxHeartbeats 4000000 in
theorem c_X2_greatestWithin_a16 (G : GT) (n : Nat) (s0 : ST) (v2 : Int32) (r : Int32) (h : X2_greatestWithin_a16 n s0 v2 = some r) : Con G yX2_greatestWithin cX2_greatestWithin 5 (some .int) rm_X2_greatestWithin_a16 [.ref (gad G 9), .ref (gad G 16), .int v2] (wX G s0) (some (.int r)) (wX G s0) := by
  unfold X2_greatestWithin_a16 at h
  refine con_of (by decide +kernel) (Nat.le_of_ble_eq_true rfl) (fun {p e s m below meth c} C hr {H locs ls} B hl => ?_)
  have hx := C.1
  have hb := C.2.1
  have hl : lv_has ls 5 [(0, .ref (gad G 9)), (1, .ref (gad G 16)), (2, .int v2)] := hl
  refine lv_iconst (v := (0 : Int32)) hx hb dX2_greatestWithin_0 rfl ?_
  refine lv_istore_n (lv' := [(3, .int (0 : Int32)), (0, .ref (gad G 9)), (1, .ref (gad G 16)), (2, .int v2)]) hx hb dX2_greatestWithin_1 rfl hl (by decide) rfl (fun ls hl => ?_)
  refine lv_iconst (v := (0 : Int32)) hx hb dX2_greatestWithin_2 rfl ?_
  refine lv_istore (lv' := [(4, .int (0 : Int32)), (3, .int (0 : Int32)), (0, .ref (gad G 9)), (1, .ref (gad G 16)), (2, .int v2)]) hx hb dX2_greatestWithin_3 hl (by decide) rfl (fun ls hl => ?_)
  obtain ⟨e12, q13, h⟩ := bd_o h
  refine l_X2_greatestWithin_a16_L1 C hr s0 v2 n (0 : Int32) (0 : Int32) e12 q13 ?_ H locs ls B (lv_sub hl [2, 3, 4, 0, 1] rfl)
  intro H locs ls B hl
  refine lv_iload_n hx hb dX2_greatestWithin_44 rfl (lv_at hl 0 rfl) ?_
  obtain rfl := ret1 h
  exact r_iret C B hr rfl dX2_greatestWithin_45
def rm_X2_fill_a16_a13 : Room := { frames := 2, cells := 0, slots := 0, locals := 45 }
set_option maxRecDepth 100000 in
set_option maxHeartbeats 4000000 in
theorem l_X2_fill_a16_a13_L1 {G : GT} {p : Program} {e : Env} {s : State} {m : MethodId} {args : Array Value} {below : List Frame} {meth : Method} {c : Code} {Q : State → Prop} (C : CT G p s m meth c args cX2_fill 4 RX2) (hr : meth.sig.returnType = none) (n : Nat) : ∀ (k : Nat) (v3 : Int32) (s0 : ST) (e1 : ST), X2_fill_a16_a13_L1 n k v3 s0 = some e1 → Kn G p e rm_X2_fill_a16_a13 s m args below meth c Q 4 40 [] (wX G e1) → Kn G p e rm_X2_fill_a16_a13 s m args below meth c Q 4 2 [(0, .ref (gad G 9)), (1, .ref (gad G 16)), (2, .ref (gad G 13)), (3, .int v3)] (wX G s0) := by
  have hx := C.1
  have hb := C.2.1
  intro k
  induction k with
  | zero =>
    intro v3 s0 e1 h
    exact nso h
  | succ k ih =>
    intro v3 s0 e1 h hk H locs ls B hl
    have h : X2_fill_a16_a13_L1_b n (X2_fill_a16_a13_L1 n k) v3 s0 = some e1 := h
    unfold X2_fill_a16_a13_L1_b at h
    refine lv_iload_n hx hb dX2_fill_2 rfl (lv_at hl 3 rfl) ?_
    refine lv_aload_n hx hb dX2_fill_3 rfl (lv_at hl 0 rfl) ?_
    refine r_get C B fo_X2_32 (cX_9 G s0) rfl dX2_fill_4 ?_
    refine lv_icmp_gt (tgt := 40) hx hb dX2_fill_7 (by decide) (fun q1 => ?_) (fun q1 => ?_)
    · have h := ip h q1
      obtain rfl := ret1 h
      exact hk H locs ls B (lv_sub hl [] rfl)
    · have h := ig h q1
      refine lv_aload_n hx hb dX2_fill_10 rfl (lv_at hl 1 rfl) ?_
      refine lv_iload_n hx hb dX2_fill_11 rfl (lv_at hl 3 rfl) ?_
      refine lv_aload_n hx hb dX2_fill_12 rfl (lv_at hl 2 rfl) ?_
      refine lv_iload_n hx hb dX2_fill_13 rfl (lv_at hl 3 rfl) ?_
      obtain ⟨r3, q2, h⟩ := bd_o h
      refine r_callVi (rest := [.int v3, .ref (gad G 16)]) C B hl (c_X1_holds_13 G s0 v3 r3 q2) cs_X2_74 (cX_13 G s0) rfl rfl rfl (Nat.le_of_ble_eq_true rfl) ⟨rfl, rfl, Nat.le_of_ble_eq_true rfl, Nat.le_of_ble_eq_true rfl⟩ dX2_fill_14 (fun H locs B => ?_)
      refine lv_if_eq (tgt := 27) hx hb dX2_fill_17 (by decide) (fun q4 => ?_) (fun q4 => ?_)
      · have h := ip h q4
        refine lv_aload_n hx hb dX2_fill_27 rfl (lv_at hl 0 rfl) ?_
        refine lv_aload_n hx hb dX2_fill_28 rfl (lv_at hl 1 rfl) ?_
        refine lv_iload_n hx hb dX2_fill_29 rfl (lv_at hl 3 rfl) ?_
        obtain ⟨r6, q5, h⟩ := bd_o h
        refine r_callVi (rest := [.int v3, .ref (gad G 16)]) C B hl (c_X2_greatestWithin_a16 G n s0 v3 r6 q5) cs_X2_84 (cX_9 G s0) rfl rfl rfl (Nat.le_of_ble_eq_true rfl) ⟨rfl, rfl, Nat.le_of_ble_eq_true rfl, Nat.le_of_ble_eq_true rfl⟩ dX2_fill_30 (fun H locs B => ?_)
        obtain ⟨q7, h⟩ := gd_o h
        obtain ⟨s8, q9, h⟩ := nm_o h
        refine r_iast C B (cX_16 G s0) (inb_vp q7) ((uXa_6 G s0 _).trans (congrArg (wX G) q9.symm)) dX2_fill_33 (fun H locs B => ?_)
        obtain ⟨v3_10, q11, h⟩ := nm_o h
        refine lv_iinc (v := v3_10) (lv' := [(3, .int v3_10), (0, .ref (gad G 9)), (1, .ref (gad G 16)), (2, .ref (gad G 13))]) hx hb dX2_fill_34 hl (k := 3) rfl q11.symm (by decide) rfl (fun ls hl => ?_)
        refine lv_goto (tgt := 2) hx hb dX2_fill_37 (by decide) ?_
        exact ih v3_10 s8 e1 h hk H locs ls B (lv_sub hl [1, 2, 3, 0] rfl)
      · have h := ig h q4
        refine lv_iload_n hx hb dX2_fill_20 rfl (lv_at hl 3 rfl) ?_
        obtain ⟨r12, q13, h⟩ := bd_o h
        refine r_callSi (rest := [.int v3, .ref (gad G 16)]) C B.2.2 hl (c_J6_bitCount G v3 r12 q13) cs_X2_78 rfl rfl (Nat.le_of_ble_eq_true rfl) ⟨rfl, rfl, Nat.le_of_ble_eq_true rfl, Nat.le_of_ble_eq_true rfl⟩ dX2_fill_21 ?_
        refine lv_goto (tgt := 33) hx hb dX2_fill_24 (by decide) ?_
        obtain ⟨q14, h⟩ := gd_o h
        obtain ⟨s15, q16, h⟩ := nm_o h
        refine r_iast C B (cX_16 G s0) (inb_vp q14) ((uXa_6 G s0 _).trans (congrArg (wX G) q16.symm)) dX2_fill_33 (fun H locs B => ?_)
        obtain ⟨v3_17, q18, h⟩ := nm_o h
        refine lv_iinc (v := v3_17) (lv' := [(3, .int v3_17), (0, .ref (gad G 9)), (1, .ref (gad G 16)), (2, .ref (gad G 13))]) hx hb dX2_fill_34 hl (k := 3) rfl q18.symm (by decide) rfl (fun ls hl => ?_)
        refine lv_goto (tgt := 2) hx hb dX2_fill_37 (by decide) ?_
        exact ih v3_17 s15 e1 h hk H locs ls B (lv_sub hl [1, 2, 3, 0] rfl)
set_option maxRecDepth 100000 in
set_option maxHeartbeats 4000000 in
theorem c_X2_fill_a16_a13 (G : GT) (n : Nat) (s0 : ST)  (s' : ST) (h : X2_fill_a16_a13 n s0  = some s') : Con G yX2_fill cX2_fill 4 none rm_X2_fill_a16_a13 [.ref (gad G 9), .ref (gad G 16), .ref (gad G 13)] (wX G s0) none (wX G s') := by
  unfold X2_fill_a16_a13 at h
  refine con_of (by decide +kernel) (Nat.le_of_ble_eq_true rfl) (fun {p e s m below meth c} C hr {H locs ls} B hl => ?_)
  have hx := C.1
  have hb := C.2.1
  have hl : lv_has ls 4 [(0, .ref (gad G 9)), (1, .ref (gad G 16)), (2, .ref (gad G 13))] := hl
  refine lv_iconst (v := (0 : Int32)) hx hb dX2_fill_0 rfl ?_
  refine lv_istore_n (lv' := [(3, .int (0 : Int32)), (0, .ref (gad G 9)), (1, .ref (gad G 16)), (2, .ref (gad G 13))]) hx hb dX2_fill_1 rfl hl (by decide) rfl (fun ls hl => ?_)
  obtain ⟨e19, q20, h⟩ := bd_o h
  refine l_X2_fill_a16_a13_L1 C hr n n (0 : Int32) s0 e19 q20 ?_ H locs ls B (lv_sub hl [1, 2, 3, 0] rfl)
  intro H locs ls B hl
  obtain rfl := ret1 h
  exact r_vret C B hr dX2_fill_40
def rm_X1_begin_10 : Room := { frames := 0, cells := 0, slots := 0, locals := 0 }
set_option maxRecDepth 100000 in
set_option maxHeartbeats 4000000 in
theorem l_X1_begin_10_L1 {G : GT} {p : Program} {e : Env} {s : State} {m : MethodId} {args : Array Value} {below : List Frame} {meth : Method} {c : Code} {Q : State → Prop} (C : CT G p s m meth c args cX1_begin 2 RX1) (hr : meth.sig.returnType = none) : ∀ (k : Nat) (v1 : Int32) (s0 : ST) (e1 : ST), X1_begin_10_L1  k v1 s0 = some e1 → Kn G p e rm_X1_begin_10 s m args below meth c Q 2 27 [] (wX G e1) → Kn G p e rm_X1_begin_10 s m args below meth c Q 2 9 [(0, .ref (gad G 10)), (1, .int v1)] (wX G s0) := by
  have hx := C.1
  have hb := C.2.1
  intro k
  induction k with
  | zero =>
    intro v1 s0 e1 h
    exact nso h
  | succ k ih =>
    intro v1 s0 e1 h hk H locs ls B hl
    have h : X1_begin_10_L1_b  (X1_begin_10_L1  k) v1 s0 = some e1 := h
    unfold X1_begin_10_L1_b at h
    refine lv_iload_n hx hb dX1_begin_9 rfl (lv_at hl 1 rfl) ?_
    refine lv_iconst (v := (4 : Int32)) hx hb dX1_begin_10 rfl ?_
    refine lv_icmp_ge (tgt := 27) hx hb dX1_begin_11 (by decide) (fun q4 => ?_) (fun q4 => ?_)
    · have h := ip h q4
      obtain rfl := ret1 h
      exact hk H locs ls B (lv_sub hl [] rfl)
    · have h := ig h q4
      refine lv_aload_n hx hb dX1_begin_14 rfl (lv_at hl 0 rfl) ?_
      refine r_get C B fo_X1_11 (cX_10 G s0) rfl dX1_begin_15 ?_
      refine lv_iload_n hx hb dX1_begin_18 rfl (lv_at hl 1 rfl) ?_
      refine lv_lconst (v := (0 : Int64)) hx hb dX1_begin_19 rfl ?_
      obtain ⟨q5, h⟩ := gd_o h
      obtain ⟨s6, q7, h⟩ := nm_o h
      refine r_last C B (cX_11 G s0) (inb_vp q5) ((uXj_0 G s0 _).trans (congrArg (wX G) q7.symm)) dX1_begin_20 (fun H locs B => ?_)
      obtain ⟨v1_8, q9, h⟩ := nm_o h
      refine lv_iinc (v := v1_8) (lv' := [(1, .int v1_8), (0, .ref (gad G 10))]) hx hb dX1_begin_21 hl (k := 1) rfl q9.symm (by decide) rfl (fun ls hl => ?_)
      refine lv_goto (tgt := 9) hx hb dX1_begin_24 (by decide) ?_
      exact ih v1_8 s6 e1 h hk H locs ls B (lv_sub hl [1, 0] rfl)
set_option maxRecDepth 100000 in
set_option maxHeartbeats 4000000 in
theorem c_X1_begin_10 (G : GT) (n : Nat) (s0 : ST)  (s' : ST) (h : X1_begin_10 n s0  = some s') : Con G yX1_begin cX1_begin 2 none rm_X1_begin_10 [.ref (gad G 10)] (wX G s0) none (wX G s') := by
  unfold X1_begin_10 at h
  refine con_of (by decide +kernel) (Nat.le_of_ble_eq_true rfl) (fun {p e s m below meth c} C hr {H locs ls} B hl => ?_)
  have hx := C.1
  have hb := C.2.1
  have hl : lv_has ls 2 [(0, .ref (gad G 10))] := hl
  refine lv_aload_n hx hb dX1_begin_0 rfl (lv_at hl 0 rfl) ?_
  refine r_get C B fo_X1_11 (cX_10 G s0) rfl dX1_begin_1 ?_
  refine lv_iconst (v := (0 : Int32)) hx hb dX1_begin_4 rfl ?_
  refine lv_lconst (v := (1 : Int64)) hx hb dX1_begin_5 rfl ?_
  obtain ⟨q1, h⟩ := gd_o h
  obtain ⟨s2, q3, h⟩ := nm_o h
  refine r_last C B (cX_11 G s0) (inb_vp q1) ((uXj_0 G s0 _).trans (congrArg (wX G) q3.symm)) dX1_begin_6 (fun H locs B => ?_)
  refine lv_iconst (v := (1 : Int32)) hx hb dX1_begin_7 rfl ?_
  refine lv_istore_n (lv' := [(1, .int (1 : Int32)), (0, .ref (gad G 10))]) hx hb dX1_begin_8 rfl hl (by decide) rfl (fun ls hl => ?_)
  obtain ⟨e10, q11, h⟩ := bd_o h
  refine l_X1_begin_10_L1 C hr  n (1 : Int32) s2 e10 q11 ?_ H locs ls B (lv_sub hl [1, 0] rfl)
  intro H locs ls B hl
  obtain rfl := ret1 h
  exact r_vret C B hr dX1_begin_27
def rm_X1_spread_10 : Room := { frames := 0, cells := 0, slots := 0, locals := 0 }
set_option maxRecDepth 100000 in
set_option maxHeartbeats 4000000 in
theorem l_X1_spread_10_L1 {G : GT} {p : Program} {e : Env} {s : State} {m : MethodId} {args : Array Value} {below : List Frame} {meth : Method} {c : Code} {Q : State → Prop} (C : CT G p s m meth c args cX1_spread 4 RX1) (hr : meth.sig.returnType = none) (v2 : Int32) : ∀ (k : Nat) (v3 : Int32) (s0 : ST) (e1 : ST), X1_spread_10_L1 v2 k v3 s0 = some e1 → Kn G p e rm_X1_spread_10 s m args below meth c Q 4 90 [] (wX G e1) → Kn G p e rm_X1_spread_10 s m args below meth c Q 4 54 [(0, .ref (gad G 10)), (2, .int v2), (3, .int v3)] (wX G s0) := by
  have hx := C.1
  have hb := C.2.1
  intro k
  induction k with
  | zero =>
    intro v3 s0 e1 h
    exact nso h
  | succ k ih =>
    intro v3 s0 e1 h hk H locs ls B hl
    have h : X1_spread_10_L1_b v2 (X1_spread_10_L1 v2 k) v3 s0 = some e1 := h
    unfold X1_spread_10_L1_b at h
    refine lv_iload_n hx hb dX1_spread_54 rfl (lv_at hl 2 rfl) ?_
    refine lv_iload_n hx hb dX1_spread_55 rfl (lv_at hl 1 rfl) ?_
    refine lv_iadd hx hb dX1_spread_56 ?_
    refine lv_iconst (v := (4 : Int32)) hx hb dX1_spread_57 rfl ?_
    refine lv_icmp_ge (tgt := 90) hx hb dX1_spread_58 (by decide) (fun q4 => ?_) (fun q4 => ?_)
    · have h := ip h q4
      obtain rfl := ret1 h
      exact hk H locs ls B (lv_sub hl [] rfl)
    · have h := ig h q4
      refine lv_iload_n hx hb dX1_spread_61 rfl (lv_at hl 2 rfl) ?_
      refine lv_iload_n hx hb dX1_spread_62 rfl (lv_at hl 1 rfl) ?_
      refine lv_iand hx hb dX1_spread_63 ?_
      refine lv_if_ne (tgt := 84) hx hb dX1_spread_64 (by decide) (fun q5 => ?_) (fun q5 => ?_)
      · have h := ig h q5
        obtain ⟨v3_6, q7, h⟩ := nm_o h
        refine lv_iinc (v := v3_6) (lv' := [(3, .int v3_6), (0, .ref (gad G 10)), (2, .int v2)]) hx hb dX1_spread_84 hl (k := 2) rfl q7.symm (by decide) rfl (fun ls hl => ?_)
        refine lv_goto (tgt := 54) hx hb dX1_spread_87 (by decide) ?_
        exact ih v3_6 s0 e1 h hk H locs ls B (lv_sub hl [1, 2, 0] rfl)
      · have h := ip h q5
        refine lv_aload_n hx hb dX1_spread_67 rfl (lv_at hl 0 rfl) ?_
        refine r_get C B fo_X1_11 (cX_10 G s0) rfl dX1_spread_68 ?_
        refine lv_iload_n hx hb dX1_spread_71 rfl (lv_at hl 2 rfl) ?_
        refine lv_iload_n hx hb dX1_spread_72 rfl (lv_at hl 1 rfl) ?_
        refine lv_iadd hx hb dX1_spread_73 ?_
        refine lv_dup2_11 hx hb dX1_spread_74 rfl rfl ?_
        obtain ⟨q8, h⟩ := gd_o h
        refine r_lald C B (cX_11 G s0) (inb_vp q8) dX1_spread_75 ?_
        refine lv_aload_n hx hb dX1_spread_76 rfl (lv_at hl 0 rfl) ?_
        refine r_get C B fo_X1_15 (cX_10 G s0) rfl dX1_spread_77 ?_
        refine lv_iload_n hx hb dX1_spread_80 rfl (lv_at hl 2 rfl) ?_
        obtain ⟨q9, h⟩ := gd_o h
        refine r_lald C B (cX_12 G s0) (inb_vp q9) dX1_spread_81 ?_
        refine lv_lor hx hb dX1_spread_82 ?_
        obtain ⟨q10, h⟩ := gd_o h
        obtain ⟨s11, q12, h⟩ := nm_o h
        refine r_last C B (cX_11 G s0) (inb_vp q10) ((uXj_0 G s0 _).trans (congrArg (wX G) q12.symm)) dX1_spread_83 (fun H locs B => ?_)
        obtain ⟨v3_13, q14, h⟩ := nm_o h
        refine lv_iinc (v := v3_13) (lv' := [(3, .int v3_13), (0, .ref (gad G 10)), (2, .int v2)]) hx hb dX1_spread_84 hl (k := 2) rfl q14.symm (by decide) rfl (fun ls hl => ?_)
        refine lv_goto (tgt := 54) hx hb dX1_spread_87 (by decide) ?_
        exact ih v3_13 s11 e1 h hk H locs ls B (lv_sub hl [1, 2, 0] rfl)
set_option maxRecDepth 100000 in
set_option maxHeartbeats 4000000 in
theorem l_X1_spread_10_L2 {G : GT} {p : Program} {e : Env} {s : State} {m : MethodId} {args : Array Value} {below : List Frame} {meth : Method} {c : Code} {Q : State → Prop} (C : CT G p s m meth c args cX1_spread 4 RX1) (hr : meth.sig.returnType = none) (v1 : Int32) : ∀ (k : Nat) (v2 : Int32) (s0 : ST) (e1 : ST), X1_spread_10_L2 v1 k v2 s0 = some e1 → Kn G p e rm_X1_spread_10 s m args below meth c Q 4 44 [] (wX G e1) → Kn G p e rm_X1_spread_10 s m args below meth c Q 4 8 [(0, .ref (gad G 10)), (1, .int v1), (2, .int v2)] (wX G s0) := by
  have hx := C.1
  have hb := C.2.1
  intro k
  induction k with
  | zero =>
    intro v2 s0 e1 h
    exact nso h
  | succ k ih =>
    intro v2 s0 e1 h hk H locs ls B hl
    have h : X1_spread_10_L2_b v1 (X1_spread_10_L2 v1 k) v2 s0 = some e1 := h
    unfold X1_spread_10_L2_b at h
    refine lv_iload_n hx hb dX1_spread_8 rfl (lv_at hl 2 rfl) ?_
    refine lv_iconst (v := (4 : Int32)) hx hb dX1_spread_9 rfl ?_
    refine lv_icmp_ge (tgt := 44) hx hb dX1_spread_10 (by decide) (fun q17 => ?_) (fun q17 => ?_)
    · have h := ip h q17
      obtain rfl := ret1 h
      exact hk H locs ls B (lv_sub hl [] rfl)
    · have h := ig h q17
      refine lv_aload_n hx hb dX1_spread_13 rfl (lv_at hl 0 rfl) ?_
      refine r_get C B fo_X1_11 (cX_10 G s0) rfl dX1_spread_14 ?_
      refine lv_iload_n hx hb dX1_spread_17 rfl (lv_at hl 2 rfl) ?_
      refine lv_dup2_11 hx hb dX1_spread_18 rfl rfl ?_
      obtain ⟨q18, h⟩ := gd_o h
      refine r_lald C B (cX_11 G s0) (inb_vp q18) dX1_spread_19 ?_
      refine lv_aload_n hx hb dX1_spread_20 rfl (lv_at hl 0 rfl) ?_
      refine r_get C B fo_X1_15 (cX_10 G s0) rfl dX1_spread_21 ?_
      refine lv_iload_n hx hb dX1_spread_24 rfl (lv_at hl 2 rfl) ?_
      obtain ⟨q19, h⟩ := gd_o h
      refine r_lald C B (cX_12 G s0) (inb_vp q19) dX1_spread_25 ?_
      refine r_lack C B.2.2 dX1_spread_26 ?_
      refine lv_iload_n hx hb dX1_spread_29 rfl (lv_at hl 1 rfl) ?_
      obtain ⟨q20, h⟩ := gd_o h
      refine r_lackld C B.2.2 (inb_vp q20) dX1_spread_30 ?_
      refine lv_land hx hb dX1_spread_31 ?_
      refine lv_iconst (v := (1 : Int32)) hx hb dX1_spread_32 rfl ?_
      refine lv_iload_n hx hb dX1_spread_33 rfl (lv_at hl 1 rfl) ?_
      refine lv_ishl hx hb dX1_spread_34 ?_
      refine lv_lshl hx hb dX1_spread_35 rfl ?_
      refine lv_lor hx hb dX1_spread_36 ?_
      obtain ⟨q21, h⟩ := gd_o h
      obtain ⟨s22, q23, h⟩ := nm_o h
      refine r_last C B (cX_11 G s0) (inb_vp q21) ((uXj_0 G s0 _).trans (congrArg (wX G) q23.symm)) dX1_spread_37 (fun H locs B => ?_)
      obtain ⟨v2_24, q25, h⟩ := nm_o h
      refine lv_iinc (v := v2_24) (lv' := [(2, .int v2_24), (0, .ref (gad G 10)), (1, .int v1)]) hx hb dX1_spread_38 hl (k := 2) rfl q25.symm (by decide) rfl (fun ls hl => ?_)
      refine lv_goto (tgt := 8) hx hb dX1_spread_41 (by decide) ?_
      exact ih v2_24 s22 e1 h hk H locs ls B (lv_sub hl [1, 2, 0] rfl)
