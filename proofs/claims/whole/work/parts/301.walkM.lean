/-! WALKS (M 1): each method comes back with what its plain function says -/
def rm_X7_in : Room := { frames := 0, cells := 0, slots := 0, locals := 0 }
set_option maxRecDepth 100000 in
set_option maxHeartbeats 4000000 in
theorem c_X7_in (G : GT) (v0 : Int32) (v1 : Int32) (v2 : Int32) (r : Int32) (h : X7_in v0 v1 v2 = some r) : ConP G yX7_in cX7_in 3 (some .boolean) rm_X7_in [.int v0, .int v1, .int v2] (some (.int r)) := by
  unfold X7_in at h
  refine conP_of (by decide +kernel) (Nat.le_of_ble_eq_true rfl) (fun {p e s m below meth c} C hr {ls} hl => ?_)
  have hx := C.1
  have hb := C.2.1
  have hl : lv_has ls 3 [(0, .int v0), (1, .int v1), (2, .int v2)] := hl
  refine lv_iload_n hx hb dX7_in_0 rfl (lv_at hl 0 rfl) ?_
  refine lv_iload_n hx hb dX7_in_1 rfl (lv_at hl 1 rfl) ?_
  refine lv_icmp_lt (tgt := 14) hx hb dX7_in_2 (by decide) (fun q1 => ?_) (fun q1 => ?_)
  · have h := ip h q1
    refine lv_iconst (v := (0 : Int32)) hx hb dX7_in_14 rfl ?_
    obtain rfl := ret1 h
    exact r_iretP C hr nar_0 dX7_in_15
  · have h := ig h q1
    refine lv_iload_n hx hb dX7_in_5 rfl (lv_at hl 0 rfl) ?_
    refine lv_iload_n hx hb dX7_in_6 rfl (lv_at hl 2 rfl) ?_
    refine lv_icmp_gt (tgt := 14) hx hb dX7_in_7 (by decide) (fun q2 => ?_) (fun q2 => ?_)
    · have h := ip h q2
      refine lv_iconst (v := (0 : Int32)) hx hb dX7_in_14 rfl ?_
      obtain rfl := ret1 h
      exact r_iretP C hr nar_0 dX7_in_15
    · have h := ig h q2
      refine lv_iconst (v := (1 : Int32)) hx hb dX7_in_10 rfl ?_
      refine lv_goto (tgt := 15) hx hb dX7_in_11 (by decide) ?_
      obtain rfl := ret1 h
      exact r_iretP C hr nar_1 dX7_in_15
def rm_X7_begins : Room := { frames := 0, cells := 0, slots := 0, locals := 0 }
set_option maxRecDepth 100000 in
set_option maxHeartbeats 4000000 in
theorem l_X7_begins_L1 {G : GT} {p : Program} {e : Env} {s : State} {m : MethodId} {args : Array Value} {below : List Frame} {meth : Method} {c : Code} {Q : State → Prop} (C : CT G p s m meth c args cX7_begins 3 RX7) (hr : meth.sig.returnType = none) : ∀ (k : Nat) (v2 : Int32) (s0 : ST) (e1 : ST), X7_begins_L1  k v2 s0 = some e1 → Kn G p e rm_X7_begins s m args below meth c Q 3 43 [] (wM G e1) → Kn G p e rm_X7_begins s m args below meth c Q 3 17 [(0, .ref (gad G 0)), (2, .int v2)] (wM G s0) := by
  have hx := C.1
  have hb := C.2.1
  intro k
  induction k with
  | zero =>
    intro v2 s0 e1 h
    exact nso h
  | succ k ih =>
    intro v2 s0 e1 h hk H locs ls B hl
    have h : X7_begins_L1_b  (X7_begins_L1  k) v2 s0 = some e1 := h
    unfold X7_begins_L1_b at h
    refine lv_iload_n hx hb dX7_begins_17 rfl (lv_at hl 1 rfl) ?_
    refine lv_bipush (v := (8 : Int32)) hx hb dX7_begins_18 rfl ?_
    refine lv_icmp_ge (tgt := 43) hx hb dX7_begins_20 (by decide) (fun q7 => ?_) (fun q7 => ?_)
    · have h := ip h q7
      obtain rfl := ret1 h
      exact hk H locs ls B (lv_sub hl [] rfl)
    · have h := ig h q7
      refine lv_aload_n hx hb dX7_begins_23 rfl (lv_at hl 0 rfl) ?_
      refine r_get C B fo_X7_13 (cM_0 G s0) rfl dX7_begins_24 ?_
      refine lv_iload_n hx hb dX7_begins_27 rfl (lv_at hl 1 rfl) ?_
      refine lv_iconst (v := (0 : Int32)) hx hb dX7_begins_28 rfl ?_
      obtain ⟨q8, h⟩ := gd_o h
      obtain ⟨s9, q10, h⟩ := nm_o h
      refine r_iast C B (cM_1 G s0) (inb_vp q8) ((uMa_0 G s0 _).trans (congrArg (wM G) q10.symm)) dX7_begins_29 (fun H locs B => ?_)
      refine lv_aload_n hx hb dX7_begins_30 rfl (lv_at hl 0 rfl) ?_
      refine r_get C B fo_X7_17 (cM_0 G s9) rfl dX7_begins_31 ?_
      refine lv_iload_n hx hb dX7_begins_34 rfl (lv_at hl 1 rfl) ?_
      refine lv_iconst (v := (0 : Int32)) hx hb dX7_begins_35 rfl ?_
      obtain ⟨q11, h⟩ := gd_o h
      obtain ⟨s12, q13, h⟩ := nm_o h
      refine r_iast C B (cM_2 G s9) (inb_vp q11) ((uMa_1 G s9 _).trans (congrArg (wM G) q13.symm)) dX7_begins_36 (fun H locs B => ?_)
      obtain ⟨v2_14, q15, h⟩ := nm_o h
      refine lv_iinc (v := v2_14) (lv' := [(2, .int v2_14), (0, .ref (gad G 0))]) hx hb dX7_begins_37 hl (k := 1) rfl q15.symm (by decide) rfl (fun ls hl => ?_)
      refine lv_goto (tgt := 17) hx hb dX7_begins_40 (by decide) ?_
      exact ih v2_14 s12 e1 h hk H locs ls B (lv_sub hl [1, 0] rfl)
set_option maxRecDepth 100000 in
set_option maxHeartbeats 4000000 in
theorem c_X7_begins (G : GT) (n : Nat) (s0 : ST) (v1 : Int32) (s' : ST) (h : X7_begins n s0 v1 = some s') : Con G yX7_begins cX7_begins 3 none rm_X7_begins [.ref (gad G 0), .int v1] (wM G s0) none (wM G s') := by
  unfold X7_begins at h
  refine con_of (by decide +kernel) (Nat.le_of_ble_eq_true rfl) (fun {p e s m below meth c} C hr {H locs ls} B hl => ?_)
  have hx := C.1
  have hb := C.2.1
  have hl : lv_has ls 3 [(0, .ref (gad G 0)), (1, .int v1)] := hl
  refine lv_aload_n hx hb dX7_begins_0 rfl (lv_at hl 0 rfl) ?_
  refine lv_iload_n hx hb dX7_begins_1 rfl (lv_at hl 1 rfl) ?_
  obtain ⟨s1, q2, h⟩ := nm_o h
  refine r_put C B fp_X7_7 (cM_0 G s0) (Nat.le_of_ble_eq_true rfl) rfl rfl ((uMs_0 G s0 _).trans (congrArg (wM G) q2.symm)) dX7_begins_2 (fun H locs B => ?_)
  refine lv_aload_n hx hb dX7_begins_5 rfl (lv_at hl 0 rfl) ?_
  refine lv_iconst (v := (0 : Int32)) hx hb dX7_begins_6 rfl ?_
  obtain ⟨s3, q4, h⟩ := nm_o h
  refine r_put C B fp_X7_74 (cM_0 G s1) (Nat.le_of_ble_eq_true rfl) rfl rfl ((uMs_1 G s1 _).trans (congrArg (wM G) q4.symm)) dX7_begins_7 (fun H locs B => ?_)
  refine lv_aload_n hx hb dX7_begins_10 rfl (lv_at hl 0 rfl) ?_
  refine lv_iconst (v := (0 : Int32)) hx hb dX7_begins_11 rfl ?_
  obtain ⟨s5, q6, h⟩ := nm_o h
  refine r_put C B fp_X7_71 (cM_0 G s3) (Nat.le_of_ble_eq_true rfl) rfl rfl ((uMs_2 G s3 _).trans (congrArg (wM G) q6.symm)) dX7_begins_12 (fun H locs B => ?_)
  refine lv_iconst (v := (0 : Int32)) hx hb dX7_begins_15 rfl ?_
  refine lv_istore_n (lv' := [(2, .int (0 : Int32)), (0, .ref (gad G 0)), (1, .int v1)]) hx hb dX7_begins_16 rfl hl (by decide) rfl (fun ls hl => ?_)
  obtain ⟨e16, q17, h⟩ := bd_o h
  refine l_X7_begins_L1 C hr  n (0 : Int32) s5 e16 q17 ?_ H locs ls B (lv_sub hl [1, 0] rfl)
  intro H locs ls B hl
  obtain rfl := ret1 h
  exact r_vret C B hr dX7_begins_43
def rm_X7_posts : Room := { frames := 1, cells := 0, slots := 0, locals := 22 }
set_option maxRecDepth 100000 in
set_option maxHeartbeats 4000000 in
theorem c_X7_posts (G : GT) (n : Nat) (s0 : ST) (v1 : Int32) (r : Int32) (s' : ST) (h : X7_posts n s0 v1 = some (r, s')) : Con G yX7_posts cX7_posts 3 (some .int) rm_X7_posts [.ref (gad G 0), .int v1] (wM G s0) (some (.int r)) (wM G s') := by
  unfold X7_posts at h
  refine con_of (by decide +kernel) (Nat.le_of_ble_eq_true rfl) (fun {p e s m below meth c} C hr {H locs ls} B hl => ?_)
  have hx := C.1
  have hb := C.2.1
  have hl : lv_has ls 3 [(0, .ref (gad G 0)), (1, .int v1)] := hl
  refine lv_iload_n hx hb dX7_posts_0 rfl (lv_at hl 1 rfl) ?_
  refine lv_iconst (v := (1 : Int32)) hx hb dX7_posts_1 rfl ?_
  refine lv_bipush (v := (8 : Int32)) hx hb dX7_posts_2 rfl ?_
  obtain ⟨r1, q2, h⟩ := bd_o h
  refine r_callSi (rest := []) C B.2.2 hl (c_X7_in G v1 (1 : Int32) (8 : Int32) r1 q2) cs_X7_63 rfl rfl (Nat.le_of_ble_eq_true rfl) ⟨rfl, rfl, Nat.le_of_ble_eq_true rfl, Nat.le_of_ble_eq_true rfl⟩ dX7_posts_4 ?_
  refine lv_if_ne (tgt := 13) hx hb dX7_posts_7 (by decide) (fun q3 => ?_) (fun q3 => ?_)
  · have h := ig h q3
    refine lv_aload_n hx hb dX7_posts_13 rfl (lv_at hl 0 rfl) ?_
    refine r_get C B fo_X7_7 (cM_0 G s0) rfl dX7_posts_14 ?_
    obtain ⟨v2_4, q5, h⟩ := nm_o h
    refine r_nm q5 ?_
    refine lv_istore_n (lv' := [(2, .int v2_4), (0, .ref (gad G 0)), (1, .int v1)]) hx hb dX7_posts_17 rfl hl (by decide) rfl (fun ls hl => ?_)
    refine lv_aload_n hx hb dX7_posts_18 rfl (lv_at hl 1 rfl) ?_
    refine lv_iload_n hx hb dX7_posts_19 rfl (lv_at hl 2 rfl) ?_
    obtain ⟨s7, q6, h⟩ := bd_o h
    refine r_callVv (rest := []) C B hl (c_X7_begins G n s0 v1 s7 q6) cs_X7_116 (cM_0 G s0) rfl rfl rfl (Nat.le_of_ble_eq_true rfl) ⟨rfl, rfl, Nat.le_of_ble_eq_true rfl, Nat.le_of_ble_eq_true rfl⟩ dX7_posts_20 (fun H locs B => ?_)
    refine lv_iload_n hx hb dX7_posts_23 rfl (lv_at hl 0 rfl) ?_
    obtain ⟨rfl, rfl⟩ := ret2 h
    exact r_iret C B hr rfl dX7_posts_24
  · have h := ip h q3
    refine lv_bipush (v := (-2 : Int32)) hx hb dX7_posts_10 rfl ?_
    obtain ⟨rfl, rfl⟩ := ret2 h
    exact r_iret C B hr rfl dX7_posts_12
def rm_X7_isPost : Room := { frames := 1, cells := 0, slots := 0, locals := 22 }
set_option maxRecDepth 100000 in
set_option maxHeartbeats 4000000 in
theorem c_X7_isPost (G : GT) (s0 : ST) (v1 : Int32) (r : Int32) (h : X7_isPost s0 v1 = some r) : Con G yX7_isPost cX7_isPost 2 (some .boolean) rm_X7_isPost [.ref (gad G 0), .int v1] (wM G s0) (some (.int r)) (wM G s0) := by
  unfold X7_isPost at h
  refine con_of (by decide +kernel) (Nat.le_of_ble_eq_true rfl) (fun {p e s m below meth c} C hr {H locs ls} B hl => ?_)
  have hx := C.1
  have hb := C.2.1
  have hl : lv_has ls 2 [(0, .ref (gad G 0)), (1, .int v1)] := hl
  refine lv_iload_n hx hb dX7_isPost_0 rfl (lv_at hl 1 rfl) ?_
  refine lv_iconst (v := (0 : Int32)) hx hb dX7_isPost_1 rfl ?_
  refine lv_aload_n hx hb dX7_isPost_2 rfl (lv_at hl 0 rfl) ?_
  refine r_get C B fo_X7_7 (cM_0 G s0) rfl dX7_isPost_3 ?_
  refine lv_iconst (v := (1 : Int32)) hx hb dX7_isPost_6 rfl ?_
  refine lv_isub hx hb dX7_isPost_7 ?_
  obtain ⟨r1, q2, h⟩ := bd_o h
  refine r_callSi (rest := []) C B.2.2 hl (c_X7_in G v1 (0 : Int32) ((s0.1 0) - (1 : Int32)) r1 q2) cs_X7_63 rfl rfl (Nat.le_of_ble_eq_true rfl) ⟨rfl, rfl, Nat.le_of_ble_eq_true rfl, Nat.le_of_ble_eq_true rfl⟩ dX7_isPost_8 ?_
  obtain ⟨q3, h⟩ := gd_o h
  obtain rfl := ret1 h
  exact r_iret C B hr (bz_nar q3) dX7_isPost_11
def rm_X7_road : Room := { frames := 2, cells := 0, slots := 0, locals := 43 }
set_option maxRecDepth 100000 in
set_option maxHeartbeats 4000000 in
theorem c_X7_road (G : GT) (s0 : ST) (v1 : Int32) (v2 : Int32) (v3 : Int32) (r : Int32) (s' : ST) (h : X7_road s0 v1 v2 v3 = some (r, s')) : Con G yX7_road cX7_road 5 (some .int) rm_X7_road [.ref (gad G 0), .int v1, .int v2, .int v3] (wM G s0) (some (.int r)) (wM G s') := by
  unfold X7_road at h
  refine con_of (by decide +kernel) (Nat.le_of_ble_eq_true rfl) (fun {p e s m below meth c} C hr {H locs ls} B hl => ?_)
  have hx := C.1
  have hb := C.2.1
  have hl : lv_has ls 5 [(0, .ref (gad G 0)), (1, .int v1), (2, .int v2), (3, .int v3)] := hl
  refine lv_aload_n hx hb dX7_road_0 rfl (lv_at hl 0 rfl) ?_
  refine lv_iload_n hx hb dX7_road_1 rfl (lv_at hl 1 rfl) ?_
  obtain ⟨r2, q1, h⟩ := bd_o h
  refine r_callVi (rest := []) C B hl (c_X7_isPost G s0 v1 r2 q1) cs_X7_119 (cM_0 G s0) rfl rfl rfl (Nat.le_of_ble_eq_true rfl) ⟨rfl, rfl, Nat.le_of_ble_eq_true rfl, Nat.le_of_ble_eq_true rfl⟩ dX7_road_2 (fun H locs B => ?_)
  refine lv_if_eq (tgt := 16) hx hb dX7_road_5 (by decide) (fun q3 => ?_) (fun q3 => ?_)
  · have h := ip h q3
    refine lv_iconst (v := (-1 : Int32)) hx hb dX7_road_16 rfl ?_
    obtain ⟨rfl, rfl⟩ := ret2 h
    exact r_iret C B hr rfl dX7_road_17
  · have h := ig h q3
    refine lv_aload_n hx hb dX7_road_8 rfl (lv_at hl 0 rfl) ?_
    refine lv_iload_n hx hb dX7_road_9 rfl (lv_at hl 2 rfl) ?_
    obtain ⟨r5, q4, h⟩ := bd_o h
    refine r_callVi (rest := []) C B hl (c_X7_isPost G s0 v2 r5 q4) cs_X7_119 (cM_0 G s0) rfl rfl rfl (Nat.le_of_ble_eq_true rfl) ⟨rfl, rfl, Nat.le_of_ble_eq_true rfl, Nat.le_of_ble_eq_true rfl⟩ dX7_road_10 (fun H locs B => ?_)
    refine lv_if_ne (tgt := 18) hx hb dX7_road_13 (by decide) (fun q6 => ?_) (fun q6 => ?_)
    · have h := ig h q6
      refine lv_iload_n hx hb dX7_road_18 rfl (lv_at hl 3 rfl) ?_
      refine lv_iconst (v := (0 : Int32)) hx hb dX7_road_19 rfl ?_
      refine lv_iconst (v := (1 : Int32)) hx hb dX7_road_20 rfl ?_
      obtain ⟨r7, q8, h⟩ := bd_o h
      refine r_callSi (rest := []) C B.2.2 hl (c_X7_in G v3 (0 : Int32) (1 : Int32) r7 q8) cs_X7_63 rfl rfl (Nat.le_of_ble_eq_true rfl) ⟨rfl, rfl, Nat.le_of_ble_eq_true rfl, Nat.le_of_ble_eq_true rfl⟩ dX7_road_21 ?_
      refine lv_if_ne (tgt := 30) hx hb dX7_road_24 (by decide) (fun q9 => ?_) (fun q9 => ?_)
      · have h := ig h q9
        refine lv_iload_n hx hb dX7_road_30 rfl (lv_at hl 1 rfl) ?_
        refine lv_iload_n hx hb dX7_road_31 rfl (lv_at hl 2 rfl) ?_
        refine lv_icmp_ne (tgt := 38) hx hb dX7_road_32 (by decide) (fun q10 => ?_) (fun q10 => ?_)
        · have h := ig h q10
          refine lv_aload_n hx hb dX7_road_38 rfl (lv_at hl 0 rfl) ?_
          refine r_get C B fo_X7_13 (cM_0 G s0) rfl dX7_road_39 ?_
          refine lv_iload_n hx hb dX7_road_42 rfl (lv_at hl 1 rfl) ?_
          obtain ⟨q11, h⟩ := gd_o h
          refine r_iald C B (cM_1 G s0) (inb_vp q11) dX7_road_43 ?_
          refine lv_iload_n hx hb dX7_road_44 rfl (lv_at hl 2 rfl) ?_
          refine lv_ishr hx hb dX7_road_45 ?_
          refine lv_iconst (v := (1 : Int32)) hx hb dX7_road_46 rfl ?_
          refine lv_iand hx hb dX7_road_47 ?_
          obtain ⟨v4_12, q13, h⟩ := nm_o h
          refine r_nm q13 ?_
          refine lv_istore (lv' := [(4, .int v4_12), (0, .ref (gad G 0)), (1, .int v1), (2, .int v2), (3, .int v3)]) hx hb dX7_road_48 hl (by decide) rfl (fun ls hl => ?_)
          refine lv_aload_n hx hb dX7_road_50 rfl (lv_at hl 1 rfl) ?_
          refine r_get C B fo_X7_13 (cM_0 G s0) rfl dX7_road_51 ?_
          refine lv_iload_n hx hb dX7_road_54 rfl (lv_at hl 2 rfl) ?_
          refine lv_aload_n hx hb dX7_road_55 rfl (lv_at hl 1 rfl) ?_
          refine r_get C B fo_X7_13 (cM_0 G s0) rfl dX7_road_56 ?_
          refine lv_iload_n hx hb dX7_road_59 rfl (lv_at hl 2 rfl) ?_
          obtain ⟨q14, h⟩ := gd_o h
          refine r_iald C B (cM_1 G s0) (inb_vp q14) dX7_road_60 ?_
          refine lv_iconst (v := (1 : Int32)) hx hb dX7_road_61 rfl ?_
          refine lv_iload_n hx hb dX7_road_62 rfl (lv_at hl 3 rfl) ?_
          refine lv_ishl hx hb dX7_road_63 ?_
          refine lv_iconst (v := (-1 : Int32)) hx hb dX7_road_64 rfl ?_
          refine lv_ixor hx hb dX7_road_65 ?_
          refine lv_iand hx hb dX7_road_66 ?_
          refine lv_iload_n hx hb dX7_road_67 rfl (lv_at hl 4 rfl) ?_
          refine lv_iload_n hx hb dX7_road_68 rfl (lv_at hl 3 rfl) ?_
          refine lv_ishl hx hb dX7_road_69 ?_
          refine lv_ior hx hb dX7_road_70 ?_
          obtain ⟨q15, h⟩ := gd_o h
          obtain ⟨s16, q17, h⟩ := nm_o h
          refine r_iast C B (cM_1 G s0) (inb_vp q15) ((uMa_0 G s0 _).trans (congrArg (wM G) q17.symm)) dX7_road_71 (fun H locs B => ?_)
          refine lv_iload hx hb dX7_road_72 (lv_at hl 0 rfl) ?_
          obtain ⟨rfl, rfl⟩ := ret2 h
          exact r_iret C B hr rfl dX7_road_74
        · have h := ip h q10
          refine lv_bipush (v := (-3 : Int32)) hx hb dX7_road_35 rfl ?_
          obtain ⟨rfl, rfl⟩ := ret2 h
          exact r_iret C B hr rfl dX7_road_37
      · have h := ip h q9
        refine lv_bipush (v := (-2 : Int32)) hx hb dX7_road_27 rfl ?_
        obtain ⟨rfl, rfl⟩ := ret2 h
        exact r_iret C B hr rfl dX7_road_29
    · have h := ip h q6
      refine lv_iconst (v := (-1 : Int32)) hx hb dX7_road_16 rfl ?_
      obtain ⟨rfl, rfl⟩ := ret2 h
      exact r_iret C B hr rfl dX7_road_17
def rm_X7_isRoad : Room := { frames := 2, cells := 0, slots := 0, locals := 43 }
set_option maxRecDepth 100000 in
set_option maxHeartbeats 4000000 in
theorem c_X7_isRoad (G : GT) (s0 : ST) (v1 : Int32) (v2 : Int32) (r : Int32) (h : X7_isRoad s0 v1 v2 = some r) : Con G yX7_isRoad cX7_isRoad 3 (some .int) rm_X7_isRoad [.ref (gad G 0), .int v1, .int v2] (wM G s0) (some (.int r)) (wM G s0) := by
  unfold X7_isRoad at h
  refine con_of (by decide +kernel) (Nat.le_of_ble_eq_true rfl) (fun {p e s m below meth c} C hr {H locs ls} B hl => ?_)
  have hx := C.1
  have hb := C.2.1
  have hl : lv_has ls 3 [(0, .ref (gad G 0)), (1, .int v1), (2, .int v2)] := hl
  refine lv_aload_n hx hb dX7_isRoad_0 rfl (lv_at hl 0 rfl) ?_
  refine lv_iload_n hx hb dX7_isRoad_1 rfl (lv_at hl 1 rfl) ?_
  obtain ⟨r2, q1, h⟩ := bd_o h
  refine r_callVi (rest := []) C B hl (c_X7_isPost G s0 v1 r2 q1) cs_X7_119 (cM_0 G s0) rfl rfl rfl (Nat.le_of_ble_eq_true rfl) ⟨rfl, rfl, Nat.le_of_ble_eq_true rfl, Nat.le_of_ble_eq_true rfl⟩ dX7_isRoad_2 (fun H locs B => ?_)
  refine lv_if_eq (tgt := 29) hx hb dX7_isRoad_5 (by decide) (fun q3 => ?_) (fun q3 => ?_)
  · have h := ip h q3
    refine lv_iconst (v := (-1 : Int32)) hx hb dX7_isRoad_29 rfl ?_
    obtain rfl := ret1 h
    exact r_iret C B hr rfl dX7_isRoad_30
  · have h := ig h q3
    refine lv_aload_n hx hb dX7_isRoad_8 rfl (lv_at hl 0 rfl) ?_
    refine lv_iload_n hx hb dX7_isRoad_9 rfl (lv_at hl 2 rfl) ?_
    obtain ⟨r5, q4, h⟩ := bd_o h
    refine r_callVi (rest := []) C B hl (c_X7_isPost G s0 v2 r5 q4) cs_X7_119 (cM_0 G s0) rfl rfl rfl (Nat.le_of_ble_eq_true rfl) ⟨rfl, rfl, Nat.le_of_ble_eq_true rfl, Nat.le_of_ble_eq_true rfl⟩ dX7_isRoad_10 (fun H locs B => ?_)
    refine lv_if_eq (tgt := 29) hx hb dX7_isRoad_13 (by decide) (fun q6 => ?_) (fun q6 => ?_)
    · have h := ip h q6
      refine lv_iconst (v := (-1 : Int32)) hx hb dX7_isRoad_29 rfl ?_
      obtain rfl := ret1 h
      exact r_iret C B hr rfl dX7_isRoad_30
    · have h := ig h q6
      refine lv_aload_n hx hb dX7_isRoad_16 rfl (lv_at hl 0 rfl) ?_
      refine r_get C B fo_X7_13 (cM_0 G s0) rfl dX7_isRoad_17 ?_
      refine lv_iload_n hx hb dX7_isRoad_20 rfl (lv_at hl 1 rfl) ?_
      obtain ⟨q7, h⟩ := gd_o h
      refine r_iald C B (cM_1 G s0) (inb_vp q7) dX7_isRoad_21 ?_
      refine lv_iload_n hx hb dX7_isRoad_22 rfl (lv_at hl 2 rfl) ?_
      refine lv_ishr hx hb dX7_isRoad_23 ?_
      refine lv_iconst (v := (1 : Int32)) hx hb dX7_isRoad_24 rfl ?_
      refine lv_iand hx hb dX7_isRoad_25 ?_
      refine lv_goto (tgt := 30) hx hb dX7_isRoad_26 (by decide) ?_
      obtain rfl := ret1 h
      exact r_iret C B hr rfl dX7_isRoad_30
def rm_X7_all : Room := { frames := 0, cells := 0, slots := 0, locals := 0 }
set_option maxRecDepth 100000 in
set_option maxHeartbeats 4000000 in
theorem c_X7_all (G : GT) (s0 : ST)  (r : Int32) (h : X7_all s0  = some r) : Con G yX7_all cX7_all 1 (some .int) rm_X7_all [.ref (gad G 0)] (wM G s0) (some (.int r)) (wM G s0) := by
  unfold X7_all at h
  refine con_of (by decide +kernel) (Nat.le_of_ble_eq_true rfl) (fun {p e s m below meth c} C hr {H locs ls} B hl => ?_)
  have hx := C.1
  have hb := C.2.1
  have hl : lv_has ls 1 [(0, .ref (gad G 0))] := hl
  refine lv_iconst (v := (1 : Int32)) hx hb dX7_all_0 rfl ?_
  refine lv_aload_n hx hb dX7_all_1 rfl (lv_at hl 0 rfl) ?_
  refine r_get C B fo_X7_7 (cM_0 G s0) rfl dX7_all_2 ?_
  refine lv_ishl hx hb dX7_all_5 ?_
  refine lv_iconst (v := (1 : Int32)) hx hb dX7_all_6 rfl ?_
  refine lv_isub hx hb dX7_all_7 ?_
  obtain rfl := ret1 h
  exact r_iret C B hr rfl dX7_all_8
def rm_X7_isSet : Room := { frames := 1, cells := 0, slots := 0, locals := 22 }
set_option maxRecDepth 100000 in
set_option maxHeartbeats 4000000 in
theorem c_X7_isSet (G : GT) (s0 : ST) (v1 : Int32) (r : Int32) (h : X7_isSet s0 v1 = some r) : Con G yX7_isSet cX7_isSet 2 (some .boolean) rm_X7_isSet [.ref (gad G 0), .int v1] (wM G s0) (some (.int r)) (wM G s0) := by
  unfold X7_isSet at h
  refine con_of (by decide +kernel) (Nat.le_of_ble_eq_true rfl) (fun {p e s m below meth c} C hr {H locs ls} B hl => ?_)
  have hx := C.1
  have hb := C.2.1
  have hl : lv_has ls 2 [(0, .ref (gad G 0)), (1, .int v1)] := hl
  refine lv_iload_n hx hb dX7_isSet_0 rfl (lv_at hl 1 rfl) ?_
  refine lv_iconst (v := (0 : Int32)) hx hb dX7_isSet_1 rfl ?_
  refine lv_aload_n hx hb dX7_isSet_2 rfl (lv_at hl 0 rfl) ?_
  obtain ⟨r2, q1, h⟩ := bd_o h
  refine r_callVi (rest := [.int (0 : Int32), .int v1]) C B hl (c_X7_all G s0 r2 q1) cs_X7_67 (cM_0 G s0) rfl rfl rfl (Nat.le_of_ble_eq_true rfl) ⟨rfl, rfl, Nat.le_of_ble_eq_true rfl, Nat.le_of_ble_eq_true rfl⟩ dX7_isSet_3 (fun H locs B => ?_)
  obtain ⟨r3, q4, h⟩ := bd_o h
  refine r_callSi (rest := []) C B.2.2 hl (c_X7_in G v1 (0 : Int32) r2 r3 q4) cs_X7_63 rfl rfl (Nat.le_of_ble_eq_true rfl) ⟨rfl, rfl, Nat.le_of_ble_eq_true rfl, Nat.le_of_ble_eq_true rfl⟩ dX7_isSet_6 ?_
  obtain ⟨q5, h⟩ := gd_o h
  obtain rfl := ret1 h
  exact r_iret C B hr (bz_nar q5) dX7_isSet_9
def rm_X7_targets : Room := { frames := 2, cells := 0, slots := 0, locals := 43 }
set_option maxRecDepth 100000 in
set_option maxHeartbeats 4000000 in
theorem c_X7_targets (G : GT) (s0 : ST) (v1 : Int32) (r : Int32) (s' : ST) (h : X7_targets s0 v1 = some (r, s')) : Con G yX7_targets cX7_targets 3 (some .int) rm_X7_targets [.ref (gad G 0), .int v1] (wM G s0) (some (.int r)) (wM G s') := by
  unfold X7_targets at h
  refine con_of (by decide +kernel) (Nat.le_of_ble_eq_true rfl) (fun {p e s m below meth c} C hr {H locs ls} B hl => ?_)
  have hx := C.1
  have hb := C.2.1
  have hl : lv_has ls 3 [(0, .ref (gad G 0)), (1, .int v1)] := hl
  refine lv_aload_n hx hb dX7_targets_0 rfl (lv_at hl 0 rfl) ?_
  refine lv_iload_n hx hb dX7_targets_1 rfl (lv_at hl 1 rfl) ?_
  obtain ⟨r2, q1, h⟩ := bd_o h
  refine r_callVi (rest := []) C B hl (c_X7_isSet G s0 v1 r2 q1) cs_X7_122 (cM_0 G s0) rfl rfl rfl (Nat.le_of_ble_eq_true rfl) ⟨rfl, rfl, Nat.le_of_ble_eq_true rfl, Nat.le_of_ble_eq_true rfl⟩ dX7_targets_2 (fun H locs B => ?_)
  refine lv_if_ne (tgt := 11) hx hb dX7_targets_5 (by decide) (fun q3 => ?_) (fun q3 => ?_)
  · have h := ig h q3
    refine lv_aload_n hx hb dX7_targets_11 rfl (lv_at hl 0 rfl) ?_
    refine r_get C B fo_X7_74 (cM_0 G s0) rfl dX7_targets_12 ?_
    obtain ⟨v2_4, q5, h⟩ := nm_o h
    refine r_nm q5 ?_
    refine lv_istore_n (lv' := [(2, .int v2_4), (0, .ref (gad G 0)), (1, .int v1)]) hx hb dX7_targets_15 rfl hl (by decide) rfl (fun ls hl => ?_)
    refine lv_aload_n hx hb dX7_targets_16 rfl (lv_at hl 1 rfl) ?_
    refine lv_iload_n hx hb dX7_targets_17 rfl (lv_at hl 2 rfl) ?_
    obtain ⟨s6, q7, h⟩ := nm_o h
    refine r_put C B fp_X7_74 (cM_0 G s0) (Nat.le_of_ble_eq_true rfl) rfl rfl ((uMs_1 G s0 _).trans (congrArg (wM G) q7.symm)) dX7_targets_18 (fun H locs B => ?_)
    refine lv_iload_n hx hb dX7_targets_21 rfl (lv_at hl 0 rfl) ?_
    obtain ⟨rfl, rfl⟩ := ret2 h
    exact r_iret C B hr rfl dX7_targets_22
  · have h := ip h q3
    refine lv_bipush (v := (-2 : Int32)) hx hb dX7_targets_8 rfl ?_
    obtain ⟨rfl, rfl⟩ := ret2 h
    exact r_iret C B hr rfl dX7_targets_10
def rm_X7_weigh : Room := { frames := 2, cells := 0, slots := 0, locals := 43 }
set_option maxRecDepth 100000 in
set_option maxHeartbeats 4000000 in
theorem c_X7_weigh (G : GT) (s0 : ST) (v1 : Int32) (v2 : Int32) (r : Int32) (s' : ST) (h : X7_weigh s0 v1 v2 = some (r, s')) : Con G yX7_weigh cX7_weigh 4 (some .int) rm_X7_weigh [.ref (gad G 0), .int v1, .int v2] (wM G s0) (some (.int r)) (wM G s') := by
  unfold X7_weigh at h
  refine con_of (by decide +kernel) (Nat.le_of_ble_eq_true rfl) (fun {p e s m below meth c} C hr {H locs ls} B hl => ?_)
  have hx := C.1
  have hb := C.2.1
  have hl : lv_has ls 4 [(0, .ref (gad G 0)), (1, .int v1), (2, .int v2)] := hl
  refine lv_aload_n hx hb dX7_weigh_0 rfl (lv_at hl 0 rfl) ?_
  refine lv_iload_n hx hb dX7_weigh_1 rfl (lv_at hl 1 rfl) ?_
  obtain ⟨r2, q1, h⟩ := bd_o h
  refine r_callVi (rest := []) C B hl (c_X7_isPost G s0 v1 r2 q1) cs_X7_119 (cM_0 G s0) rfl rfl rfl (Nat.le_of_ble_eq_true rfl) ⟨rfl, rfl, Nat.le_of_ble_eq_true rfl, Nat.le_of_ble_eq_true rfl⟩ dX7_weigh_2 (fun H locs B => ?_)
  refine lv_if_ne (tgt := 10) hx hb dX7_weigh_5 (by decide) (fun q3 => ?_) (fun q3 => ?_)
  · have h := ig h q3
    refine lv_iload_n hx hb dX7_weigh_10 rfl (lv_at hl 2 rfl) ?_
    refine lv_iconst (v := (0 : Int32)) hx hb dX7_weigh_11 rfl ?_
    refine lv_bipush (v := (99 : Int32)) hx hb dX7_weigh_12 rfl ?_
    obtain ⟨r4, q5, h⟩ := bd_o h
    refine r_callSi (rest := []) C B.2.2 hl (c_X7_in G v2 (0 : Int32) (99 : Int32) r4 q5) cs_X7_63 rfl rfl (Nat.le_of_ble_eq_true rfl) ⟨rfl, rfl, Nat.le_of_ble_eq_true rfl, Nat.le_of_ble_eq_true rfl⟩ dX7_weigh_14 ?_
    refine lv_if_ne (tgt := 23) hx hb dX7_weigh_17 (by decide) (fun q6 => ?_) (fun q6 => ?_)
    · have h := ig h q6
      refine lv_aload_n hx hb dX7_weigh_23 rfl (lv_at hl 0 rfl) ?_
      refine r_get C B fo_X7_17 (cM_0 G s0) rfl dX7_weigh_24 ?_
      refine lv_iload_n hx hb dX7_weigh_27 rfl (lv_at hl 1 rfl) ?_
      obtain ⟨q7, h⟩ := gd_o h
      refine r_iald C B (cM_2 G s0) (inb_vp q7) dX7_weigh_28 ?_
      obtain ⟨v3_8, q9, h⟩ := nm_o h
      refine r_nm q9 ?_
      refine lv_istore_n (lv' := [(3, .int v3_8), (0, .ref (gad G 0)), (1, .int v1), (2, .int v2)]) hx hb dX7_weigh_29 rfl hl (by decide) rfl (fun ls hl => ?_)
      refine lv_aload_n hx hb dX7_weigh_30 rfl (lv_at hl 1 rfl) ?_
      refine r_get C B fo_X7_17 (cM_0 G s0) rfl dX7_weigh_31 ?_
      refine lv_iload_n hx hb dX7_weigh_34 rfl (lv_at hl 2 rfl) ?_
      refine lv_iload_n hx hb dX7_weigh_35 rfl (lv_at hl 3 rfl) ?_
      obtain ⟨q10, h⟩ := gd_o h
      obtain ⟨s11, q12, h⟩ := nm_o h
      refine r_iast C B (cM_2 G s0) (inb_vp q10) ((uMa_1 G s0 _).trans (congrArg (wM G) q12.symm)) dX7_weigh_36 (fun H locs B => ?_)
      refine lv_iload_n hx hb dX7_weigh_37 rfl (lv_at hl 0 rfl) ?_
      obtain ⟨rfl, rfl⟩ := ret2 h
      exact r_iret C B hr rfl dX7_weigh_38
    · have h := ip h q6
      refine lv_bipush (v := (-2 : Int32)) hx hb dX7_weigh_20 rfl ?_
      obtain ⟨rfl, rfl⟩ := ret2 h
      exact r_iret C B hr rfl dX7_weigh_22
  · have h := ip h q3
    refine lv_iconst (v := (-1 : Int32)) hx hb dX7_weigh_8 rfl ?_
    obtain ⟨rfl, rfl⟩ := ret2 h
    exact r_iret C B hr rfl dX7_weigh_9
def rm_X7_add : Room := { frames := 2, cells := 0, slots := 0, locals := 43 }
set_option maxRecDepth 100000 in
set_option maxHeartbeats 4000000 in
theorem c_X7_add (G : GT) (s0 : ST) (v1 : Int32) (r : Int32) (s' : ST) (h : X7_add s0 v1 = some (r, s')) : Con G yX7_add cX7_add 2 (some .int) rm_X7_add [.ref (gad G 0), .int v1] (wM G s0) (some (.int r)) (wM G s') := by
  unfold X7_add at h
  refine con_of (by decide +kernel) (Nat.le_of_ble_eq_true rfl) (fun {p e s m below meth c} C hr {H locs ls} B hl => ?_)
  have hx := C.1
  have hb := C.2.1
  have hl : lv_has ls 2 [(0, .ref (gad G 0)), (1, .int v1)] := hl
  refine lv_aload_n hx hb dX7_add_0 rfl (lv_at hl 0 rfl) ?_
  refine lv_iload_n hx hb dX7_add_1 rfl (lv_at hl 1 rfl) ?_
  obtain ⟨r2, q1, h⟩ := bd_o h
  refine r_callVi (rest := []) C B hl (c_X7_isSet G s0 v1 r2 q1) cs_X7_122 (cM_0 G s0) rfl rfl rfl (Nat.le_of_ble_eq_true rfl) ⟨rfl, rfl, Nat.le_of_ble_eq_true rfl, Nat.le_of_ble_eq_true rfl⟩ dX7_add_2 (fun H locs B => ?_)
  refine lv_if_ne (tgt := 11) hx hb dX7_add_5 (by decide) (fun q3 => ?_) (fun q3 => ?_)
  · have h := ig h q3
    refine lv_aload_n hx hb dX7_add_11 rfl (lv_at hl 0 rfl) ?_
    refine r_get C B fo_X7_71 (cM_0 G s0) rfl dX7_add_12 ?_
    refine lv_bipush (v := (8 : Int32)) hx hb dX7_add_15 rfl ?_
    refine lv_icmp_ne (tgt := 23) hx hb dX7_add_17 (by decide) (fun q4 => ?_) (fun q4 => ?_)
    · have h := ig h q4
      refine lv_aload_n hx hb dX7_add_23 rfl (lv_at hl 0 rfl) ?_
      refine r_get C B fo_X7_20 (cM_0 G s0) rfl dX7_add_24 ?_
      refine lv_aload_n hx hb dX7_add_27 rfl (lv_at hl 0 rfl) ?_
      refine r_get C B fo_X7_71 (cM_0 G s0) rfl dX7_add_28 ?_
      refine lv_iload_n hx hb dX7_add_31 rfl (lv_at hl 1 rfl) ?_
      obtain ⟨q5, h⟩ := gd_o h
      obtain ⟨s6, q7, h⟩ := nm_o h
      refine r_iast C B (cM_3 G s0) (inb_vp q5) ((uMa_2 G s0 _).trans (congrArg (wM G) q7.symm)) dX7_add_32 (fun H locs B => ?_)
      refine lv_aload_n hx hb dX7_add_33 rfl (lv_at hl 0 rfl) ?_
      refine lv_dup hx hb dX7_add_34 rfl ?_
      refine r_get C B fo_X7_71 (cM_0 G s6) rfl dX7_add_35 ?_
      refine lv_iconst (v := (1 : Int32)) hx hb dX7_add_38 rfl ?_
      refine lv_iadd hx hb dX7_add_39 ?_
      obtain ⟨s8, q9, h⟩ := nm_o h
      refine r_put C B fp_X7_71 (cM_0 G s6) (Nat.le_of_ble_eq_true rfl) rfl rfl ((uMs_2 G s6 _).trans (congrArg (wM G) q9.symm)) dX7_add_40 (fun H locs B => ?_)
      refine lv_aload_n hx hb dX7_add_43 rfl (lv_at hl 0 rfl) ?_
      refine r_get C B fo_X7_71 (cM_0 G s8) rfl dX7_add_44 ?_
      refine lv_iconst (v := (1 : Int32)) hx hb dX7_add_47 rfl ?_
      refine lv_isub hx hb dX7_add_48 ?_
      obtain ⟨rfl, rfl⟩ := ret2 h
      exact r_iret C B hr rfl dX7_add_49
    · have h := ip h q4
      refine lv_bipush (v := (-4 : Int32)) hx hb dX7_add_20 rfl ?_
      obtain ⟨rfl, rfl⟩ := ret2 h
      exact r_iret C B hr rfl dX7_add_22
  · have h := ip h q3
    refine lv_bipush (v := (-2 : Int32)) hx hb dX7_add_8 rfl ?_
    obtain ⟨rfl, rfl⟩ := ret2 h
    exact r_iret C B hr rfl dX7_add_10
def rm_X7_isNumber : Room := { frames := 1, cells := 0, slots := 0, locals := 22 }
set_option maxRecDepth 100000 in
set_option maxHeartbeats 4000000 in
theorem c_X7_isNumber (G : GT) (s0 : ST) (v1 : Int32) (r : Int32) (h : X7_isNumber s0 v1 = some r) : Con G yX7_isNumber cX7_isNumber 2 (some .boolean) rm_X7_isNumber [.ref (gad G 0), .int v1] (wM G s0) (some (.int r)) (wM G s0) := by
  unfold X7_isNumber at h
  refine con_of (by decide +kernel) (Nat.le_of_ble_eq_true rfl) (fun {p e s m below meth c} C hr {H locs ls} B hl => ?_)
  have hx := C.1
  have hb := C.2.1
  have hl : lv_has ls 2 [(0, .ref (gad G 0)), (1, .int v1)] := hl
  refine lv_iload_n hx hb dX7_isNumber_0 rfl (lv_at hl 1 rfl) ?_
  refine lv_iconst (v := (0 : Int32)) hx hb dX7_isNumber_1 rfl ?_
  refine lv_aload_n hx hb dX7_isNumber_2 rfl (lv_at hl 0 rfl) ?_
  refine r_get C B fo_X7_71 (cM_0 G s0) rfl dX7_isNumber_3 ?_
  refine lv_iconst (v := (1 : Int32)) hx hb dX7_isNumber_6 rfl ?_
  refine lv_isub hx hb dX7_isNumber_7 ?_
  obtain ⟨r1, q2, h⟩ := bd_o h
  refine r_callSi (rest := []) C B.2.2 hl (c_X7_in G v1 (0 : Int32) ((s0.1 2) - (1 : Int32)) r1 q2) cs_X7_63 rfl rfl (Nat.le_of_ble_eq_true rfl) ⟨rfl, rfl, Nat.le_of_ble_eq_true rfl, Nat.le_of_ble_eq_true rfl⟩ dX7_isNumber_8 ?_
  obtain ⟨q3, h⟩ := gd_o h
  obtain rfl := ret1 h
  exact r_iret C B hr (bz_nar q3) dX7_isNumber_11
def rm_X7_change : Room := { frames := 2, cells := 0, slots := 0, locals := 43 }
set_option maxRecDepth 100000 in
set_option maxHeartbeats 4000000 in
theorem c_X7_change (G : GT) (s0 : ST) (v1 : Int32) (v2 : Int32) (r : Int32) (s' : ST) (h : X7_change s0 v1 v2 = some (r, s')) : Con G yX7_change cX7_change 4 (some .int) rm_X7_change [.ref (gad G 0), .int v1, .int v2] (wM G s0) (some (.int r)) (wM G s') := by
  unfold X7_change at h
  refine con_of (by decide +kernel) (Nat.le_of_ble_eq_true rfl) (fun {p e s m below meth c} C hr {H locs ls} B hl => ?_)
  have hx := C.1
  have hb := C.2.1
  have hl : lv_has ls 4 [(0, .ref (gad G 0)), (1, .int v1), (2, .int v2)] := hl
  refine lv_aload_n hx hb dX7_change_0 rfl (lv_at hl 0 rfl) ?_
  refine lv_iload_n hx hb dX7_change_1 rfl (lv_at hl 1 rfl) ?_
  obtain ⟨r2, q1, h⟩ := bd_o h
  refine r_callVi (rest := []) C B hl (c_X7_isNumber G s0 v1 r2 q1) cs_X7_125 (cM_0 G s0) rfl rfl rfl (Nat.le_of_ble_eq_true rfl) ⟨rfl, rfl, Nat.le_of_ble_eq_true rfl, Nat.le_of_ble_eq_true rfl⟩ dX7_change_2 (fun H locs B => ?_)
  refine lv_if_ne (tgt := 10) hx hb dX7_change_5 (by decide) (fun q3 => ?_) (fun q3 => ?_)
  · have h := ig h q3
    refine lv_aload_n hx hb dX7_change_10 rfl (lv_at hl 0 rfl) ?_
    refine lv_iload_n hx hb dX7_change_11 rfl (lv_at hl 2 rfl) ?_
    obtain ⟨r5, q4, h⟩ := bd_o h
    refine r_callVi (rest := []) C B hl (c_X7_isSet G s0 v2 r5 q4) cs_X7_122 (cM_0 G s0) rfl rfl rfl (Nat.le_of_ble_eq_true rfl) ⟨rfl, rfl, Nat.le_of_ble_eq_true rfl, Nat.le_of_ble_eq_true rfl⟩ dX7_change_12 (fun H locs B => ?_)
    refine lv_if_ne (tgt := 21) hx hb dX7_change_15 (by decide) (fun q6 => ?_) (fun q6 => ?_)
    · have h := ig h q6
      refine lv_aload_n hx hb dX7_change_21 rfl (lv_at hl 0 rfl) ?_
      refine r_get C B fo_X7_20 (cM_0 G s0) rfl dX7_change_22 ?_
      refine lv_iload_n hx hb dX7_change_25 rfl (lv_at hl 1 rfl) ?_
      obtain ⟨q7, h⟩ := gd_o h
      refine r_iald C B (cM_3 G s0) (inb_vp q7) dX7_change_26 ?_
      obtain ⟨v3_8, q9, h⟩ := nm_o h
      refine r_nm q9 ?_
      refine lv_istore_n (lv' := [(3, .int v3_8), (0, .ref (gad G 0)), (1, .int v1), (2, .int v2)]) hx hb dX7_change_27 rfl hl (by decide) rfl (fun ls hl => ?_)
      refine lv_aload_n hx hb dX7_change_28 rfl (lv_at hl 1 rfl) ?_
      refine r_get C B fo_X7_20 (cM_0 G s0) rfl dX7_change_29 ?_
      refine lv_iload_n hx hb dX7_change_32 rfl (lv_at hl 2 rfl) ?_
      refine lv_iload_n hx hb dX7_change_33 rfl (lv_at hl 3 rfl) ?_
      obtain ⟨q10, h⟩ := gd_o h
      obtain ⟨s11, q12, h⟩ := nm_o h
      refine r_iast C B (cM_3 G s0) (inb_vp q10) ((uMa_2 G s0 _).trans (congrArg (wM G) q12.symm)) dX7_change_34 (fun H locs B => ?_)
      refine lv_iload_n hx hb dX7_change_35 rfl (lv_at hl 0 rfl) ?_
      obtain ⟨rfl, rfl⟩ := ret2 h
      exact r_iret C B hr rfl dX7_change_36
    · have h := ip h q6
      refine lv_bipush (v := (-2 : Int32)) hx hb dX7_change_18 rfl ?_
      obtain ⟨rfl, rfl⟩ := ret2 h
      exact r_iret C B hr rfl dX7_change_20
  · have h := ip h q3
    refine lv_iconst (v := (-1 : Int32)) hx hb dX7_change_8 rfl ?_
    obtain ⟨rfl, rfl⟩ := ret2 h
    exact r_iret C B hr rfl dX7_change_9
def rm_X7_goes : Room := { frames := 0, cells := 0, slots := 0, locals := 0 }
set_option maxRecDepth 100000 in
set_option maxHeartbeats 4000000 in
theorem l_X7_goes_L1 {G : GT} {p : Program} {e : Env} {s : State} {m : MethodId} {args : Array Value} {below : List Frame} {meth : Method} {c : Code} {Q : State → Prop} (C : CT G p s m meth c args cX7_goes 3 RX7) (hr : meth.sig.returnType = none) : ∀ (k : Nat) (v2 : Int32) (s0 : ST) (e1 : ST), X7_goes_L1  k v2 s0 = some e1 → Kn G p e rm_X7_goes s m args below meth c Q 3 40 [] (wM G e1) → Kn G p e rm_X7_goes s m args below meth c Q 3 12 [(0, .ref (gad G 0)), (2, .int v2)] (wM G s0) := by
  have hx := C.1
  have hb := C.2.1
  intro k
  induction k with
  | zero =>
    intro v2 s0 e1 h
    exact nso h
  | succ k ih =>
    intro v2 s0 e1 h hk H locs ls B hl
    have h : X7_goes_L1_b  (X7_goes_L1  k) v2 s0 = some e1 := h
    unfold X7_goes_L1_b at h
    refine lv_iload_n hx hb dX7_goes_12 rfl (lv_at hl 1 rfl) ?_
    refine lv_aload_n hx hb dX7_goes_13 rfl (lv_at hl 0 rfl) ?_
    refine r_get C B fo_X7_71 (cM_0 G s0) rfl dX7_goes_14 ?_
    refine lv_icmp_ge (tgt := 40) hx hb dX7_goes_17 (by decide) (fun q3 => ?_) (fun q3 => ?_)
    · have h := ip h q3
      obtain rfl := ret1 h
      exact hk H locs ls B (lv_sub hl [] rfl)
    · have h := ig h q3
      refine lv_aload_n hx hb dX7_goes_20 rfl (lv_at hl 0 rfl) ?_
      refine r_get C B fo_X7_20 (cM_0 G s0) rfl dX7_goes_21 ?_
      refine lv_iload_n hx hb dX7_goes_24 rfl (lv_at hl 1 rfl) ?_
      refine lv_aload_n hx hb dX7_goes_25 rfl (lv_at hl 0 rfl) ?_
      refine r_get C B fo_X7_20 (cM_0 G s0) rfl dX7_goes_26 ?_
      refine lv_iload_n hx hb dX7_goes_29 rfl (lv_at hl 1 rfl) ?_
      refine lv_iconst (v := (1 : Int32)) hx hb dX7_goes_30 rfl ?_
      refine lv_iadd hx hb dX7_goes_31 ?_
      obtain ⟨q4, h⟩ := gd_o h
      refine r_iald C B (cM_3 G s0) (inb_vp q4) dX7_goes_32 ?_
      obtain ⟨q5, h⟩ := gd_o h
      obtain ⟨s6, q7, h⟩ := nm_o h
      refine r_iast C B (cM_3 G s0) (inb_vp q5) ((uMa_2 G s0 _).trans (congrArg (wM G) q7.symm)) dX7_goes_33 (fun H locs B => ?_)
      obtain ⟨v2_8, q9, h⟩ := nm_o h
      refine lv_iinc (v := v2_8) (lv' := [(2, .int v2_8), (0, .ref (gad G 0))]) hx hb dX7_goes_34 hl (k := 1) rfl q9.symm (by decide) rfl (fun ls hl => ?_)
      refine lv_goto (tgt := 12) hx hb dX7_goes_37 (by decide) ?_
      exact ih v2_8 s6 e1 h hk H locs ls B (lv_sub hl [1, 0] rfl)
set_option maxRecDepth 100000 in
set_option maxHeartbeats 4000000 in
theorem c_X7_goes (G : GT) (n : Nat) (s0 : ST) (v1 : Int32) (s' : ST) (h : X7_goes n s0 v1 = some s') : Con G yX7_goes cX7_goes 3 none rm_X7_goes [.ref (gad G 0), .int v1] (wM G s0) none (wM G s') := by
  unfold X7_goes at h
  refine con_of (by decide +kernel) (Nat.le_of_ble_eq_true rfl) (fun {p e s m below meth c} C hr {H locs ls} B hl => ?_)
  have hx := C.1
  have hb := C.2.1
  have hl : lv_has ls 3 [(0, .ref (gad G 0)), (1, .int v1)] := hl
  refine lv_aload_n hx hb dX7_goes_0 rfl (lv_at hl 0 rfl) ?_
  refine lv_dup hx hb dX7_goes_1 rfl ?_
  refine r_get C B fo_X7_71 (cM_0 G s0) rfl dX7_goes_2 ?_
  refine lv_iconst (v := (1 : Int32)) hx hb dX7_goes_5 rfl ?_
  refine lv_isub hx hb dX7_goes_6 ?_
  obtain ⟨s1, q2, h⟩ := nm_o h
  refine r_put C B fp_X7_71 (cM_0 G s0) (Nat.le_of_ble_eq_true rfl) rfl rfl ((uMs_2 G s0 _).trans (congrArg (wM G) q2.symm)) dX7_goes_7 (fun H locs B => ?_)
  refine lv_iload_n hx hb dX7_goes_10 rfl (lv_at hl 1 rfl) ?_
  refine lv_istore_n (lv' := [(2, .int v1), (0, .ref (gad G 0)), (1, .int v1)]) hx hb dX7_goes_11 rfl hl (by decide) rfl (fun ls hl => ?_)
  obtain ⟨e10, q11, h⟩ := bd_o h
  refine l_X7_goes_L1 C hr  n v1 s1 e10 q11 ?_ H locs ls B (lv_sub hl [1, 0] rfl)
  intro H locs ls B hl
  obtain rfl := ret1 h
  exact r_vret C B hr dX7_goes_40
def rm_X7_drop : Room := { frames := 2, cells := 0, slots := 0, locals := 43 }
set_option maxRecDepth 100000 in
set_option maxHeartbeats 4000000 in
theorem c_X7_drop (G : GT) (n : Nat) (s0 : ST) (v1 : Int32) (r : Int32) (s' : ST) (h : X7_drop n s0 v1 = some (r, s')) : Con G yX7_drop cX7_drop 2 (some .int) rm_X7_drop [.ref (gad G 0), .int v1] (wM G s0) (some (.int r)) (wM G s') := by
  unfold X7_drop at h
  refine con_of (by decide +kernel) (Nat.le_of_ble_eq_true rfl) (fun {p e s m below meth c} C hr {H locs ls} B hl => ?_)
  have hx := C.1
  have hb := C.2.1
  have hl : lv_has ls 2 [(0, .ref (gad G 0)), (1, .int v1)] := hl
  refine lv_aload_n hx hb dX7_drop_0 rfl (lv_at hl 0 rfl) ?_
  refine lv_iload_n hx hb dX7_drop_1 rfl (lv_at hl 1 rfl) ?_
  obtain ⟨r2, q1, h⟩ := bd_o h
  refine r_callVi (rest := []) C B hl (c_X7_isNumber G s0 v1 r2 q1) cs_X7_125 (cM_0 G s0) rfl rfl rfl (Nat.le_of_ble_eq_true rfl) ⟨rfl, rfl, Nat.le_of_ble_eq_true rfl, Nat.le_of_ble_eq_true rfl⟩ dX7_drop_2 (fun H locs B => ?_)
  refine lv_if_ne (tgt := 10) hx hb dX7_drop_5 (by decide) (fun q3 => ?_) (fun q3 => ?_)
  · have h := ig h q3
    refine lv_aload_n hx hb dX7_drop_10 rfl (lv_at hl 0 rfl) ?_
    refine lv_iload_n hx hb dX7_drop_11 rfl (lv_at hl 1 rfl) ?_
    obtain ⟨s5, q4, h⟩ := bd_o h
    refine r_callVv (rest := []) C B hl (c_X7_goes G n s0 v1 s5 q4) cs_X7_128 (cM_0 G s0) rfl rfl rfl (Nat.le_of_ble_eq_true rfl) ⟨rfl, rfl, Nat.le_of_ble_eq_true rfl, Nat.le_of_ble_eq_true rfl⟩ dX7_drop_12 (fun H locs B => ?_)
    refine lv_aload_n hx hb dX7_drop_15 rfl (lv_at hl 0 rfl) ?_
    refine r_get C B fo_X7_71 (cM_0 G s5) rfl dX7_drop_16 ?_
    obtain ⟨rfl, rfl⟩ := ret2 h
    exact r_iret C B hr rfl dX7_drop_19
  · have h := ip h q3
    refine lv_iconst (v := (-1 : Int32)) hx hb dX7_drop_8 rfl ?_
    obtain ⟨rfl, rfl⟩ := ret2 h
    exact r_iret C B hr rfl dX7_drop_9
def rm_X7_set : Room := { frames := 2, cells := 0, slots := 0, locals := 43 }
set_option maxRecDepth 100000 in
set_option maxHeartbeats 4000000 in
theorem c_X7_set (G : GT) (s0 : ST) (v1 : Int32) (r : Int32) (h : X7_set s0 v1 = some r) : Con G yX7_set cX7_set 2 (some .int) rm_X7_set [.ref (gad G 0), .int v1] (wM G s0) (some (.int r)) (wM G s0) := by
  unfold X7_set at h
  refine con_of (by decide +kernel) (Nat.le_of_ble_eq_true rfl) (fun {p e s m below meth c} C hr {H locs ls} B hl => ?_)
  have hx := C.1
  have hb := C.2.1
  have hl : lv_has ls 2 [(0, .ref (gad G 0)), (1, .int v1)] := hl
  refine lv_aload_n hx hb dX7_set_0 rfl (lv_at hl 0 rfl) ?_
  refine lv_iload_n hx hb dX7_set_1 rfl (lv_at hl 1 rfl) ?_
  obtain ⟨r2, q1, h⟩ := bd_o h
  refine r_callVi (rest := []) C B hl (c_X7_isNumber G s0 v1 r2 q1) cs_X7_125 (cM_0 G s0) rfl rfl rfl (Nat.le_of_ble_eq_true rfl) ⟨rfl, rfl, Nat.le_of_ble_eq_true rfl, Nat.le_of_ble_eq_true rfl⟩ dX7_set_2 (fun H locs B => ?_)
  refine lv_if_eq (tgt := 17) hx hb dX7_set_5 (by decide) (fun q3 => ?_) (fun q3 => ?_)
  · have h := ip h q3
    refine lv_iconst (v := (-1 : Int32)) hx hb dX7_set_17 rfl ?_
    obtain rfl := ret1 h
    exact r_iret C B hr rfl dX7_set_18
  · have h := ig h q3
    refine lv_aload_n hx hb dX7_set_8 rfl (lv_at hl 0 rfl) ?_
    refine r_get C B fo_X7_20 (cM_0 G s0) rfl dX7_set_9 ?_
    refine lv_iload_n hx hb dX7_set_12 rfl (lv_at hl 1 rfl) ?_
    obtain ⟨q4, h⟩ := gd_o h
    refine r_iald C B (cM_3 G s0) (inb_vp q4) dX7_set_13 ?_
    refine lv_goto (tgt := 18) hx hb dX7_set_14 (by decide) ?_
    obtain rfl := ret1 h
    exact r_iret C B hr rfl dX7_set_18
def rm_X7_isSide : Room := { frames := 1, cells := 0, slots := 0, locals := 22 }
set_option maxRecDepth 100000 in
set_option maxHeartbeats 4000000 in
theorem c_X7_isSide (G : GT) (v0 : Int32) (r : Int32) (h : X7_isSide v0 = some r) : ConP G yX7_isSide cX7_isSide 1 (some .boolean) rm_X7_isSide [.int v0] (some (.int r)) := by
  unfold X7_isSide at h
  refine conP_of (by decide +kernel) (Nat.le_of_ble_eq_true rfl) (fun {p e s m below meth c} C hr {ls} hl => ?_)
  have hx := C.1
  have hb := C.2.1
  have hl : lv_has ls 1 [(0, .int v0)] := hl
  refine lv_iload_n hx hb dX7_isSide_0 rfl (lv_at hl 0 rfl) ?_
  refine lv_iconst (v := (0 : Int32)) hx hb dX7_isSide_1 rfl ?_
  refine lv_iconst (v := (3 : Int32)) hx hb dX7_isSide_2 rfl ?_
  obtain ⟨r1, q2, h⟩ := bd_o h
  refine r_callSi (rest := []) C va_S.rf hl (c_X7_in G v0 (0 : Int32) (3 : Int32) r1 q2) cs_X7_63 rfl rfl (Nat.le_of_ble_eq_true rfl) ⟨rfl, rfl, Nat.le_of_ble_eq_true rfl, Nat.le_of_ble_eq_true rfl⟩ dX7_isSide_3 ?_
  obtain ⟨q3, h⟩ := gd_o h
  obtain rfl := ret1 h
  exact r_iretP C hr (bz_nar q3) dX7_isSide_6
def rm_X7_has : Room := { frames := 0, cells := 0, slots := 0, locals := 0 }
set_option maxRecDepth 100000 in
set_option maxHeartbeats 4000000 in
theorem c_X7_has (G : GT) (v0 : Int32) (v1 : Int32) (r : Int32) (h : X7_has v0 v1 = some r) : ConP G yX7_has cX7_has 2 (some .boolean) rm_X7_has [.int v0, .int v1] (some (.int r)) := by
  unfold X7_has at h
  refine conP_of (by decide +kernel) (Nat.le_of_ble_eq_true rfl) (fun {p e s m below meth c} C hr {ls} hl => ?_)
  have hx := C.1
  have hb := C.2.1
  have hl : lv_has ls 2 [(0, .int v0), (1, .int v1)] := hl
  refine lv_iload_n hx hb dX7_has_0 rfl (lv_at hl 0 rfl) ?_
  refine lv_iload_n hx hb dX7_has_1 rfl (lv_at hl 1 rfl) ?_
  refine lv_ishr hx hb dX7_has_2 ?_
  refine lv_iconst (v := (1 : Int32)) hx hb dX7_has_3 rfl ?_
  refine lv_iand hx hb dX7_has_4 ?_
  refine lv_iconst (v := (1 : Int32)) hx hb dX7_has_5 rfl ?_
  refine lv_icmp_ne (tgt := 13) hx hb dX7_has_6 (by decide) (fun q1 => ?_) (fun q1 => ?_)
  · have h := ig h q1
    refine lv_iconst (v := (0 : Int32)) hx hb dX7_has_13 rfl ?_
    obtain rfl := ret1 h
    exact r_iretP C hr nar_0 dX7_has_14
  · have h := ip h q1
    refine lv_iconst (v := (1 : Int32)) hx hb dX7_has_9 rfl ?_
    refine lv_goto (tgt := 14) hx hb dX7_has_10 (by decide) ?_
    obtain rfl := ret1 h
    exact r_iretP C hr nar_1 dX7_has_14
def rm_X7_meeting : Room := { frames := 1, cells := 0, slots := 0, locals := 21 }
set_option maxRecDepth 100000 in
set_option maxHeartbeats 4000000 in
theorem l_X7_meeting_L1 {G : GT} {p : Program} {e : Env} {s : State} {m : MethodId} {args : Array Value} {below : List Frame} {meth : Method} {c : Code} {Q : State → Prop} (C : CT G p s m meth c args cX7_meeting 5 RX7) (hr : meth.sig.returnType = (some .int)) (s0 : ST) (v1 : Int32) (v2 : Int32) : ∀ (k : Nat) (v4 : Int32) (v3 : Int32) (e1 : Int32), X7_meeting_L1 s0 v1 v2 k v4 v3 = some e1 → Kn G p e rm_X7_meeting s m args below meth c Q 5 49 [(3, .int e1)] (wM G s0) → Kn G p e rm_X7_meeting s m args below meth c Q 5 5 [(0, .ref (gad G 0)), (1, .int v1), (2, .int v2), (4, .int v4), (3, .int v3)] (wM G s0) := by
  have hx := C.1
  have hb := C.2.1
  intro k
  induction k with
  | zero =>
    intro v4 v3 e1 h
    exact nso h
  | succ k ih =>
    intro v4 v3 e1 h hk H locs ls B hl
    have h : X7_meeting_L1_b s0 v1 v2 (X7_meeting_L1 s0 v1 v2 k) v4 v3 = some e1 := h
    unfold X7_meeting_L1_b at h
    refine lv_iload hx hb dX7_meeting_5 (lv_at hl 3 rfl) ?_
    refine lv_aload_n hx hb dX7_meeting_7 rfl (lv_at hl 0 rfl) ?_
    refine r_get C B fo_X7_71 (cM_0 G s0) rfl dX7_meeting_8 ?_
    refine lv_icmp_ge (tgt := 49) hx hb dX7_meeting_11 (by decide) (fun q1 => ?_) (fun q1 => ?_)
    · have h := ip h q1
      obtain rfl := ret1 h
      exact hk H locs ls B (lv_sub hl [4] rfl)
    · have h := ig h q1
      refine lv_iload_n hx hb dX7_meeting_14 rfl (lv_at hl 4 rfl) ?_
      refine lv_iload_n hx hb dX7_meeting_15 rfl (lv_at hl 2 rfl) ?_
      refine lv_iload hx hb dX7_meeting_16 (lv_at hl 3 rfl) ?_
      obtain ⟨r2, q3, h⟩ := bd_o h
      refine r_callSi (rest := [.int v3]) C B.2.2 hl (c_X7_has G v2 v4 r2 q3) cs_X7_77 rfl rfl (Nat.le_of_ble_eq_true rfl) ⟨rfl, rfl, Nat.le_of_ble_eq_true rfl, Nat.le_of_ble_eq_true rfl⟩ dX7_meeting_18 ?_
      refine lv_if_ne (tgt := 40) hx hb dX7_meeting_21 (by decide) (fun q4 => ?_) (fun q4 => ?_)
      · have h := ig h q4
        refine lv_iconst (v := (0 : Int32)) hx hb dX7_meeting_40 rfl ?_
        refine lv_iadd hx hb dX7_meeting_41 ?_
        obtain ⟨v3_5, q6, h⟩ := nm_o h
        refine r_nm q6 ?_
        refine lv_istore_n (lv' := [(3, .int v3_5), (0, .ref (gad G 0)), (1, .int v1), (2, .int v2), (4, .int v4)]) hx hb dX7_meeting_42 rfl hl (by decide) rfl (fun ls hl => ?_)
        obtain ⟨v4_7, q8, h⟩ := nm_o h
        refine lv_iinc (v := v4_7) (lv' := [(4, .int v4_7), (3, .int v3_5), (0, .ref (gad G 0)), (1, .int v1), (2, .int v2)]) hx hb dX7_meeting_43 hl (k := 4) rfl q8.symm (by decide) rfl (fun ls hl => ?_)
        refine lv_goto (tgt := 5) hx hb dX7_meeting_46 (by decide) ?_
        exact ih v4_7 v3_5 e1 h hk H locs ls B (lv_sub hl [2, 3, 4, 0, 1] rfl)
      · have h := ip h q4
        refine lv_aload_n hx hb dX7_meeting_24 rfl (lv_at hl 0 rfl) ?_
        refine r_get C B fo_X7_20 (cM_0 G s0) rfl dX7_meeting_25 ?_
        refine lv_iload hx hb dX7_meeting_28 (lv_at hl 3 rfl) ?_
        obtain ⟨q9, h⟩ := gd_o h
        refine r_iald C B (cM_3 G s0) (inb_vp q9) dX7_meeting_30 ?_
        refine lv_iload_n hx hb dX7_meeting_31 rfl (lv_at hl 1 rfl) ?_
        refine lv_iand hx hb dX7_meeting_32 ?_
        refine lv_if_eq (tgt := 40) hx hb dX7_meeting_33 (by decide) (fun q10 => ?_) (fun q10 => ?_)
        · have h := ip h q10
          refine lv_iconst (v := (0 : Int32)) hx hb dX7_meeting_40 rfl ?_
          refine lv_iadd hx hb dX7_meeting_41 ?_
          obtain ⟨v3_11, q12, h⟩ := nm_o h
          refine r_nm q12 ?_
          refine lv_istore_n (lv' := [(3, .int v3_11), (0, .ref (gad G 0)), (1, .int v1), (2, .int v2), (4, .int v4)]) hx hb dX7_meeting_42 rfl hl (by decide) rfl (fun ls hl => ?_)
          obtain ⟨v4_13, q14, h⟩ := nm_o h
          refine lv_iinc (v := v4_13) (lv' := [(4, .int v4_13), (3, .int v3_11), (0, .ref (gad G 0)), (1, .int v1), (2, .int v2)]) hx hb dX7_meeting_43 hl (k := 4) rfl q14.symm (by decide) rfl (fun ls hl => ?_)
          refine lv_goto (tgt := 5) hx hb dX7_meeting_46 (by decide) ?_
          exact ih v4_13 v3_11 e1 h hk H locs ls B (lv_sub hl [2, 3, 4, 0, 1] rfl)
        · have h := ig h q10
          refine lv_iconst (v := (1 : Int32)) hx hb dX7_meeting_36 rfl ?_
          refine lv_goto (tgt := 41) hx hb dX7_meeting_37 (by decide) ?_
          refine lv_iadd hx hb dX7_meeting_41 ?_
          obtain ⟨v3_15, q16, h⟩ := nm_o h
          refine r_nm q16 ?_
          refine lv_istore_n (lv' := [(3, .int v3_15), (0, .ref (gad G 0)), (1, .int v1), (2, .int v2), (4, .int v4)]) hx hb dX7_meeting_42 rfl hl (by decide) rfl (fun ls hl => ?_)
          obtain ⟨v4_17, q18, h⟩ := nm_o h
          refine lv_iinc (v := v4_17) (lv' := [(4, .int v4_17), (3, .int v3_15), (0, .ref (gad G 0)), (1, .int v1), (2, .int v2)]) hx hb dX7_meeting_43 hl (k := 4) rfl q18.symm (by decide) rfl (fun ls hl => ?_)
          refine lv_goto (tgt := 5) hx hb dX7_meeting_46 (by decide) ?_
          exact ih v4_17 v3_15 e1 h hk H locs ls B (lv_sub hl [2, 3, 4, 0, 1] rfl)
set_option maxRecDepth 100000 in
set_option maxHeartbeats 4000000 in
theorem c_X7_meeting (G : GT) (n : Nat) (s0 : ST) (v1 : Int32) (v2 : Int32) (r : Int32) (h : X7_meeting n s0 v1 v2 = some r) : Con G yX7_meeting cX7_meeting 5 (some .int) rm_X7_meeting [.ref (gad G 0), .int v1, .int v2] (wM G s0) (some (.int r)) (wM G s0) := by
  unfold X7_meeting at h
  refine con_of (by decide +kernel) (Nat.le_of_ble_eq_true rfl) (fun {p e s m below meth c} C hr {H locs ls} B hl => ?_)
  have hx := C.1
  have hb := C.2.1
  have hl : lv_has ls 5 [(0, .ref (gad G 0)), (1, .int v1), (2, .int v2)] := hl
  refine lv_iconst (v := (0 : Int32)) hx hb dX7_meeting_0 rfl ?_
  refine lv_istore_n (lv' := [(3, .int (0 : Int32)), (0, .ref (gad G 0)), (1, .int v1), (2, .int v2)]) hx hb dX7_meeting_1 rfl hl (by decide) rfl (fun ls hl => ?_)
  refine lv_iconst (v := (0 : Int32)) hx hb dX7_meeting_2 rfl ?_
  refine lv_istore (lv' := [(4, .int (0 : Int32)), (3, .int (0 : Int32)), (0, .ref (gad G 0)), (1, .int v1), (2, .int v2)]) hx hb dX7_meeting_3 hl (by decide) rfl (fun ls hl => ?_)
  obtain ⟨e19, q20, h⟩ := bd_o h
  refine l_X7_meeting_L1 C hr s0 v1 v2 n (0 : Int32) (0 : Int32) e19 q20 ?_ H locs ls B (lv_sub hl [2, 3, 4, 0, 1] rfl)
  intro H locs ls B hl
  refine lv_iload_n hx hb dX7_meeting_49 rfl (lv_at hl 0 rfl) ?_
  obtain rfl := ret1 h
  exact r_iret C B hr rfl dX7_meeting_50
def rm_X7_cutOf : Room := { frames := 1, cells := 0, slots := 0, locals := 20 }
set_option maxRecDepth 100000 in
set_option maxHeartbeats 4000000 in
theorem l_X7_cutOf_L1 {G : GT} {p : Program} {e : Env} {s : State} {m : MethodId} {args : Array Value} {below : List Frame} {meth : Method} {c : Code} {Q : State → Prop} (C : CT G p s m meth c args cX7_cutOf 4 RX7) (hr : meth.sig.returnType = (some .int)) (s0 : ST) (v1 : Int32) : ∀ (k : Nat) (v3 : Int32) (v2 : Int32) (e1 : Int32), X7_cutOf_L1 s0 v1 k v3 v2 = some e1 → Kn G p e rm_X7_cutOf s m args below meth c Q 4 41 [(2, .int e1)] (wM G s0) → Kn G p e rm_X7_cutOf s m args below meth c Q 4 7 [(0, .ref (gad G 0)), (1, .int v1), (3, .int v3), (2, .int v2)] (wM G s0) := by
  have hx := C.1
  have hb := C.2.1
  intro k
  induction k with
  | zero =>
    intro v3 v2 e1 h
    exact nso h
  | succ k ih =>
    intro v3 v2 e1 h hk H locs ls B hl
    have h : X7_cutOf_L1_b s0 v1 (X7_cutOf_L1 s0 v1 k) v3 v2 = some e1 := h
    unfold X7_cutOf_L1_b at h
    refine lv_iload_n hx hb dX7_cutOf_7 rfl (lv_at hl 2 rfl) ?_
    refine lv_if_lt (tgt := 41) hx hb dX7_cutOf_8 (by decide) (fun q3 => ?_) (fun q3 => ?_)
    · have h := ip h q3
      obtain rfl := ret1 h
      exact hk H locs ls B (lv_sub hl [3] rfl)
    · have h := ig h q3
      refine lv_iload_n hx hb dX7_cutOf_11 rfl (lv_at hl 1 rfl) ?_
      refine lv_aload_n hx hb dX7_cutOf_12 rfl (lv_at hl 0 rfl) ?_
      refine r_get C B fo_X7_35 (cM_0 G s0) rfl dX7_cutOf_13 ?_
      refine lv_iload_n hx hb dX7_cutOf_16 rfl (lv_at hl 2 rfl) ?_
      obtain ⟨q4, h⟩ := gd_o h
      refine r_iald C B (cM_8 G s0) (inb_vp q4) dX7_cutOf_17 ?_
      refine lv_iand hx hb dX7_cutOf_18 ?_
      refine lv_if_ne (tgt := 35) hx hb dX7_cutOf_19 (by decide) (fun q5 => ?_) (fun q5 => ?_)
      · have h := ig h q5
        obtain ⟨v3_6, q7, h⟩ := nm_o h
        refine lv_iinc (v := v3_6) (lv' := [(3, .int v3_6), (0, .ref (gad G 0)), (1, .int v1), (2, .int v2)]) hx hb dX7_cutOf_35 hl (k := 2) rfl q7.symm (by decide) rfl (fun ls hl => ?_)
        refine lv_goto (tgt := 7) hx hb dX7_cutOf_38 (by decide) ?_
        exact ih v3_6 v2 e1 h hk H locs ls B (lv_sub hl [1, 2, 0, 3] rfl)
      · have h := ip h q5
        refine lv_iload_n hx hb dX7_cutOf_22 rfl (lv_at hl 2 rfl) ?_
        obtain ⟨r8, q9, h⟩ := bd_o h
        refine r_callSi (rest := []) C B.2.2 hl (c_J6_bitCount G v3 r8 q9) cs_X7_81 rfl rfl (Nat.le_of_ble_eq_true rfl) ⟨rfl, rfl, Nat.le_of_ble_eq_true rfl, Nat.le_of_ble_eq_true rfl⟩ dX7_cutOf_23 ?_
        refine lv_iload_n hx hb dX7_cutOf_26 rfl (lv_at hl 3 rfl) ?_
        obtain ⟨r10, q11, h⟩ := bd_o h
        refine r_callSi (rest := [.int r8]) C B.2.2 hl (c_J6_bitCount G v2 r10 q11) cs_X7_81 rfl rfl (Nat.le_of_ble_eq_true rfl) ⟨rfl, rfl, Nat.le_of_ble_eq_true rfl, Nat.le_of_ble_eq_true rfl⟩ dX7_cutOf_27 ?_
        refine lv_icmp_gt (tgt := 35) hx hb dX7_cutOf_30 (by decide) (fun q12 => ?_) (fun q12 => ?_)
        · have h := ip h q12
          obtain ⟨v3_13, q14, h⟩ := nm_o h
          refine lv_iinc (v := v3_13) (lv' := [(3, .int v3_13), (0, .ref (gad G 0)), (1, .int v1), (2, .int v2)]) hx hb dX7_cutOf_35 hl (k := 2) rfl q14.symm (by decide) rfl (fun ls hl => ?_)
          refine lv_goto (tgt := 7) hx hb dX7_cutOf_38 (by decide) ?_
          exact ih v3_13 v2 e1 h hk H locs ls B (lv_sub hl [1, 2, 0, 3] rfl)
        · have h := ig h q12
          refine lv_iload_n hx hb dX7_cutOf_33 rfl (lv_at hl 2 rfl) ?_
          refine lv_istore_n (lv' := [(2, .int v3), (0, .ref (gad G 0)), (1, .int v1), (3, .int v3)]) hx hb dX7_cutOf_34 rfl hl (by decide) rfl (fun ls hl => ?_)
          obtain ⟨v3_15, q16, h⟩ := nm_o h
          refine lv_iinc (v := v3_15) (lv' := [(3, .int v3_15), (2, .int v3), (0, .ref (gad G 0)), (1, .int v1)]) hx hb dX7_cutOf_35 hl (k := 3) rfl q16.symm (by decide) rfl (fun ls hl => ?_)
          refine lv_goto (tgt := 7) hx hb dX7_cutOf_38 (by decide) ?_
          exact ih v3_15 v3 e1 h hk H locs ls B (lv_sub hl [2, 3, 0, 1] rfl)
set_option maxRecDepth 100000 in
set_option maxHeartbeats 4000000 in
theorem c_X7_cutOf (G : GT) (n : Nat) (s0 : ST) (v1 : Int32) (r : Int32) (h : X7_cutOf n s0 v1 = some r) : Con G yX7_cutOf cX7_cutOf 4 (some .int) rm_X7_cutOf [.ref (gad G 0), .int v1] (wM G s0) (some (.int r)) (wM G s0) := by
  unfold X7_cutOf at h
  refine con_of (by decide +kernel) (Nat.le_of_ble_eq_true rfl) (fun {p e s m below meth c} C hr {H locs ls} B hl => ?_)
  have hx := C.1
  have hb := C.2.1
  have hl : lv_has ls 4 [(0, .ref (gad G 0)), (1, .int v1)] := hl
  refine lv_iload_n hx hb dX7_cutOf_0 rfl (lv_at hl 1 rfl) ?_
  refine lv_istore_n (lv' := [(2, .int v1), (0, .ref (gad G 0)), (1, .int v1)]) hx hb dX7_cutOf_1 rfl hl (by decide) rfl (fun ls hl => ?_)
  refine lv_aload_n hx hb dX7_cutOf_2 rfl (lv_at hl 1 rfl) ?_
  obtain ⟨r2, q1, h⟩ := bd_o h
  refine r_callVi (rest := []) C B hl (c_X7_all G s0 r2 q1) cs_X7_67 (cM_0 G s0) rfl rfl rfl (Nat.le_of_ble_eq_true rfl) ⟨rfl, rfl, Nat.le_of_ble_eq_true rfl, Nat.le_of_ble_eq_true rfl⟩ dX7_cutOf_3 (fun H locs B => ?_)
  refine lv_istore_n (lv' := [(3, .int r2), (2, .int v1), (0, .ref (gad G 0)), (1, .int v1)]) hx hb dX7_cutOf_6 rfl hl (by decide) rfl (fun ls hl => ?_)
  obtain ⟨e17, q18, h⟩ := bd_o h
  refine l_X7_cutOf_L1 C hr s0 v1 n r2 v1 e17 q18 ?_ H locs ls B (lv_sub hl [2, 3, 0, 1] rfl)
  intro H locs ls B hl
  refine lv_iload_n hx hb dX7_cutOf_41 rfl (lv_at hl 0 rfl) ?_
  obtain rfl := ret1 h
  exact r_iret C B hr rfl dX7_cutOf_42
def rm_X7_openPast : Room := { frames := 1, cells := 0, slots := 0, locals := 21 }
set_option maxRecDepth 100000 in
set_option maxHeartbeats 4000000 in
theorem l_X7_openPast_L2 {G : GT} {p : Program} {e : Env} {s : State} {m : MethodId} {args : Array Value} {below : List Frame} {meth : Method} {c : Code} {Q : State → Prop} (C : CT G p s m meth c args cX7_openPast 5 RX7) (hr : meth.sig.returnType = (some .int)) (s0 : ST) (v1 : Int32) : ∀ (k : Nat) (v4 : Int32) (v3 : Int32) (v2 : Int32) (e1 : Int32 × Int32), X7_openPast_L2 s0 v1 k v4 v3 v2 = some e1 → Kn G p e rm_X7_openPast s m args below meth c Q 5 74 [(0, .ref (gad G 0)), (1, .int v1), (3, .int e1.1), (2, .int e1.2)] (wM G s0) → Kn G p e rm_X7_openPast s m args below meth c Q 5 20 [(0, .ref (gad G 0)), (1, .int v1), (4, .int v4), (3, .int v3), (2, .int v2)] (wM G s0) := by
  have hx := C.1
  have hb := C.2.1
  intro k
  induction k with
  | zero =>
    intro v4 v3 v2 e1 h
    exact nso h
  | succ k ih =>
    intro v4 v3 v2 e1 h hk H locs ls B hl
    have h : X7_openPast_L2_b s0 v1 (X7_openPast_L2 s0 v1 k) v4 v3 v2 = some e1 := h
    unfold X7_openPast_L2_b at h
    refine lv_iload hx hb dX7_openPast_20 (lv_at hl 2 rfl) ?_
    refine lv_aload_n hx hb dX7_openPast_22 rfl (lv_at hl 0 rfl) ?_
    refine r_get C B fo_X7_7 (cM_0 G s0) rfl dX7_openPast_23 ?_
    refine lv_icmp_ge (tgt := 74) hx hb dX7_openPast_26 (by decide) (fun q4 => ?_) (fun q4 => ?_)
    · have h := ip h q4
      obtain rfl := ret1 h
      exact hk H locs ls B (lv_sub hl [0, 1, 3, 4] rfl)
    · have h := ig h q4
      refine lv_iload_n hx hb dX7_openPast_29 rfl (lv_at hl 4 rfl) ?_
      refine lv_iload hx hb dX7_openPast_30 (lv_at hl 2 rfl) ?_
      obtain ⟨r5, q6, h⟩ := bd_o h
      refine r_callSi (rest := []) C B.2.2 hl (c_X7_has G v2 v4 r5 q6) cs_X7_77 rfl rfl (Nat.le_of_ble_eq_true rfl) ⟨rfl, rfl, Nat.le_of_ble_eq_true rfl, Nat.le_of_ble_eq_true rfl⟩ dX7_openPast_32 ?_
      refine lv_if_ne (tgt := 68) hx hb dX7_openPast_35 (by decide) (fun q7 => ?_) (fun q7 => ?_)
      · have h := ig h q7
        obtain ⟨v4_8, q9, h⟩ := nm_o h
        refine lv_iinc (v := v4_8) (lv' := [(4, .int v4_8), (0, .ref (gad G 0)), (1, .int v1), (3, .int v3), (2, .int v2)]) hx hb dX7_openPast_68 hl (k := 2) rfl q9.symm (by decide) rfl (fun ls hl => ?_)
        refine lv_goto (tgt := 20) hx hb dX7_openPast_71 (by decide) ?_
        exact ih v4_8 v3 v2 e1 h hk H locs ls B (lv_sub hl [1, 2, 0, 3, 4] rfl)
      · have h := ip h q7
        refine lv_iload_n hx hb dX7_openPast_38 rfl (lv_at hl 1 rfl) ?_
        refine lv_iload hx hb dX7_openPast_39 (lv_at hl 2 rfl) ?_
        obtain ⟨r10, q11, h⟩ := bd_o h
        refine r_callSi (rest := []) C B.2.2 hl (c_X7_has G v1 v4 r10 q11) cs_X7_77 rfl rfl (Nat.le_of_ble_eq_true rfl) ⟨rfl, rfl, Nat.le_of_ble_eq_true rfl, Nat.le_of_ble_eq_true rfl⟩ dX7_openPast_41 ?_
        refine lv_if_ne (tgt := 68) hx hb dX7_openPast_44 (by decide) (fun q12 => ?_) (fun q12 => ?_)
        · have h := ig h q12
          obtain ⟨v4_13, q14, h⟩ := nm_o h
          refine lv_iinc (v := v4_13) (lv' := [(4, .int v4_13), (0, .ref (gad G 0)), (1, .int v1), (3, .int v3), (2, .int v2)]) hx hb dX7_openPast_68 hl (k := 2) rfl q14.symm (by decide) rfl (fun ls hl => ?_)
          refine lv_goto (tgt := 20) hx hb dX7_openPast_71 (by decide) ?_
          exact ih v4_13 v3 v2 e1 h hk H locs ls B (lv_sub hl [1, 2, 0, 3, 4] rfl)
        · have h := ip h q12
          refine lv_aload_n hx hb dX7_openPast_47 rfl (lv_at hl 0 rfl) ?_
          refine r_get C B fo_X7_13 (cM_0 G s0) rfl dX7_openPast_48 ?_
          refine lv_iload hx hb dX7_openPast_51 (lv_at hl 2 rfl) ?_
          obtain ⟨q15, h⟩ := gd_o h
          refine r_iald C B (cM_1 G s0) (inb_vp q15) dX7_openPast_53 ?_
          refine lv_iload_n hx hb dX7_openPast_54 rfl (lv_at hl 4 rfl) ?_
          refine lv_iand hx hb dX7_openPast_55 ?_
          refine lv_if_eq (tgt := 68) hx hb dX7_openPast_56 (by decide) (fun q16 => ?_) (fun q16 => ?_)
          · have h := ip h q16
            obtain ⟨v4_17, q18, h⟩ := nm_o h
            refine lv_iinc (v := v4_17) (lv' := [(4, .int v4_17), (0, .ref (gad G 0)), (1, .int v1), (3, .int v3), (2, .int v2)]) hx hb dX7_openPast_68 hl (k := 2) rfl q18.symm (by decide) rfl (fun ls hl => ?_)
            refine lv_goto (tgt := 20) hx hb dX7_openPast_71 (by decide) ?_
            exact ih v4_17 v3 v2 e1 h hk H locs ls B (lv_sub hl [1, 2, 0, 3, 4] rfl)
          · have h := ig h q16
            refine lv_iload_n hx hb dX7_openPast_59 rfl (lv_at hl 4 rfl) ?_
            refine lv_iconst (v := (1 : Int32)) hx hb dX7_openPast_60 rfl ?_
            refine lv_iload hx hb dX7_openPast_61 (lv_at hl 2 rfl) ?_
            refine lv_ishl hx hb dX7_openPast_63 ?_
            refine lv_ior hx hb dX7_openPast_64 ?_
            obtain ⟨v2_19, q20, h⟩ := nm_o h
            refine r_nm q20 ?_
            refine lv_istore_n (lv' := [(2, .int v2_19), (0, .ref (gad G 0)), (1, .int v1), (4, .int v4), (3, .int v3)]) hx hb dX7_openPast_65 rfl hl (by decide) rfl (fun ls hl => ?_)
            refine lv_iconst (v := (1 : Int32)) hx hb dX7_openPast_66 rfl ?_
            refine lv_istore_n (lv' := [(3, .int (1 : Int32)), (2, .int v2_19), (0, .ref (gad G 0)), (1, .int v1), (4, .int v4)]) hx hb dX7_openPast_67 rfl hl (by decide) rfl (fun ls hl => ?_)
            obtain ⟨v4_21, q22, h⟩ := nm_o h
            refine lv_iinc (v := v4_21) (lv' := [(4, .int v4_21), (3, .int (1 : Int32)), (2, .int v2_19), (0, .ref (gad G 0)), (1, .int v1)]) hx hb dX7_openPast_68 hl (k := 4) rfl q22.symm (by decide) rfl (fun ls hl => ?_)
            refine lv_goto (tgt := 20) hx hb dX7_openPast_71 (by decide) ?_
            exact ih v4_21 (1 : Int32) v2_19 e1 h hk H locs ls B (lv_sub hl [3, 4, 0, 1, 2] rfl)
set_option maxRecDepth 100000 in
set_option maxHeartbeats 4000000 in
theorem l_X7_openPast_L1 {G : GT} {p : Program} {e : Env} {s : State} {m : MethodId} {args : Array Value} {below : List Frame} {meth : Method} {c : Code} {Q : State → Prop} (C : CT G p s m meth c args cX7_openPast 5 RX7) (hr : meth.sig.returnType = (some .int)) (n : Nat) (s0 : ST) (v1 : Int32) : ∀ (k : Nat) (v3 : Int32) (v2 : Int32) (e1 : Int32), X7_openPast_L1 n s0 v1 k v3 v2 = some e1 → Kn G p e rm_X7_openPast s m args below meth c Q 5 77 [(2, .int e1)] (wM G s0) → Kn G p e rm_X7_openPast s m args below meth c Q 5 11 [(0, .ref (gad G 0)), (1, .int v1), (3, .int v3), (2, .int v2)] (wM G s0) := by
  have hx := C.1
  have hb := C.2.1
  intro k
  induction k with
  | zero =>
    intro v3 v2 e1 h
    exact nso h
  | succ k ih =>
    intro v3 v2 e1 h hk H locs ls B hl
    have h : X7_openPast_L1_b n s0 v1 (X7_openPast_L1 n s0 v1 k) v3 v2 = some e1 := h
    unfold X7_openPast_L1_b at h
    refine lv_iload_n hx hb dX7_openPast_11 rfl (lv_at hl 2 rfl) ?_
    refine lv_if_eq (tgt := 77) hx hb dX7_openPast_12 (by decide) (fun q3 => ?_) (fun q3 => ?_)
    · have h := ip h q3
      obtain rfl := ret1 h
      exact hk H locs ls B (lv_sub hl [3] rfl)
    · have h := ig h q3
      refine lv_iconst (v := (0 : Int32)) hx hb dX7_openPast_15 rfl ?_
      refine lv_istore_n (lv' := [(3, .int (0 : Int32)), (0, .ref (gad G 0)), (1, .int v1), (2, .int v2)]) hx hb dX7_openPast_16 rfl hl (by decide) rfl (fun ls hl => ?_)
      refine lv_iconst (v := (0 : Int32)) hx hb dX7_openPast_17 rfl ?_
      refine lv_istore (lv' := [(4, .int (0 : Int32)), (3, .int (0 : Int32)), (0, .ref (gad G 0)), (1, .int v1), (2, .int v2)]) hx hb dX7_openPast_18 hl (by decide) rfl (fun ls hl => ?_)
      obtain ⟨e23, q24, h⟩ := bd_o h
      refine l_X7_openPast_L2 C hr s0 v1 n (0 : Int32) (0 : Int32) v2 e23 q24 ?_ H locs ls B (lv_sub hl [2, 3, 0, 1, 4] rfl)
      intro H locs ls B hl
      refine lv_goto (tgt := 11) hx hb dX7_openPast_74 (by decide) ?_
      exact ih e23.1 e23.2 e1 h hk H locs ls B (lv_sub hl [0, 1, 2, 3] rfl)
set_option maxRecDepth 100000 in
set_option maxHeartbeats 4000000 in
theorem c_X7_openPast (G : GT) (n : Nat) (s0 : ST) (v1 : Int32) (r : Int32) (h : X7_openPast n s0 v1 = some r) : Con G yX7_openPast cX7_openPast 5 (some .int) rm_X7_openPast [.ref (gad G 0), .int v1] (wM G s0) (some (.int r)) (wM G s0) := by
  unfold X7_openPast at h
  refine con_of (by decide +kernel) (Nat.le_of_ble_eq_true rfl) (fun {p e s m below meth c} C hr {H locs ls} B hl => ?_)
  have hx := C.1
  have hb := C.2.1
  have hl : lv_has ls 5 [(0, .ref (gad G 0)), (1, .int v1)] := hl
  refine lv_aload_n hx hb dX7_openPast_0 rfl (lv_at hl 0 rfl) ?_
  refine r_get C B fo_X7_74 (cM_0 G s0) rfl dX7_openPast_1 ?_
  refine lv_iload_n hx hb dX7_openPast_4 rfl (lv_at hl 1 rfl) ?_
  refine lv_iconst (v := (-1 : Int32)) hx hb dX7_openPast_5 rfl ?_
  refine lv_ixor hx hb dX7_openPast_6 ?_
  refine lv_iand hx hb dX7_openPast_7 ?_
  obtain ⟨v2_1, q2, h⟩ := nm_o h
  refine r_nm q2 ?_
  refine lv_istore_n (lv' := [(2, .int v2_1), (0, .ref (gad G 0)), (1, .int v1)]) hx hb dX7_openPast_8 rfl hl (by decide) rfl (fun ls hl => ?_)
  refine lv_iconst (v := (1 : Int32)) hx hb dX7_openPast_9 rfl ?_
  refine lv_istore_n (lv' := [(3, .int (1 : Int32)), (2, .int v2_1), (0, .ref (gad G 0)), (1, .int v1)]) hx hb dX7_openPast_10 rfl hl (by decide) rfl (fun ls hl => ?_)
  obtain ⟨e25, q26, h⟩ := bd_o h
  refine l_X7_openPast_L1 C hr n s0 v1 n (1 : Int32) v2_1 e25 q26 ?_ H locs ls B (lv_sub hl [2, 3, 0, 1] rfl)
  intro H locs ls B hl
  refine lv_iload_n hx hb dX7_openPast_77 rfl (lv_at hl 0 rfl) ?_
  obtain rfl := ret1 h
  exact r_iret C B hr rfl dX7_openPast_78
def rm_X7_layCuts : Room := { frames := 2, cells := 0, slots := 0, locals := 45 }
set_option maxRecDepth 100000 in
set_option maxHeartbeats 4000000 in
theorem l_X7_layCuts_L1 {G : GT} {p : Program} {e : Env} {s : State} {m : MethodId} {args : Array Value} {below : List Frame} {meth : Method} {c : Code} {Q : State → Prop} (C : CT G p s m meth c args cX7_layCuts 2 RX7) (hr : meth.sig.returnType = none) (n : Nat) : ∀ (k : Nat) (v1 : Int32) (s0 : ST) (e1 : ST), X7_layCuts_L1 n k v1 s0 = some e1 → Kn G p e rm_X7_layCuts s m args below meth c Q 2 27 [] (wM G e1) → Kn G p e rm_X7_layCuts s m args below meth c Q 2 2 [(0, .ref (gad G 0)), (1, .int v1)] (wM G s0) := by
  have hx := C.1
  have hb := C.2.1
  intro k
  induction k with
  | zero =>
    intro v1 s0 e1 h
    exact nso h
  | succ k ih =>
    intro v1 s0 e1 h hk H locs ls B hl
    have h : X7_layCuts_L1_b n (X7_layCuts_L1 n k) v1 s0 = some e1 := h
    unfold X7_layCuts_L1_b at h
    refine lv_iload_n hx hb dX7_layCuts_2 rfl (lv_at hl 1 rfl) ?_
    refine lv_aload_n hx hb dX7_layCuts_3 rfl (lv_at hl 0 rfl) ?_
    obtain ⟨r2, q1, h⟩ := bd_o h
    refine r_callVi (rest := [.int v1]) C B hl (c_X7_all G s0 r2 q1) cs_X7_67 (cM_0 G s0) rfl rfl rfl (Nat.le_of_ble_eq_true rfl) ⟨rfl, rfl, Nat.le_of_ble_eq_true rfl, Nat.le_of_ble_eq_true rfl⟩ dX7_layCuts_4 (fun H locs B => ?_)
    refine lv_icmp_gt (tgt := 27) hx hb dX7_layCuts_7 (by decide) (fun q3 => ?_) (fun q3 => ?_)
    · have h := ip h q3
      obtain rfl := ret1 h
      exact hk H locs ls B (lv_sub hl [] rfl)
    · have h := ig h q3
      refine lv_aload_n hx hb dX7_layCuts_10 rfl (lv_at hl 0 rfl) ?_
      refine r_get C B fo_X7_35 (cM_0 G s0) rfl dX7_layCuts_11 ?_
      refine lv_iload_n hx hb dX7_layCuts_14 rfl (lv_at hl 1 rfl) ?_
      refine lv_aload_n hx hb dX7_layCuts_15 rfl (lv_at hl 0 rfl) ?_
      refine lv_iload_n hx hb dX7_layCuts_16 rfl (lv_at hl 1 rfl) ?_
      obtain ⟨r5, q4, h⟩ := bd_o h
      refine r_callVi (rest := [.int v1, .ref (gad G 8)]) C B hl (c_X7_openPast G n s0 v1 r5 q4) cs_X7_87 (cM_0 G s0) rfl rfl rfl (Nat.le_of_ble_eq_true rfl) ⟨rfl, rfl, Nat.le_of_ble_eq_true rfl, Nat.le_of_ble_eq_true rfl⟩ dX7_layCuts_17 (fun H locs B => ?_)
      obtain ⟨q6, h⟩ := gd_o h
      obtain ⟨s7, q8, h⟩ := nm_o h
      refine r_iast C B (cM_8 G s0) (inb_vp q6) ((uMa_7 G s0 _).trans (congrArg (wM G) q8.symm)) dX7_layCuts_20 (fun H locs B => ?_)
      obtain ⟨v1_9, q10, h⟩ := nm_o h
      refine lv_iinc (v := v1_9) (lv' := [(1, .int v1_9), (0, .ref (gad G 0))]) hx hb dX7_layCuts_21 hl (k := 1) rfl q10.symm (by decide) rfl (fun ls hl => ?_)
      refine lv_goto (tgt := 2) hx hb dX7_layCuts_24 (by decide) ?_
      exact ih v1_9 s7 e1 h hk H locs ls B (lv_sub hl [1, 0] rfl)
set_option maxRecDepth 100000 in
set_option maxHeartbeats 4000000 in
theorem c_X7_layCuts (G : GT) (n : Nat) (s0 : ST)  (s' : ST) (h : X7_layCuts n s0  = some s') : Con G yX7_layCuts cX7_layCuts 2 none rm_X7_layCuts [.ref (gad G 0)] (wM G s0) none (wM G s') := by
  unfold X7_layCuts at h
  refine con_of (by decide +kernel) (Nat.le_of_ble_eq_true rfl) (fun {p e s m below meth c} C hr {H locs ls} B hl => ?_)
  have hx := C.1
  have hb := C.2.1
  have hl : lv_has ls 2 [(0, .ref (gad G 0))] := hl
  refine lv_iconst (v := (0 : Int32)) hx hb dX7_layCuts_0 rfl ?_
  refine lv_istore_n (lv' := [(1, .int (0 : Int32)), (0, .ref (gad G 0))]) hx hb dX7_layCuts_1 rfl hl (by decide) rfl (fun ls hl => ?_)
  obtain ⟨e11, q12, h⟩ := bd_o h
  refine l_X7_layCuts_L1 C hr n n (0 : Int32) s0 e11 q12 ?_ H locs ls B (lv_sub hl [1, 0] rfl)
  intro H locs ls B hl
  obtain rfl := ret1 h
  exact r_vret C B hr dX7_layCuts_27
def rm_X7_layFree : Room := { frames := 3, cells := 0, slots := 0, locals := 66 }
set_option maxRecDepth 100000 in
set_option maxHeartbeats 4000000 in
theorem l_X7_layFree_L2 {G : GT} {p : Program} {e : Env} {s : State} {m : MethodId} {args : Array Value} {below : List Frame} {meth : Method} {c : Code} {Q : State → Prop} (C : CT G p s m meth c args cX7_layFree 5 RX7) (hr : meth.sig.returnType = none) (s0 : ST) (v1 : Int32) (v2 : Int32) : ∀ (k : Nat) (v4 : Int32) (v3 : Int32) (e1 : Int32), X7_layFree_L2 s0 v2 k v4 v3 = some e1 → Kn G p e rm_X7_layFree s m args below meth c Q 5 123 [(0, .ref (gad G 0)), (1, .int v1), (2, .int v2), (3, .int e1)] (wM G s0) → Kn G p e rm_X7_layFree s m args below meth c Q 5 73 [(0, .ref (gad G 0)), (1, .int v1), (2, .int v2), (4, .int v4), (3, .int v3)] (wM G s0) := by
  have hx := C.1
  have hb := C.2.1
  intro k
  induction k with
  | zero =>
    intro v4 v3 e1 h
    exact nso h
  | succ k ih =>
    intro v4 v3 e1 h hk H locs ls B hl
    have h : X7_layFree_L2_b s0 v2 (X7_layFree_L2 s0 v2 k) v4 v3 = some e1 := h
    unfold X7_layFree_L2_b at h
    refine lv_iload hx hb dX7_layFree_73 (lv_at hl 3 rfl) ?_
    refine lv_aload_n hx hb dX7_layFree_75 rfl (lv_at hl 0 rfl) ?_
    refine r_get C B fo_X7_7 (cM_0 G s0) rfl dX7_layFree_76 ?_
    refine lv_icmp_ge (tgt := 123) hx hb dX7_layFree_79 (by decide) (fun q11 => ?_) (fun q11 => ?_)
    · have h := ip h q11
      obtain rfl := ret1 h
      exact hk H locs ls B (lv_sub hl [0, 1, 2, 4] rfl)
    · have h := ig h q11
      refine lv_iload_n hx hb dX7_layFree_82 rfl (lv_at hl 4 rfl) ?_
      refine lv_if_eq (tgt := 115) hx hb dX7_layFree_83 (by decide) (fun q12 => ?_) (fun q12 => ?_)
      · have h := ip h q12
        refine lv_iconst (v := (0 : Int32)) hx hb dX7_layFree_115 rfl ?_
        refine lv_istore_n (lv' := [(3, .int (0 : Int32)), (0, .ref (gad G 0)), (1, .int v1), (2, .int v2), (4, .int v4)]) hx hb dX7_layFree_116 rfl hl (by decide) rfl (fun ls hl => ?_)
        obtain ⟨v4_13, q14, h⟩ := nm_o h
        refine lv_iinc (v := v4_13) (lv' := [(4, .int v4_13), (3, .int (0 : Int32)), (0, .ref (gad G 0)), (1, .int v1), (2, .int v2)]) hx hb dX7_layFree_117 hl (k := 4) rfl q14.symm (by decide) rfl (fun ls hl => ?_)
        refine lv_goto (tgt := 73) hx hb dX7_layFree_120 (by decide) ?_
        exact ih v4_13 (0 : Int32) e1 h hk H locs ls B (lv_sub hl [2, 3, 4, 0, 1] rfl)
      · have h := ig h q12
        refine lv_iload_n hx hb dX7_layFree_86 rfl (lv_at hl 2 rfl) ?_
        refine lv_iload hx hb dX7_layFree_87 (lv_at hl 3 rfl) ?_
        obtain ⟨r15, q16, h⟩ := bd_o h
        refine r_callSi (rest := []) C B.2.2 hl (c_X7_has G v2 v4 r15 q16) cs_X7_77 rfl rfl (Nat.le_of_ble_eq_true rfl) ⟨rfl, rfl, Nat.le_of_ble_eq_true rfl, Nat.le_of_ble_eq_true rfl⟩ dX7_layFree_89 ?_
        refine lv_if_eq (tgt := 111) hx hb dX7_layFree_92 (by decide) (fun q17 => ?_) (fun q17 => ?_)
        · have h := ip h q17
          refine lv_iconst (v := (1 : Int32)) hx hb dX7_layFree_111 rfl ?_
          refine lv_goto (tgt := 116) hx hb dX7_layFree_112 (by decide) ?_
          refine lv_istore_n (lv' := [(3, .int (1 : Int32)), (0, .ref (gad G 0)), (1, .int v1), (2, .int v2), (4, .int v4)]) hx hb dX7_layFree_116 rfl hl (by decide) rfl (fun ls hl => ?_)
          obtain ⟨v4_18, q19, h⟩ := nm_o h
          refine lv_iinc (v := v4_18) (lv' := [(4, .int v4_18), (3, .int (1 : Int32)), (0, .ref (gad G 0)), (1, .int v1), (2, .int v2)]) hx hb dX7_layFree_117 hl (k := 4) rfl q19.symm (by decide) rfl (fun ls hl => ?_)
          refine lv_goto (tgt := 73) hx hb dX7_layFree_120 (by decide) ?_
          exact ih v4_18 (1 : Int32) e1 h hk H locs ls B (lv_sub hl [2, 3, 4, 0, 1] rfl)
        · have h := ig h q17
          refine lv_aload_n hx hb dX7_layFree_95 rfl (lv_at hl 0 rfl) ?_
          refine r_get C B fo_X7_38 (cM_0 G s0) rfl dX7_layFree_96 ?_
          refine lv_iload_n hx hb dX7_layFree_99 rfl (lv_at hl 2 rfl) ?_
          refine lv_iconst (v := (1 : Int32)) hx hb dX7_layFree_100 rfl ?_
          refine lv_iload hx hb dX7_layFree_101 (lv_at hl 3 rfl) ?_
          refine lv_ishl hx hb dX7_layFree_103 ?_
          refine lv_iconst (v := (-1 : Int32)) hx hb dX7_layFree_104 rfl ?_
          refine lv_ixor hx hb dX7_layFree_105 ?_
          refine lv_iand hx hb dX7_layFree_106 ?_
          obtain ⟨q20, h⟩ := gd_o h
          refine r_zald C B (cM_9 G s0) (inb_vp q20) dX7_layFree_107 ?_
          refine lv_if_eq (tgt := 115) hx hb dX7_layFree_108 (by decide) (fun q21 => ?_) (fun q21 => ?_)
          · have h := ip h q21
            refine lv_iconst (v := (0 : Int32)) hx hb dX7_layFree_115 rfl ?_
            refine lv_istore_n (lv' := [(3, .int (0 : Int32)), (0, .ref (gad G 0)), (1, .int v1), (2, .int v2), (4, .int v4)]) hx hb dX7_layFree_116 rfl hl (by decide) rfl (fun ls hl => ?_)
            obtain ⟨v4_22, q23, h⟩ := nm_o h
            refine lv_iinc (v := v4_22) (lv' := [(4, .int v4_22), (3, .int (0 : Int32)), (0, .ref (gad G 0)), (1, .int v1), (2, .int v2)]) hx hb dX7_layFree_117 hl (k := 4) rfl q23.symm (by decide) rfl (fun ls hl => ?_)
            refine lv_goto (tgt := 73) hx hb dX7_layFree_120 (by decide) ?_
            exact ih v4_22 (0 : Int32) e1 h hk H locs ls B (lv_sub hl [2, 3, 4, 0, 1] rfl)
          · have h := ig h q21
            refine lv_iconst (v := (1 : Int32)) hx hb dX7_layFree_111 rfl ?_
            refine lv_goto (tgt := 116) hx hb dX7_layFree_112 (by decide) ?_
            refine lv_istore_n (lv' := [(3, .int (1 : Int32)), (0, .ref (gad G 0)), (1, .int v1), (2, .int v2), (4, .int v4)]) hx hb dX7_layFree_116 rfl hl (by decide) rfl (fun ls hl => ?_)
            obtain ⟨v4_24, q25, h⟩ := nm_o h
            refine lv_iinc (v := v4_24) (lv' := [(4, .int v4_24), (3, .int (1 : Int32)), (0, .ref (gad G 0)), (1, .int v1), (2, .int v2)]) hx hb dX7_layFree_117 hl (k := 4) rfl q25.symm (by decide) rfl (fun ls hl => ?_)
            refine lv_goto (tgt := 73) hx hb dX7_layFree_120 (by decide) ?_
            exact ih v4_24 (1 : Int32) e1 h hk H locs ls B (lv_sub hl [2, 3, 4, 0, 1] rfl)
set_option maxRecDepth 100000 in
set_option maxHeartbeats 4000000 in
theorem l_X7_layFree_L1 {G : GT} {p : Program} {e : Env} {s : State} {m : MethodId} {args : Array Value} {below : List Frame} {meth : Method} {c : Code} {Q : State → Prop} (C : CT G p s m meth c args cX7_layFree 5 RX7) (hr : meth.sig.returnType = none) (n : Nat) (v1 : Int32) : ∀ (k : Nat) (v2 : Int32) (s0 : ST) (e1 : ST), X7_layFree_L1 n v1 k v2 s0 = some e1 → Kn G p e rm_X7_layFree s m args below meth c Q 5 136 [] (wM G e1) → Kn G p e rm_X7_layFree s m args below meth c Q 5 10 [(0, .ref (gad G 0)), (1, .int v1), (2, .int v2)] (wM G s0) := by
  have hx := C.1
  have hb := C.2.1
  intro k
  induction k with
  | zero =>
    intro v2 s0 e1 h
    exact nso h
  | succ k ih =>
    intro v2 s0 e1 h hk H locs ls B hl
    have h : X7_layFree_L1_b n v1 (X7_layFree_L1 n v1 k) v2 s0 = some e1 := h
    unfold X7_layFree_L1_b at h
    refine lv_iload_n hx hb dX7_layFree_10 rfl (lv_at hl 2 rfl) ?_
    refine lv_aload_n hx hb dX7_layFree_11 rfl (lv_at hl 0 rfl) ?_
    obtain ⟨r3, q2, h⟩ := bd_o h
    refine r_callVi (rest := [.int v2]) C B hl (c_X7_all G s0 r3 q2) cs_X7_67 (cM_0 G s0) rfl rfl rfl (Nat.le_of_ble_eq_true rfl) ⟨rfl, rfl, Nat.le_of_ble_eq_true rfl, Nat.le_of_ble_eq_true rfl⟩ dX7_layFree_12 (fun H locs B => ?_)
    refine lv_icmp_gt (tgt := 136) hx hb dX7_layFree_15 (by decide) (fun q4 => ?_) (fun q4 => ?_)
    · have h := ip h q4
      obtain rfl := ret1 h
      exact hk H locs ls B (lv_sub hl [] rfl)
    · have h := ig h q4
      refine lv_iload_n hx hb dX7_layFree_18 rfl (lv_at hl 1 rfl) ?_
      refine lv_if_ne (tgt := 51) hx hb dX7_layFree_19 (by decide) (fun q5 => ?_) (fun q5 => ?_)
      · have h := ig h q5
        refine lv_aload_n hx hb dX7_layFree_51 rfl (lv_at hl 0 rfl) ?_
        refine lv_iload_n hx hb dX7_layFree_52 rfl (lv_at hl 2 rfl) ?_
        refine lv_iconst (v := (0 : Int32)) hx hb dX7_layFree_53 rfl ?_
        obtain ⟨r7, q6, h⟩ := bd_o h
        refine r_callVi (rest := []) C B hl (c_X7_meeting G n s0 v2 (0 : Int32) r7 q6) cs_X7_96 (cM_0 G s0) rfl rfl rfl (Nat.le_of_ble_eq_true rfl) ⟨rfl, rfl, Nat.le_of_ble_eq_true rfl, Nat.le_of_ble_eq_true rfl⟩ dX7_layFree_54 (fun H locs B => ?_)
        refine lv_iload_n hx hb dX7_layFree_57 rfl (lv_at hl 2 rfl) ?_
        obtain ⟨r8, q9, h⟩ := bd_o h
        refine r_callSi (rest := [.int r7]) C B.2.2 hl (c_J6_bitCount G v2 r8 q9) cs_X7_81 rfl rfl (Nat.le_of_ble_eq_true rfl) ⟨rfl, rfl, Nat.le_of_ble_eq_true rfl, Nat.le_of_ble_eq_true rfl⟩ dX7_layFree_58 ?_
        refine lv_icmp_lt (tgt := 68) hx hb dX7_layFree_61 (by decide) (fun q10 => ?_) (fun q10 => ?_)
        · have h := ip h q10
          refine lv_iconst (v := (0 : Int32)) hx hb dX7_layFree_68 rfl ?_
          refine lv_istore_n (lv' := [(3, .int (0 : Int32)), (0, .ref (gad G 0)), (1, .int v1), (2, .int v2)]) hx hb dX7_layFree_69 rfl hl (by decide) rfl (fun ls hl => ?_)
          refine lv_iconst (v := (0 : Int32)) hx hb dX7_layFree_70 rfl ?_
          refine lv_istore (lv' := [(4, .int (0 : Int32)), (3, .int (0 : Int32)), (0, .ref (gad G 0)), (1, .int v1), (2, .int v2)]) hx hb dX7_layFree_71 hl (by decide) rfl (fun ls hl => ?_)
          obtain ⟨e26, q27, h⟩ := bd_o h
          refine l_X7_layFree_L2 C hr s0 v1 v2 n (0 : Int32) (0 : Int32) e26 q27 ?_ H locs ls B (lv_sub hl [2, 3, 4, 0, 1] rfl)
          intro H locs ls B hl
          refine lv_aload_n hx hb dX7_layFree_123 rfl (lv_at hl 0 rfl) ?_
          refine r_get C B fo_X7_38 (cM_0 G s0) rfl dX7_layFree_124 ?_
          refine lv_iload_n hx hb dX7_layFree_127 rfl (lv_at hl 2 rfl) ?_
          refine lv_iload_n hx hb dX7_layFree_128 rfl (lv_at hl 3 rfl) ?_
          obtain ⟨q28, h⟩ := gd_o h
          obtain ⟨q31, h⟩ := gd_o h
          obtain ⟨s29, q30, h⟩ := nm_o h
          refine r_zast C B (cM_9 G s0) (inb_vp q28) q31 ((uMa_8 G s0 _).trans (congrArg (wM G) q30.symm)) dX7_layFree_129 (fun H locs B => ?_)
          obtain ⟨v2_32, q33, h⟩ := nm_o h
          refine lv_iinc (v := v2_32) (lv' := [(2, .int v2_32), (0, .ref (gad G 0)), (1, .int v1), (3, .int e26)]) hx hb dX7_layFree_130 hl (k := 2) rfl q33.symm (by decide) rfl (fun ls hl => ?_)
          refine lv_goto (tgt := 10) hx hb dX7_layFree_133 (by decide) ?_
          exact ih v2_32 s29 e1 h hk H locs ls B (lv_sub hl [1, 2, 0] rfl)
        · have h := ig h q10
          refine lv_iconst (v := (1 : Int32)) hx hb dX7_layFree_64 rfl ?_
          refine lv_goto (tgt := 69) hx hb dX7_layFree_65 (by decide) ?_
          refine lv_istore_n (lv' := [(3, .int (1 : Int32)), (0, .ref (gad G 0)), (1, .int v1), (2, .int v2)]) hx hb dX7_layFree_69 rfl hl (by decide) rfl (fun ls hl => ?_)
          refine lv_iconst (v := (0 : Int32)) hx hb dX7_layFree_70 rfl ?_
          refine lv_istore (lv' := [(4, .int (0 : Int32)), (3, .int (1 : Int32)), (0, .ref (gad G 0)), (1, .int v1), (2, .int v2)]) hx hb dX7_layFree_71 hl (by decide) rfl (fun ls hl => ?_)
          obtain ⟨e34, q35, h⟩ := bd_o h
          refine l_X7_layFree_L2 C hr s0 v1 v2 n (0 : Int32) (1 : Int32) e34 q35 ?_ H locs ls B (lv_sub hl [2, 3, 4, 0, 1] rfl)
          intro H locs ls B hl
          refine lv_aload_n hx hb dX7_layFree_123 rfl (lv_at hl 0 rfl) ?_
          refine r_get C B fo_X7_38 (cM_0 G s0) rfl dX7_layFree_124 ?_
          refine lv_iload_n hx hb dX7_layFree_127 rfl (lv_at hl 2 rfl) ?_
          refine lv_iload_n hx hb dX7_layFree_128 rfl (lv_at hl 3 rfl) ?_
          obtain ⟨q36, h⟩ := gd_o h
          obtain ⟨q39, h⟩ := gd_o h
          obtain ⟨s37, q38, h⟩ := nm_o h
          refine r_zast C B (cM_9 G s0) (inb_vp q36) q39 ((uMa_8 G s0 _).trans (congrArg (wM G) q38.symm)) dX7_layFree_129 (fun H locs B => ?_)
          obtain ⟨v2_40, q41, h⟩ := nm_o h
          refine lv_iinc (v := v2_40) (lv' := [(2, .int v2_40), (0, .ref (gad G 0)), (1, .int v1), (3, .int e34)]) hx hb dX7_layFree_130 hl (k := 2) rfl q41.symm (by decide) rfl (fun ls hl => ?_)
          refine lv_goto (tgt := 10) hx hb dX7_layFree_133 (by decide) ?_
          exact ih v2_40 s37 e1 h hk H locs ls B (lv_sub hl [1, 2, 0] rfl)
      · have h := ip h q5
        refine lv_aload_n hx hb dX7_layFree_22 rfl (lv_at hl 0 rfl) ?_
        refine r_get C B fo_X7_38 (cM_0 G s0) rfl dX7_layFree_23 ?_
        refine lv_iload_n hx hb dX7_layFree_26 rfl (lv_at hl 2 rfl) ?_
        refine lv_aload_n hx hb dX7_layFree_27 rfl (lv_at hl 0 rfl) ?_
        refine lv_iload_n hx hb dX7_layFree_28 rfl (lv_at hl 2 rfl) ?_
        obtain ⟨r43, q42, h⟩ := bd_o h
        refine r_callVi (rest := [.int v2, .ref (gad G 9)]) C B hl (c_X7_cutOf G n s0 v2 r43 q42) cs_X7_93 (cM_0 G s0) rfl rfl rfl (Nat.le_of_ble_eq_true rfl) ⟨rfl, rfl, Nat.le_of_ble_eq_true rfl, Nat.le_of_ble_eq_true rfl⟩ dX7_layFree_29 (fun H locs B => ?_)
        obtain ⟨r44, q45, h⟩ := bd_o h
        refine r_callSi (rest := [.int v2, .ref (gad G 9)]) C B.2.2 hl (c_J6_bitCount G r43 r44 q45) cs_X7_81 rfl rfl (Nat.le_of_ble_eq_true rfl) ⟨rfl, rfl, Nat.le_of_ble_eq_true rfl, Nat.le_of_ble_eq_true rfl⟩ dX7_layFree_32 ?_
        refine lv_iload_n hx hb dX7_layFree_35 rfl (lv_at hl 2 rfl) ?_
        obtain ⟨r46, q47, h⟩ := bd_o h
        refine r_callSi (rest := [.int r44, .int v2, .ref (gad G 9)]) C B.2.2 hl (c_J6_bitCount G v2 r46 q47) cs_X7_81 rfl rfl (Nat.le_of_ble_eq_true rfl) ⟨rfl, rfl, Nat.le_of_ble_eq_true rfl, Nat.le_of_ble_eq_true rfl⟩ dX7_layFree_36 ?_
        refine lv_icmp_ne (tgt := 46) hx hb dX7_layFree_39 (by decide) (fun q48 => ?_) (fun q48 => ?_)
        · have h := ig h q48
          refine lv_iconst (v := (0 : Int32)) hx hb dX7_layFree_46 rfl ?_
          obtain ⟨q49, h⟩ := gd_o h
          obtain ⟨q52, h⟩ := gd_o h
          obtain ⟨s50, q51, h⟩ := nm_o h
          refine r_zast C B (cM_9 G s0) (inb_vp q49) q52 ((uMa_8 G s0 _).trans (congrArg (wM G) q51.symm)) dX7_layFree_47 (fun H locs B => ?_)
          refine lv_goto (tgt := 130) hx hb dX7_layFree_48 (by decide) ?_
          obtain ⟨v2_53, q54, h⟩ := nm_o h
          refine lv_iinc (v := v2_53) (lv' := [(2, .int v2_53), (0, .ref (gad G 0)), (1, .int v1)]) hx hb dX7_layFree_130 hl (k := 2) rfl q54.symm (by decide) rfl (fun ls hl => ?_)
          refine lv_goto (tgt := 10) hx hb dX7_layFree_133 (by decide) ?_
          exact ih v2_53 s50 e1 h hk H locs ls B (lv_sub hl [1, 2, 0] rfl)
        · have h := ip h q48
          refine lv_iconst (v := (1 : Int32)) hx hb dX7_layFree_42 rfl ?_
          refine lv_goto (tgt := 47) hx hb dX7_layFree_43 (by decide) ?_
          obtain ⟨q55, h⟩ := gd_o h
          obtain ⟨q58, h⟩ := gd_o h
          obtain ⟨s56, q57, h⟩ := nm_o h
          refine r_zast C B (cM_9 G s0) (inb_vp q55) q58 ((uMa_8 G s0 _).trans (congrArg (wM G) q57.symm)) dX7_layFree_47 (fun H locs B => ?_)
          refine lv_goto (tgt := 130) hx hb dX7_layFree_48 (by decide) ?_
          obtain ⟨v2_59, q60, h⟩ := nm_o h
          refine lv_iinc (v := v2_59) (lv' := [(2, .int v2_59), (0, .ref (gad G 0)), (1, .int v1)]) hx hb dX7_layFree_130 hl (k := 2) rfl q60.symm (by decide) rfl (fun ls hl => ?_)
          refine lv_goto (tgt := 10) hx hb dX7_layFree_133 (by decide) ?_
          exact ih v2_59 s56 e1 h hk H locs ls B (lv_sub hl [1, 2, 0] rfl)
set_option maxRecDepth 100000 in
set_option maxHeartbeats 4000000 in
theorem c_X7_layFree (G : GT) (n : Nat) (s0 : ST) (v1 : Int32) (s' : ST) (h : X7_layFree n s0 v1 = some s') : Con G yX7_layFree cX7_layFree 5 none rm_X7_layFree [.ref (gad G 0), .int v1] (wM G s0) none (wM G s') := by
  unfold X7_layFree at h
  refine con_of (by decide +kernel) (Nat.le_of_ble_eq_true rfl) (fun {p e s m below meth c} C hr {H locs ls} B hl => ?_)
  have hx := C.1
  have hb := C.2.1
  have hl : lv_has ls 5 [(0, .ref (gad G 0)), (1, .int v1)] := hl
  refine lv_iload_n hx hb dX7_layFree_0 rfl (lv_at hl 1 rfl) ?_
  refine lv_if_ne (tgt := 8) hx hb dX7_layFree_1 (by decide) (fun q1 => ?_) (fun q1 => ?_)
  · have h := ig h q1
    refine lv_iconst (v := (0 : Int32)) hx hb dX7_layFree_8 rfl ?_
    refine lv_istore_n (lv' := [(2, .int (0 : Int32)), (0, .ref (gad G 0)), (1, .int v1)]) hx hb dX7_layFree_9 rfl hl (by decide) rfl (fun ls hl => ?_)
    obtain ⟨e61, q62, h⟩ := bd_o h
    refine l_X7_layFree_L1 C hr n v1 n (0 : Int32) s0 e61 q62 ?_ H locs ls B (lv_sub hl [1, 2, 0] rfl)
    intro H locs ls B hl
    obtain rfl := ret1 h
    exact r_vret C B hr dX7_layFree_136
  · have h := ip h q1
    refine lv_aload_n hx hb dX7_layFree_4 rfl (lv_at hl 0 rfl) ?_
    obtain ⟨s64, q63, h⟩ := bd_o h
    refine r_callVv (rest := []) C B hl (c_X7_layCuts G n s0 s64 q63) cs_X7_90 (cM_0 G s0) rfl rfl rfl (Nat.le_of_ble_eq_true rfl) ⟨rfl, rfl, Nat.le_of_ble_eq_true rfl, Nat.le_of_ble_eq_true rfl⟩ dX7_layFree_5 (fun H locs B => ?_)
    refine lv_iconst (v := (0 : Int32)) hx hb dX7_layFree_8 rfl ?_
    refine lv_istore_n (lv' := [(2, .int (0 : Int32)), (0, .ref (gad G 0)), (1, .int v1)]) hx hb dX7_layFree_9 rfl hl (by decide) rfl (fun ls hl => ?_)
    obtain ⟨e65, q66, h⟩ := bd_o h
    refine l_X7_layFree_L1 C hr n v1 n (0 : Int32) s64 e65 q66 ?_ H locs ls B (lv_sub hl [1, 2, 0] rfl)
    intro H locs ls B hl
    obtain rfl := ret1 h
    exact r_vret C B hr dX7_layFree_136
def rm_X7_layRanks : Room := { frames := 1, cells := 0, slots := 0, locals := 21 }
set_option maxRecDepth 100000 in
set_option maxHeartbeats 4000000 in
theorem l_X7_layRanks_L2 {G : GT} {p : Program} {e : Env} {s : State} {m : MethodId} {args : Array Value} {below : List Frame} {meth : Method} {c : Code} {Q : State → Prop} (C : CT G p s m meth c args cX7_layRanks 4 RX7) (hr : meth.sig.returnType = none) (s0 : ST) (v1 : Int32) : ∀ (k : Nat) (v3 : Int32) (v2 : Int32) (e1 : Int32), X7_layRanks_L2 s0 v1 k v3 v2 = some e1 → Kn G p e rm_X7_layRanks s m args below meth c Q 4 69 [(0, .ref (gad G 0)), (1, .int v1), (2, .int e1)] (wM G s0) → Kn G p e rm_X7_layRanks s m args below meth c Q 4 30 [(0, .ref (gad G 0)), (1, .int v1), (3, .int v3), (2, .int v2)] (wM G s0) := by
  have hx := C.1
  have hb := C.2.1
  intro k
  induction k with
  | zero =>
    intro v3 v2 e1 h
    exact nso h
  | succ k ih =>
    intro v3 v2 e1 h hk H locs ls B hl
    have h : X7_layRanks_L2_b s0 v1 (X7_layRanks_L2 s0 v1 k) v3 v2 = some e1 := h
    unfold X7_layRanks_L2_b at h
    refine lv_iload_n hx hb dX7_layRanks_30 rfl (lv_at hl 2 rfl) ?_
    refine lv_aload_n hx hb dX7_layRanks_31 rfl (lv_at hl 0 rfl) ?_
    refine r_get C B fo_X7_7 (cM_0 G s0) rfl dX7_layRanks_32 ?_
    refine lv_icmp_ge (tgt := 69) hx hb dX7_layRanks_35 (by decide) (fun q6 => ?_) (fun q6 => ?_)
    · have h := ip h q6
      obtain rfl := ret1 h
      exact hk H locs ls B (lv_sub hl [0, 1, 3] rfl)
    · have h := ig h q6
      refine lv_iload_n hx hb dX7_layRanks_38 rfl (lv_at hl 1 rfl) ?_
      refine lv_iload_n hx hb dX7_layRanks_39 rfl (lv_at hl 2 rfl) ?_
      obtain ⟨r7, q8, h⟩ := bd_o h
      refine r_callSi (rest := []) C B.2.2 hl (c_X7_has G v1 v3 r7 q8) cs_X7_77 rfl rfl (Nat.le_of_ble_eq_true rfl) ⟨rfl, rfl, Nat.le_of_ble_eq_true rfl, Nat.le_of_ble_eq_true rfl⟩ dX7_layRanks_40 ?_
      refine lv_if_eq (tgt := 63) hx hb dX7_layRanks_43 (by decide) (fun q9 => ?_) (fun q9 => ?_)
      · have h := ip h q9
        obtain ⟨v3_10, q11, h⟩ := nm_o h
        refine lv_iinc (v := v3_10) (lv' := [(3, .int v3_10), (0, .ref (gad G 0)), (1, .int v1), (2, .int v2)]) hx hb dX7_layRanks_63 hl (k := 2) rfl q11.symm (by decide) rfl (fun ls hl => ?_)
        refine lv_goto (tgt := 30) hx hb dX7_layRanks_66 (by decide) ?_
        exact ih v3_10 v2 e1 h hk H locs ls B (lv_sub hl [1, 2, 0, 3] rfl)
      · have h := ig h q9
        refine lv_iload_n hx hb dX7_layRanks_46 rfl (lv_at hl 3 rfl) ?_
        refine lv_aload_n hx hb dX7_layRanks_47 rfl (lv_at hl 0 rfl) ?_
        refine r_get C B fo_X7_45 (cM_0 G s0) rfl dX7_layRanks_48 ?_
        refine lv_iload_n hx hb dX7_layRanks_51 rfl (lv_at hl 1 rfl) ?_
        refine lv_iconst (v := (1 : Int32)) hx hb dX7_layRanks_52 rfl ?_
        refine lv_iload_n hx hb dX7_layRanks_53 rfl (lv_at hl 2 rfl) ?_
        refine lv_ishl hx hb dX7_layRanks_54 ?_
        refine lv_iconst (v := (-1 : Int32)) hx hb dX7_layRanks_55 rfl ?_
        refine lv_ixor hx hb dX7_layRanks_56 ?_
        refine lv_iand hx hb dX7_layRanks_57 ?_
        obtain ⟨q12, h⟩ := gd_o h
        refine r_iald C B (cM_11 G s0) (inb_vp q12) dX7_layRanks_58 ?_
        obtain ⟨r13, q14, h⟩ := nm_o h
        refine va_mmax hx hb (C.2.2.1.trans hl.1.symm) C.2.2.2.1 (C.2.2.2.2.1 _ wm_1044) (C.2.2.2.2.1 _ wm_415) (C.2.2.2.2.1 _ wm_70) (C.2.2.2.2.1 _ wm_416) (Nat.le_of_ble_eq_true rfl) (Nat.le_of_ble_eq_true rfl) (Nat.zero_le _) (Nat.zero_le _) dX7_layRanks_59 ?_
        refine r_nm q14 ?_
        refine lv_istore_n (lv' := [(2, .int r13), (0, .ref (gad G 0)), (1, .int v1), (3, .int v3)]) hx hb dX7_layRanks_62 rfl hl (by decide) rfl (fun ls hl => ?_)
        obtain ⟨v3_15, q16, h⟩ := nm_o h
        refine lv_iinc (v := v3_15) (lv' := [(3, .int v3_15), (2, .int r13), (0, .ref (gad G 0)), (1, .int v1)]) hx hb dX7_layRanks_63 hl (k := 3) rfl q16.symm (by decide) rfl (fun ls hl => ?_)
        refine lv_goto (tgt := 30) hx hb dX7_layRanks_66 (by decide) ?_
        exact ih v3_15 r13 e1 h hk H locs ls B (lv_sub hl [2, 3, 0, 1] rfl)
set_option maxRecDepth 100000 in
set_option maxHeartbeats 4000000 in
theorem l_X7_layRanks_L1 {G : GT} {p : Program} {e : Env} {s : State} {m : MethodId} {args : Array Value} {below : List Frame} {meth : Method} {c : Code} {Q : State → Prop} (C : CT G p s m meth c args cX7_layRanks 4 RX7) (hr : meth.sig.returnType = none) (n : Nat) : ∀ (k : Nat) (v1 : Int32) (s0 : ST) (e1 : ST), X7_layRanks_L1 n k v1 s0 = some e1 → Kn G p e rm_X7_layRanks s m args below meth c Q 4 82 [(0, .ref (gad G 0))] (wM G e1) → Kn G p e rm_X7_layRanks s m args below meth c Q 4 2 [(0, .ref (gad G 0)), (1, .int v1)] (wM G s0) := by
  have hx := C.1
  have hb := C.2.1
  intro k
  induction k with
  | zero =>
    intro v1 s0 e1 h
    exact nso h
  | succ k ih =>
    intro v1 s0 e1 h hk H locs ls B hl
    have h : X7_layRanks_L1_b n (X7_layRanks_L1 n k) v1 s0 = some e1 := h
    unfold X7_layRanks_L1_b at h
    refine lv_iload_n hx hb dX7_layRanks_2 rfl (lv_at hl 1 rfl) ?_
    refine lv_aload_n hx hb dX7_layRanks_3 rfl (lv_at hl 0 rfl) ?_
    obtain ⟨r2, q1, h⟩ := bd_o h
    refine r_callVi (rest := [.int v1]) C B hl (c_X7_all G s0 r2 q1) cs_X7_67 (cM_0 G s0) rfl rfl rfl (Nat.le_of_ble_eq_true rfl) ⟨rfl, rfl, Nat.le_of_ble_eq_true rfl, Nat.le_of_ble_eq_true rfl⟩ dX7_layRanks_4 (fun H locs B => ?_)
    refine lv_icmp_gt (tgt := 82) hx hb dX7_layRanks_7 (by decide) (fun q3 => ?_) (fun q3 => ?_)
    · have h := ip h q3
      obtain rfl := ret1 h
      exact hk H locs ls B (lv_sub hl [0] rfl)
    · have h := ig h q3
      refine lv_aload_n hx hb dX7_layRanks_10 rfl (lv_at hl 0 rfl) ?_
      refine r_get C B fo_X7_38 (cM_0 G s0) rfl dX7_layRanks_11 ?_
      refine lv_iload_n hx hb dX7_layRanks_14 rfl (lv_at hl 1 rfl) ?_
      obtain ⟨q4, h⟩ := gd_o h
      refine r_zald C B (cM_9 G s0) (inb_vp q4) dX7_layRanks_15 ?_
      refine lv_if_eq (tgt := 26) hx hb dX7_layRanks_16 (by decide) (fun q5 => ?_) (fun q5 => ?_)
      · have h := ip h q5
        refine lv_iconst (v := (0 : Int32)) hx hb dX7_layRanks_26 rfl ?_
        refine lv_istore_n (lv' := [(2, .int (0 : Int32)), (0, .ref (gad G 0)), (1, .int v1)]) hx hb dX7_layRanks_27 rfl hl (by decide) rfl (fun ls hl => ?_)
        refine lv_iconst (v := (0 : Int32)) hx hb dX7_layRanks_28 rfl ?_
        refine lv_istore_n (lv' := [(3, .int (0 : Int32)), (2, .int (0 : Int32)), (0, .ref (gad G 0)), (1, .int v1)]) hx hb dX7_layRanks_29 rfl hl (by decide) rfl (fun ls hl => ?_)
        obtain ⟨e17, q18, h⟩ := bd_o h
        refine l_X7_layRanks_L2 C hr s0 v1 n (0 : Int32) (0 : Int32) e17 q18 ?_ H locs ls B (lv_sub hl [2, 3, 0, 1] rfl)
        intro H locs ls B hl
        refine lv_aload_n hx hb dX7_layRanks_69 rfl (lv_at hl 0 rfl) ?_
        refine r_get C B fo_X7_45 (cM_0 G s0) rfl dX7_layRanks_70 ?_
        refine lv_iload_n hx hb dX7_layRanks_73 rfl (lv_at hl 1 rfl) ?_
        refine lv_iload_n hx hb dX7_layRanks_74 rfl (lv_at hl 2 rfl) ?_
        obtain ⟨q19, h⟩ := gd_o h
        obtain ⟨s20, q21, h⟩ := nm_o h
        refine r_iast C B (cM_11 G s0) (inb_vp q19) ((uMa_10 G s0 _).trans (congrArg (wM G) q21.symm)) dX7_layRanks_75 (fun H locs B => ?_)
        obtain ⟨v1_22, q23, h⟩ := nm_o h
        refine lv_iinc (v := v1_22) (lv' := [(1, .int v1_22), (0, .ref (gad G 0)), (2, .int e17)]) hx hb dX7_layRanks_76 hl (k := 1) rfl q23.symm (by decide) rfl (fun ls hl => ?_)
        refine lv_goto (tgt := 2) hx hb dX7_layRanks_79 (by decide) ?_
        exact ih v1_22 s20 e1 h hk H locs ls B (lv_sub hl [1, 0] rfl)
      · have h := ig h q5
        refine lv_iload_n hx hb dX7_layRanks_19 rfl (lv_at hl 1 rfl) ?_
        obtain ⟨r24, q25, h⟩ := bd_o h
        refine r_callSi (rest := []) C B.2.2 hl (c_J6_bitCount G v1 r24 q25) cs_X7_81 rfl rfl (Nat.le_of_ble_eq_true rfl) ⟨rfl, rfl, Nat.le_of_ble_eq_true rfl, Nat.le_of_ble_eq_true rfl⟩ dX7_layRanks_20 ?_
        refine lv_goto (tgt := 27) hx hb dX7_layRanks_23 (by decide) ?_
        refine lv_istore_n (lv' := [(2, .int r24), (0, .ref (gad G 0)), (1, .int v1)]) hx hb dX7_layRanks_27 rfl hl (by decide) rfl (fun ls hl => ?_)
        refine lv_iconst (v := (0 : Int32)) hx hb dX7_layRanks_28 rfl ?_
        refine lv_istore_n (lv' := [(3, .int (0 : Int32)), (2, .int r24), (0, .ref (gad G 0)), (1, .int v1)]) hx hb dX7_layRanks_29 rfl hl (by decide) rfl (fun ls hl => ?_)
        obtain ⟨e26, q27, h⟩ := bd_o h
        refine l_X7_layRanks_L2 C hr s0 v1 n (0 : Int32) r24 e26 q27 ?_ H locs ls B (lv_sub hl [2, 3, 0, 1] rfl)
        intro H locs ls B hl
        refine lv_aload_n hx hb dX7_layRanks_69 rfl (lv_at hl 0 rfl) ?_
        refine r_get C B fo_X7_45 (cM_0 G s0) rfl dX7_layRanks_70 ?_
        refine lv_iload_n hx hb dX7_layRanks_73 rfl (lv_at hl 1 rfl) ?_
        refine lv_iload_n hx hb dX7_layRanks_74 rfl (lv_at hl 2 rfl) ?_
        obtain ⟨q28, h⟩ := gd_o h
        obtain ⟨s29, q30, h⟩ := nm_o h
        refine r_iast C B (cM_11 G s0) (inb_vp q28) ((uMa_10 G s0 _).trans (congrArg (wM G) q30.symm)) dX7_layRanks_75 (fun H locs B => ?_)
        obtain ⟨v1_31, q32, h⟩ := nm_o h
        refine lv_iinc (v := v1_31) (lv' := [(1, .int v1_31), (0, .ref (gad G 0)), (2, .int e26)]) hx hb dX7_layRanks_76 hl (k := 1) rfl q32.symm (by decide) rfl (fun ls hl => ?_)
        refine lv_goto (tgt := 2) hx hb dX7_layRanks_79 (by decide) ?_
        exact ih v1_31 s29 e1 h hk H locs ls B (lv_sub hl [1, 0] rfl)
set_option maxRecDepth 100000 in
set_option maxHeartbeats 4000000 in
theorem l_X7_layRanks_L3 {G : GT} {p : Program} {e : Env} {s : State} {m : MethodId} {args : Array Value} {below : List Frame} {meth : Method} {c : Code} {Q : State → Prop} (C : CT G p s m meth c args cX7_layRanks 4 RX7) (hr : meth.sig.returnType = none) : ∀ (k : Nat) (v1 : Int32) (s0 : ST) (e1 : ST), X7_layRanks_L3  k v1 s0 = some e1 → Kn G p e rm_X7_layRanks s m args below meth c Q 4 134 [] (wM G e1) → Kn G p e rm_X7_layRanks s m args below meth c Q 4 84 [(0, .ref (gad G 0)), (1, .int v1)] (wM G s0) := by
  have hx := C.1
  have hb := C.2.1
  intro k
  induction k with
  | zero =>
    intro v1 s0 e1 h
    exact nso h
  | succ k ih =>
    intro v1 s0 e1 h hk H locs ls B hl
    have h : X7_layRanks_L3_b  (X7_layRanks_L3  k) v1 s0 = some e1 := h
    unfold X7_layRanks_L3_b at h
    refine lv_iload_n hx hb dX7_layRanks_84 rfl (lv_at hl 1 rfl) ?_
    refine lv_aload_n hx hb dX7_layRanks_85 rfl (lv_at hl 0 rfl) ?_
    obtain ⟨r36, q35, h⟩ := bd_o h
    refine r_callVi (rest := [.int v1]) C B hl (c_X7_all G s0 r36 q35) cs_X7_67 (cM_0 G s0) rfl rfl rfl (Nat.le_of_ble_eq_true rfl) ⟨rfl, rfl, Nat.le_of_ble_eq_true rfl, Nat.le_of_ble_eq_true rfl⟩ dX7_layRanks_86 (fun H locs B => ?_)
    refine lv_icmp_gt (tgt := 134) hx hb dX7_layRanks_89 (by decide) (fun q37 => ?_) (fun q37 => ?_)
    · have h := ip h q37
      obtain rfl := ret1 h
      exact hk H locs ls B (lv_sub hl [] rfl)
    · have h := ig h q37
      refine lv_aload_n hx hb dX7_layRanks_92 rfl (lv_at hl 0 rfl) ?_
      refine r_get C B fo_X7_42 (cM_0 G s0) rfl dX7_layRanks_93 ?_
      refine lv_iload_n hx hb dX7_layRanks_96 rfl (lv_at hl 1 rfl) ?_
      refine lv_aload_n hx hb dX7_layRanks_97 rfl (lv_at hl 0 rfl) ?_
      refine r_get C B fo_X7_38 (cM_0 G s0) rfl dX7_layRanks_98 ?_
      refine lv_iload_n hx hb dX7_layRanks_101 rfl (lv_at hl 1 rfl) ?_
      obtain ⟨q38, h⟩ := gd_o h
      refine r_zald C B (cM_9 G s0) (inb_vp q38) dX7_layRanks_102 ?_
      refine lv_if_eq (tgt := 126) hx hb dX7_layRanks_103 (by decide) (fun q39 => ?_) (fun q39 => ?_)
      · have h := ip h q39
        refine lv_iconst (v := (0 : Int32)) hx hb dX7_layRanks_126 rfl ?_
        obtain ⟨q40, h⟩ := gd_o h
        obtain ⟨q43, h⟩ := gd_o h
        obtain ⟨s41, q42, h⟩ := nm_o h
        refine r_zast C B (cM_10 G s0) (inb_vp q40) q43 ((uMa_9 G s0 _).trans (congrArg (wM G) q42.symm)) dX7_layRanks_127 (fun H locs B => ?_)
        obtain ⟨v1_44, q45, h⟩ := nm_o h
        refine lv_iinc (v := v1_44) (lv' := [(1, .int v1_44), (0, .ref (gad G 0))]) hx hb dX7_layRanks_128 hl (k := 1) rfl q45.symm (by decide) rfl (fun ls hl => ?_)
        refine lv_goto (tgt := 84) hx hb dX7_layRanks_131 (by decide) ?_
        exact ih v1_44 s41 e1 h hk H locs ls B (lv_sub hl [1, 0] rfl)
      · have h := ig h q39
        refine lv_iload_n hx hb dX7_layRanks_106 rfl (lv_at hl 1 rfl) ?_
        obtain ⟨r46, q47, h⟩ := bd_o h
        refine r_callSi (rest := [.int v1, .ref (gad G 10)]) C B.2.2 hl (c_J6_bitCount G v1 r46 q47) cs_X7_81 rfl rfl (Nat.le_of_ble_eq_true rfl) ⟨rfl, rfl, Nat.le_of_ble_eq_true rfl, Nat.le_of_ble_eq_true rfl⟩ dX7_layRanks_107 ?_
        refine lv_aload_n hx hb dX7_layRanks_110 rfl (lv_at hl 0 rfl) ?_
        refine r_get C B fo_X7_45 (cM_0 G s0) rfl dX7_layRanks_111 ?_
        refine lv_aload_n hx hb dX7_layRanks_114 rfl (lv_at hl 0 rfl) ?_
        obtain ⟨r49, q48, h⟩ := bd_o h
        refine r_callVi (rest := [.ref (gad G 11), .int r46, .int v1, .ref (gad G 10)]) C B hl (c_X7_all G s0 r49 q48) cs_X7_67 (cM_0 G s0) rfl rfl rfl (Nat.le_of_ble_eq_true rfl) ⟨rfl, rfl, Nat.le_of_ble_eq_true rfl, Nat.le_of_ble_eq_true rfl⟩ dX7_layRanks_115 (fun H locs B => ?_)
        obtain ⟨q50, h⟩ := gd_o h
        refine r_iald C B (cM_11 G s0) (inb_vp q50) dX7_layRanks_118 ?_
        refine lv_icmp_ne (tgt := 126) hx hb dX7_layRanks_119 (by decide) (fun q51 => ?_) (fun q51 => ?_)
        · have h := ig h q51
          refine lv_iconst (v := (0 : Int32)) hx hb dX7_layRanks_126 rfl ?_
          obtain ⟨q52, h⟩ := gd_o h
          obtain ⟨q55, h⟩ := gd_o h
          obtain ⟨s53, q54, h⟩ := nm_o h
          refine r_zast C B (cM_10 G s0) (inb_vp q52) q55 ((uMa_9 G s0 _).trans (congrArg (wM G) q54.symm)) dX7_layRanks_127 (fun H locs B => ?_)
          obtain ⟨v1_56, q57, h⟩ := nm_o h
          refine lv_iinc (v := v1_56) (lv' := [(1, .int v1_56), (0, .ref (gad G 0))]) hx hb dX7_layRanks_128 hl (k := 1) rfl q57.symm (by decide) rfl (fun ls hl => ?_)
          refine lv_goto (tgt := 84) hx hb dX7_layRanks_131 (by decide) ?_
          exact ih v1_56 s53 e1 h hk H locs ls B (lv_sub hl [1, 0] rfl)
        · have h := ip h q51
          refine lv_iconst (v := (1 : Int32)) hx hb dX7_layRanks_122 rfl ?_
          refine lv_goto (tgt := 127) hx hb dX7_layRanks_123 (by decide) ?_
          obtain ⟨q58, h⟩ := gd_o h
          obtain ⟨q61, h⟩ := gd_o h
          obtain ⟨s59, q60, h⟩ := nm_o h
          refine r_zast C B (cM_10 G s0) (inb_vp q58) q61 ((uMa_9 G s0 _).trans (congrArg (wM G) q60.symm)) dX7_layRanks_127 (fun H locs B => ?_)
          obtain ⟨v1_62, q63, h⟩ := nm_o h
          refine lv_iinc (v := v1_62) (lv' := [(1, .int v1_62), (0, .ref (gad G 0))]) hx hb dX7_layRanks_128 hl (k := 1) rfl q63.symm (by decide) rfl (fun ls hl => ?_)
          refine lv_goto (tgt := 84) hx hb dX7_layRanks_131 (by decide) ?_
          exact ih v1_62 s59 e1 h hk H locs ls B (lv_sub hl [1, 0] rfl)
set_option maxRecDepth 100000 in
set_option maxHeartbeats 4000000 in
theorem c_X7_layRanks (G : GT) (n : Nat) (s0 : ST)  (s' : ST) (h : X7_layRanks n s0  = some s') : Con G yX7_layRanks cX7_layRanks 4 none rm_X7_layRanks [.ref (gad G 0)] (wM G s0) none (wM G s') := by
  unfold X7_layRanks at h
  refine con_of (by decide +kernel) (Nat.le_of_ble_eq_true rfl) (fun {p e s m below meth c} C hr {H locs ls} B hl => ?_)
  have hx := C.1
  have hb := C.2.1
  have hl : lv_has ls 4 [(0, .ref (gad G 0))] := hl
  refine lv_iconst (v := (0 : Int32)) hx hb dX7_layRanks_0 rfl ?_
  refine lv_istore_n (lv' := [(1, .int (0 : Int32)), (0, .ref (gad G 0))]) hx hb dX7_layRanks_1 rfl hl (by decide) rfl (fun ls hl => ?_)
  obtain ⟨e33, q34, h⟩ := bd_o h
  refine l_X7_layRanks_L1 C hr n n (0 : Int32) s0 e33 q34 ?_ H locs ls B (lv_sub hl [1, 0] rfl)
  intro H locs ls B hl
  refine lv_iconst (v := (0 : Int32)) hx hb dX7_layRanks_82 rfl ?_
  refine lv_istore_n (lv' := [(1, .int (0 : Int32)), (0, .ref (gad G 0))]) hx hb dX7_layRanks_83 rfl hl (by decide) rfl (fun ls hl => ?_)
  obtain ⟨e64, q65, h⟩ := bd_o h
  refine l_X7_layRanks_L3 C hr  n (0 : Int32) e33 e64 q65 ?_ H locs ls B (lv_sub hl [1, 0] rfl)
  intro H locs ls B hl
  obtain rfl := ret1 h
  exact r_vret C B hr dX7_layRanks_134
def rm_X7_isPastBase : Room := { frames := 1, cells := 0, slots := 0, locals := 20 }
set_option maxRecDepth 100000 in
set_option maxHeartbeats 4000000 in
theorem l_X7_isPastBase_L1 {G : GT} {p : Program} {e : Env} {s : State} {m : MethodId} {args : Array Value} {below : List Frame} {meth : Method} {c : Code} {Q : State → Prop} (C : CT G p s m meth c args cX7_isPastBase 3 RX7) (hr : meth.sig.returnType = (some .boolean)) (s0 : ST) (v1 : Int32) : ∀ (k : Nat) (v2 : Int32) (e1 : (Int32) ⊕ (Unit)), X7_isPastBase_L1 s0 v1 k v2 = some e1 → (∀ rv, e1 = Sum.inl rv → Q = QR G below args s (some (.int rv)) (wM G s0)) → (∀ ex, e1 = Sum.inr ex → Kn G p e rm_X7_isPastBase s m args below meth c Q 3 33 [] (wM G s0)) → Kn G p e rm_X7_isPastBase s m args below meth c Q 3 2 [(0, .ref (gad G 0)), (1, .int v1), (2, .int v2)] (wM G s0) := by
  have hx := C.1
  have hb := C.2.1
  intro k
  induction k with
  | zero =>
    intro v2 e1 h
    exact nso h
  | succ k ih =>
    intro v2 e1 h hret hk H locs ls B hl
    have h : X7_isPastBase_L1_b s0 v1 (X7_isPastBase_L1 s0 v1 k) v2 = some e1 := h
    unfold X7_isPastBase_L1_b at h
    refine lv_iload_n hx hb dX7_isPastBase_2 rfl (lv_at hl 2 rfl) ?_
    refine lv_aload_n hx hb dX7_isPastBase_3 rfl (lv_at hl 0 rfl) ?_
    obtain ⟨r2, q1, h⟩ := bd_o h
    refine r_callVi (rest := [.int v2]) C B hl (c_X7_all G s0 r2 q1) cs_X7_67 (cM_0 G s0) rfl rfl rfl (Nat.le_of_ble_eq_true rfl) ⟨rfl, rfl, Nat.le_of_ble_eq_true rfl, Nat.le_of_ble_eq_true rfl⟩ dX7_isPastBase_4 (fun H locs B => ?_)
    refine lv_icmp_gt (tgt := 33) hx hb dX7_isPastBase_7 (by decide) (fun q3 => ?_) (fun q3 => ?_)
    · have h := ip h q3
      obtain rfl := ret1 h
      exact hk _ rfl H locs ls B (lv_sub hl [] rfl)
    · have h := ig h q3
      refine lv_aload_n hx hb dX7_isPastBase_10 rfl (lv_at hl 0 rfl) ?_
      refine r_get C B fo_X7_42 (cM_0 G s0) rfl dX7_isPastBase_11 ?_
      refine lv_iload_n hx hb dX7_isPastBase_14 rfl (lv_at hl 2 rfl) ?_
      obtain ⟨q4, h⟩ := gd_o h
      refine r_zald C B (cM_10 G s0) (inb_vp q4) dX7_isPastBase_15 ?_
      refine lv_if_eq (tgt := 27) hx hb dX7_isPastBase_16 (by decide) (fun q5 => ?_) (fun q5 => ?_)
      · have h := ip h q5
        obtain ⟨v2_6, q7, h⟩ := nm_o h
        refine lv_iinc (v := v2_6) (lv' := [(2, .int v2_6), (0, .ref (gad G 0)), (1, .int v1)]) hx hb dX7_isPastBase_27 hl (k := 2) rfl q7.symm (by decide) rfl (fun ls hl => ?_)
        refine lv_goto (tgt := 2) hx hb dX7_isPastBase_30 (by decide) ?_
        exact ih v2_6 e1 h hret hk H locs ls B (lv_sub hl [1, 2, 0] rfl)
      · have h := ig h q5
        refine lv_iload_n hx hb dX7_isPastBase_19 rfl (lv_at hl 2 rfl) ?_
        refine lv_iload_n hx hb dX7_isPastBase_20 rfl (lv_at hl 1 rfl) ?_
        refine lv_iand hx hb dX7_isPastBase_21 ?_
        refine lv_if_ne (tgt := 27) hx hb dX7_isPastBase_22 (by decide) (fun q8 => ?_) (fun q8 => ?_)
        · have h := ig h q8
          obtain ⟨v2_9, q10, h⟩ := nm_o h
          refine lv_iinc (v := v2_9) (lv' := [(2, .int v2_9), (0, .ref (gad G 0)), (1, .int v1)]) hx hb dX7_isPastBase_27 hl (k := 2) rfl q10.symm (by decide) rfl (fun ls hl => ?_)
          refine lv_goto (tgt := 2) hx hb dX7_isPastBase_30 (by decide) ?_
          exact ih v2_9 e1 h hret hk H locs ls B (lv_sub hl [1, 2, 0] rfl)
        · have h := ip h q8
          refine lv_iconst (v := (1 : Int32)) hx hb dX7_isPastBase_25 rfl ?_
          obtain rfl := ret1 h
          rw [hret _ rfl]
          exact r_iret C B hr nar_1 dX7_isPastBase_26
set_option maxRecDepth 100000 in
set_option maxHeartbeats 4000000 in
theorem c_X7_isPastBase (G : GT) (n : Nat) (s0 : ST) (v1 : Int32) (r : Int32) (h : X7_isPastBase n s0 v1 = some r) : Con G yX7_isPastBase cX7_isPastBase 3 (some .boolean) rm_X7_isPastBase [.ref (gad G 0), .int v1] (wM G s0) (some (.int r)) (wM G s0) := by
  unfold X7_isPastBase at h
  refine con_of (by decide +kernel) (Nat.le_of_ble_eq_true rfl) (fun {p e s m below meth c} C hr {H locs ls} B hl => ?_)
  have hx := C.1
  have hb := C.2.1
  have hl : lv_has ls 3 [(0, .ref (gad G 0)), (1, .int v1)] := hl
  refine lv_iconst (v := (0 : Int32)) hx hb dX7_isPastBase_0 rfl ?_
  refine lv_istore_n (lv' := [(2, .int (0 : Int32)), (0, .ref (gad G 0)), (1, .int v1)]) hx hb dX7_isPastBase_1 rfl hl (by decide) rfl (fun ls hl => ?_)
  obtain ⟨e11, q12, h⟩ := bd_o h
  refine l_X7_isPastBase_L1 C hr s0 v1 n (0 : Int32) e11 q12 (fun rv q => by have h := sm_l h q; cases h; rfl) (fun e13 q14 => ?_) H locs ls B (lv_sub hl [1, 2, 0] rfl)
  have h := sm_r h q14
  intro H locs ls B hl
  refine lv_iconst (v := (0 : Int32)) hx hb dX7_isPastBase_33 rfl ?_
  obtain rfl := ret1 h
  exact r_iret C B hr nar_0 dX7_isPastBase_34
