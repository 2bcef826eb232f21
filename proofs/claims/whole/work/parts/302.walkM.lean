/-! WALKS (M 2): each method comes back with what its plain function says -/
def rm_X7_lay : Room := { frames := 4, cells := 0, slots := 0, locals := 90 }
set_option maxRecDepth 100000 in
set_option maxHeartbeats 4000000 in
theorem l_X7_lay_L1 {G : GT} {p : Program} {e : Env} {s : State} {m : MethodId} {args : Array Value} {below : List Frame} {meth : Method} {c : Code} {Q : State → Prop} (C : CT G p s m meth c args cX7_lay 3 RX7) (hr : meth.sig.returnType = none) (n : Nat) : ∀ (k : Nat) (v2 : Int32) (s0 : ST) (e1 : ST), X7_lay_L1 n k v2 s0 = some e1 → Kn G p e rm_X7_lay s m args below meth c Q 3 43 [(0, .ref (gad G 0))] (wM G e1) → Kn G p e rm_X7_lay s m args below meth c Q 3 18 [(0, .ref (gad G 0)), (2, .int v2)] (wM G s0) := by
  have hx := C.1
  have hb := C.2.1
  intro k
  induction k with
  | zero =>
    intro v2 s0 e1 h
    exact nso h
  | succ k ih =>
    intro v2 s0 e1 h hk H locs ls B hl
    have h : X7_lay_L1_b n (X7_lay_L1 n k) v2 s0 = some e1 := h
    unfold X7_lay_L1_b at h
    refine lv_iload_n hx hb dX7_lay_18 rfl (lv_at hl 1 rfl) ?_
    refine lv_aload_n hx hb dX7_lay_19 rfl (lv_at hl 0 rfl) ?_
    obtain ⟨r7, q6, h⟩ := bd_o h
    refine r_callVi (rest := [.int v2]) C B hl (c_X7_all G s0 r7 q6) cs_X7_67 (cM_0 G s0) rfl rfl rfl (Nat.le_of_ble_eq_true rfl) ⟨rfl, rfl, Nat.le_of_ble_eq_true rfl, Nat.le_of_ble_eq_true rfl⟩ dX7_lay_20 (fun H locs B => ?_)
    refine lv_icmp_gt (tgt := 43) hx hb dX7_lay_23 (by decide) (fun q8 => ?_) (fun q8 => ?_)
    · have h := ip h q8
      obtain rfl := ret1 h
      exact hk H locs ls B (lv_sub hl [0] rfl)
    · have h := ig h q8
      refine lv_aload_n hx hb dX7_lay_26 rfl (lv_at hl 0 rfl) ?_
      refine r_get C B fo_X7_38 (cM_0 G s0) rfl dX7_lay_27 ?_
      refine lv_iload_n hx hb dX7_lay_30 rfl (lv_at hl 1 rfl) ?_
      refine lv_aload_n hx hb dX7_lay_31 rfl (lv_at hl 0 rfl) ?_
      refine lv_iload_n hx hb dX7_lay_32 rfl (lv_at hl 1 rfl) ?_
      obtain ⟨r10, q9, h⟩ := bd_o h
      refine r_callVi (rest := [.int v2, .ref (gad G 9)]) C B hl (c_X7_isPastBase G n s0 v2 r10 q9) cs_X7_112 (cM_0 G s0) rfl rfl rfl (Nat.le_of_ble_eq_true rfl) ⟨rfl, rfl, Nat.le_of_ble_eq_true rfl, Nat.le_of_ble_eq_true rfl⟩ dX7_lay_33 (fun H locs B => ?_)
      obtain ⟨q11, h⟩ := gd_o h
      obtain ⟨q14, h⟩ := gd_o h
      obtain ⟨s12, q13, h⟩ := nm_o h
      refine r_zast C B (cM_9 G s0) (inb_vp q11) q14 ((uMa_8 G s0 _).trans (congrArg (wM G) q13.symm)) dX7_lay_36 (fun H locs B => ?_)
      obtain ⟨v2_15, q16, h⟩ := nm_o h
      refine lv_iinc (v := v2_15) (lv' := [(2, .int v2_15), (0, .ref (gad G 0))]) hx hb dX7_lay_37 hl (k := 1) rfl q16.symm (by decide) rfl (fun ls hl => ?_)
      refine lv_goto (tgt := 18) hx hb dX7_lay_40 (by decide) ?_
      exact ih v2_15 s12 e1 h hk H locs ls B (lv_sub hl [1, 0] rfl)
set_option maxRecDepth 100000 in
set_option maxHeartbeats 4000000 in
theorem c_X7_lay (G : GT) (n : Nat) (s0 : ST) (v1 : Int32) (s' : ST) (h : X7_lay n s0 v1 = some s') : Con G yX7_lay cX7_lay 3 none rm_X7_lay [.ref (gad G 0), .int v1] (wM G s0) none (wM G s') := by
  unfold X7_lay at h
  refine con_of (by decide +kernel) (Nat.le_of_ble_eq_true rfl) (fun {p e s m below meth c} C hr {H locs ls} B hl => ?_)
  have hx := C.1
  have hb := C.2.1
  have hl : lv_has ls 3 [(0, .ref (gad G 0)), (1, .int v1)] := hl
  refine lv_aload_n hx hb dX7_lay_0 rfl (lv_at hl 0 rfl) ?_
  refine lv_iload_n hx hb dX7_lay_1 rfl (lv_at hl 1 rfl) ?_
  refine lv_iconst (v := (2 : Int32)) hx hb dX7_lay_2 rfl ?_
  refine lv_irem hx hb dX7_lay_3 (by decide) ?_
  obtain ⟨s2, q1, h⟩ := bd_o h
  refine r_callVv (rest := []) C B hl (c_X7_layFree G n s0 (v1 - v1 / (2 : Int32) * (2 : Int32)) s2 q1) cs_X7_105 (cM_0 G s0) rfl rfl rfl (Nat.le_of_ble_eq_true rfl) ⟨rfl, rfl, Nat.le_of_ble_eq_true rfl, Nat.le_of_ble_eq_true rfl⟩ dX7_lay_4 (fun H locs B => ?_)
  refine lv_aload_n hx hb dX7_lay_7 rfl (lv_at hl 0 rfl) ?_
  obtain ⟨s4, q3, h⟩ := bd_o h
  refine r_callVv (rest := []) C B hl (c_X7_layRanks G n s2 s4 q3) cs_X7_109 (cM_0 G s2) rfl rfl rfl (Nat.le_of_ble_eq_true rfl) ⟨rfl, rfl, Nat.le_of_ble_eq_true rfl, Nat.le_of_ble_eq_true rfl⟩ dX7_lay_8 (fun H locs B => ?_)
  refine lv_iload_n hx hb dX7_lay_11 rfl (lv_at hl 1 rfl) ?_
  refine lv_iconst (v := (2 : Int32)) hx hb dX7_lay_12 rfl ?_
  refine lv_icmp_lt (tgt := 47) hx hb dX7_lay_13 (by decide) (fun q5 => ?_) (fun q5 => ?_)
  · have h := ip h q5
    obtain rfl := ret1 h
    exact r_vret C B hr dX7_lay_47
  · have h := ig h q5
    refine lv_iconst (v := (0 : Int32)) hx hb dX7_lay_16 rfl ?_
    refine lv_istore_n (lv' := [(2, .int (0 : Int32)), (0, .ref (gad G 0)), (1, .int v1)]) hx hb dX7_lay_17 rfl hl (by decide) rfl (fun ls hl => ?_)
    obtain ⟨e17, q18, h⟩ := bd_o h
    refine l_X7_lay_L1 C hr n n (0 : Int32) s4 e17 q18 ?_ H locs ls B (lv_sub hl [1, 0] rfl)
    intro H locs ls B hl
    refine lv_aload_n hx hb dX7_lay_43 rfl (lv_at hl 0 rfl) ?_
    obtain ⟨s20, q19, h⟩ := bd_o h
    refine r_callVv (rest := []) C B hl (c_X7_layRanks G n e17 s20 q19) cs_X7_109 (cM_0 G e17) rfl rfl rfl (Nat.le_of_ble_eq_true rfl) ⟨rfl, rfl, Nat.le_of_ble_eq_true rfl, Nat.le_of_ble_eq_true rfl⟩ dX7_lay_44 (fun H locs B => ?_)
    obtain rfl := ret1 h
    exact r_vret C B hr dX7_lay_47
def rm_X7_rank : Room := { frames := 5, cells := 0, slots := 0, locals := 112 }
set_option maxRecDepth 100000 in
set_option maxHeartbeats 4000000 in
theorem c_X7_rank (G : GT) (n : Nat) (s0 : ST) (v1 : Int32) (v2 : Int32) (r : Int32) (s' : ST) (h : X7_rank n s0 v1 v2 = some (r, s')) : Con G yX7_rank cX7_rank 3 (some .int) rm_X7_rank [.ref (gad G 0), .int v1, .int v2] (wM G s0) (some (.int r)) (wM G s') := by
  unfold X7_rank at h
  refine con_of (by decide +kernel) (Nat.le_of_ble_eq_true rfl) (fun {p e s m below meth c} C hr {H locs ls} B hl => ?_)
  have hx := C.1
  have hb := C.2.1
  have hl : lv_has ls 3 [(0, .ref (gad G 0)), (1, .int v1), (2, .int v2)] := hl
  refine lv_iload_n hx hb dX7_rank_0 rfl (lv_at hl 1 rfl) ?_
  obtain ⟨r1, q2, h⟩ := bd_o h
  refine r_callSi (rest := []) C B.2.2 hl (c_X7_isSide G v1 r1 q2) cs_X7_131 rfl rfl (Nat.le_of_ble_eq_true rfl) ⟨rfl, rfl, Nat.le_of_ble_eq_true rfl, Nat.le_of_ble_eq_true rfl⟩ dX7_rank_1 ?_
  refine lv_if_ne (tgt := 9) hx hb dX7_rank_4 (by decide) (fun q3 => ?_) (fun q3 => ?_)
  · have h := ig h q3
    refine lv_aload_n hx hb dX7_rank_9 rfl (lv_at hl 0 rfl) ?_
    refine lv_iload_n hx hb dX7_rank_10 rfl (lv_at hl 2 rfl) ?_
    obtain ⟨r5, q4, h⟩ := bd_o h
    refine r_callVi (rest := []) C B hl (c_X7_isSet G s0 v2 r5 q4) cs_X7_122 (cM_0 G s0) rfl rfl rfl (Nat.le_of_ble_eq_true rfl) ⟨rfl, rfl, Nat.le_of_ble_eq_true rfl, Nat.le_of_ble_eq_true rfl⟩ dX7_rank_11 (fun H locs B => ?_)
    refine lv_if_ne (tgt := 20) hx hb dX7_rank_14 (by decide) (fun q6 => ?_) (fun q6 => ?_)
    · have h := ig h q6
      refine lv_aload_n hx hb dX7_rank_20 rfl (lv_at hl 0 rfl) ?_
      refine lv_iload_n hx hb dX7_rank_21 rfl (lv_at hl 1 rfl) ?_
      obtain ⟨s8, q7, h⟩ := bd_o h
      refine r_callVv (rest := []) C B hl (c_X7_lay G n s0 v1 s8 q7) cs_X7_134 (cM_0 G s0) rfl rfl rfl (Nat.le_of_ble_eq_true rfl) ⟨rfl, rfl, Nat.le_of_ble_eq_true rfl, Nat.le_of_ble_eq_true rfl⟩ dX7_rank_22 (fun H locs B => ?_)
      refine lv_aload_n hx hb dX7_rank_25 rfl (lv_at hl 0 rfl) ?_
      refine r_get C B fo_X7_45 (cM_0 G s8) rfl dX7_rank_26 ?_
      refine lv_iload_n hx hb dX7_rank_29 rfl (lv_at hl 2 rfl) ?_
      obtain ⟨q9, h⟩ := gd_o h
      refine r_iald C B (cM_11 G s8) (inb_vp q9) dX7_rank_30 ?_
      obtain ⟨rfl, rfl⟩ := ret2 h
      exact r_iret C B hr rfl dX7_rank_31
    · have h := ip h q6
      refine lv_bipush (v := (-2 : Int32)) hx hb dX7_rank_17 rfl ?_
      obtain ⟨rfl, rfl⟩ := ret2 h
      exact r_iret C B hr rfl dX7_rank_19
  · have h := ip h q3
    refine lv_iconst (v := (-1 : Int32)) hx hb dX7_rank_7 rfl ?_
    obtain ⟨rfl, rfl⟩ := ret2 h
    exact r_iret C B hr rfl dX7_rank_8
def rm_X7_free : Room := { frames := 5, cells := 0, slots := 0, locals := 112 }
set_option maxRecDepth 100000 in
set_option maxHeartbeats 4000000 in
theorem c_X7_free (G : GT) (n : Nat) (s0 : ST) (v1 : Int32) (v2 : Int32) (r : Int32) (s' : ST) (h : X7_free n s0 v1 v2 = some (r, s')) : Con G yX7_free cX7_free 3 (some .int) rm_X7_free [.ref (gad G 0), .int v1, .int v2] (wM G s0) (some (.int r)) (wM G s') := by
  unfold X7_free at h
  refine con_of (by decide +kernel) (Nat.le_of_ble_eq_true rfl) (fun {p e s m below meth c} C hr {H locs ls} B hl => ?_)
  have hx := C.1
  have hb := C.2.1
  have hl : lv_has ls 3 [(0, .ref (gad G 0)), (1, .int v1), (2, .int v2)] := hl
  refine lv_iload_n hx hb dX7_free_0 rfl (lv_at hl 1 rfl) ?_
  obtain ⟨r1, q2, h⟩ := bd_o h
  refine r_callSi (rest := []) C B.2.2 hl (c_X7_isSide G v1 r1 q2) cs_X7_131 rfl rfl (Nat.le_of_ble_eq_true rfl) ⟨rfl, rfl, Nat.le_of_ble_eq_true rfl, Nat.le_of_ble_eq_true rfl⟩ dX7_free_1 ?_
  refine lv_if_ne (tgt := 9) hx hb dX7_free_4 (by decide) (fun q3 => ?_) (fun q3 => ?_)
  · have h := ig h q3
    refine lv_aload_n hx hb dX7_free_9 rfl (lv_at hl 0 rfl) ?_
    refine lv_iload_n hx hb dX7_free_10 rfl (lv_at hl 2 rfl) ?_
    obtain ⟨r5, q4, h⟩ := bd_o h
    refine r_callVi (rest := []) C B hl (c_X7_isSet G s0 v2 r5 q4) cs_X7_122 (cM_0 G s0) rfl rfl rfl (Nat.le_of_ble_eq_true rfl) ⟨rfl, rfl, Nat.le_of_ble_eq_true rfl, Nat.le_of_ble_eq_true rfl⟩ dX7_free_11 (fun H locs B => ?_)
    refine lv_if_ne (tgt := 20) hx hb dX7_free_14 (by decide) (fun q6 => ?_) (fun q6 => ?_)
    · have h := ig h q6
      refine lv_aload_n hx hb dX7_free_20 rfl (lv_at hl 0 rfl) ?_
      refine lv_iload_n hx hb dX7_free_21 rfl (lv_at hl 1 rfl) ?_
      obtain ⟨s8, q7, h⟩ := bd_o h
      refine r_callVv (rest := []) C B hl (c_X7_lay G n s0 v1 s8 q7) cs_X7_134 (cM_0 G s0) rfl rfl rfl (Nat.le_of_ble_eq_true rfl) ⟨rfl, rfl, Nat.le_of_ble_eq_true rfl, Nat.le_of_ble_eq_true rfl⟩ dX7_free_22 (fun H locs B => ?_)
      refine lv_aload_n hx hb dX7_free_25 rfl (lv_at hl 0 rfl) ?_
      refine r_get C B fo_X7_38 (cM_0 G s8) rfl dX7_free_26 ?_
      refine lv_iload_n hx hb dX7_free_29 rfl (lv_at hl 2 rfl) ?_
      obtain ⟨q9, h⟩ := gd_o h
      refine r_zald C B (cM_9 G s8) (inb_vp q9) dX7_free_30 ?_
      refine lv_if_eq (tgt := 38) hx hb dX7_free_31 (by decide) (fun q10 => ?_) (fun q10 => ?_)
      · have h := ip h q10
        refine lv_iconst (v := (0 : Int32)) hx hb dX7_free_38 rfl ?_
        obtain ⟨rfl, rfl⟩ := ret2 h
        exact r_iret C B hr rfl dX7_free_39
      · have h := ig h q10
        refine lv_iconst (v := (1 : Int32)) hx hb dX7_free_34 rfl ?_
        refine lv_goto (tgt := 39) hx hb dX7_free_35 (by decide) ?_
        obtain ⟨rfl, rfl⟩ := ret2 h
        exact r_iret C B hr rfl dX7_free_39
    · have h := ip h q6
      refine lv_bipush (v := (-2 : Int32)) hx hb dX7_free_17 rfl ?_
      obtain ⟨rfl, rfl⟩ := ret2 h
      exact r_iret C B hr rfl dX7_free_19
  · have h := ip h q3
    refine lv_iconst (v := (-1 : Int32)) hx hb dX7_free_7 rfl ?_
    obtain ⟨rfl, rfl⟩ := ret2 h
    exact r_iret C B hr rfl dX7_free_8
def rm_X7_shutOf : Room := { frames := 0, cells := 0, slots := 0, locals := 0 }
set_option maxRecDepth 100000 in
set_option maxHeartbeats 4000000 in
theorem l_X7_shutOf_L1 {G : GT} {p : Program} {e : Env} {s : State} {m : MethodId} {args : Array Value} {below : List Frame} {meth : Method} {c : Code} {Q : State → Prop} (C : CT G p s m meth c args cX7_shutOf 4 RX7) (hr : meth.sig.returnType = (some .int)) (s0 : ST) (v1 : Int32) : ∀ (k : Nat) (v3 : Int32) (v2 : Int32) (e1 : Int32), X7_shutOf_L1 s0 v1 k v3 v2 = some e1 → Kn G p e rm_X7_shutOf s m args below meth c Q 4 47 [(2, .int e1)] (wM G s0) → Kn G p e rm_X7_shutOf s m args below meth c Q 4 4 [(0, .ref (gad G 0)), (1, .int v1), (3, .int v3), (2, .int v2)] (wM G s0) := by
  have hx := C.1
  have hb := C.2.1
  intro k
  induction k with
  | zero =>
    intro v3 v2 e1 h
    exact nso h
  | succ k ih =>
    intro v3 v2 e1 h hk H locs ls B hl
    have h : X7_shutOf_L1_b s0 v1 (X7_shutOf_L1 s0 v1 k) v3 v2 = some e1 := h
    unfold X7_shutOf_L1_b at h
    refine lv_iload_n hx hb dX7_shutOf_4 rfl (lv_at hl 2 rfl) ?_
    refine lv_aload_n hx hb dX7_shutOf_5 rfl (lv_at hl 0 rfl) ?_
    refine r_get C B fo_X7_7 (cM_0 G s0) rfl dX7_shutOf_6 ?_
    refine lv_icmp_ge (tgt := 47) hx hb dX7_shutOf_9 (by decide) (fun q1 => ?_) (fun q1 => ?_)
    · have h := ip h q1
      obtain rfl := ret1 h
      exact hk H locs ls B (lv_sub hl [3] rfl)
    · have h := ig h q1
      refine lv_iload_n hx hb dX7_shutOf_12 rfl (lv_at hl 3 rfl) ?_
      refine lv_aload_n hx hb dX7_shutOf_13 rfl (lv_at hl 0 rfl) ?_
      refine r_get C B fo_X7_45 (cM_0 G s0) rfl dX7_shutOf_14 ?_
      refine lv_iload_n hx hb dX7_shutOf_17 rfl (lv_at hl 1 rfl) ?_
      refine lv_iconst (v := (1 : Int32)) hx hb dX7_shutOf_18 rfl ?_
      refine lv_iload_n hx hb dX7_shutOf_19 rfl (lv_at hl 2 rfl) ?_
      refine lv_ishl hx hb dX7_shutOf_20 ?_
      refine lv_ior hx hb dX7_shutOf_21 ?_
      obtain ⟨q2, h⟩ := gd_o h
      refine r_iald C B (cM_11 G s0) (inb_vp q2) dX7_shutOf_22 ?_
      refine lv_aload_n hx hb dX7_shutOf_23 rfl (lv_at hl 0 rfl) ?_
      refine r_get C B fo_X7_45 (cM_0 G s0) rfl dX7_shutOf_24 ?_
      refine lv_iload_n hx hb dX7_shutOf_27 rfl (lv_at hl 1 rfl) ?_
      obtain ⟨q3, h⟩ := gd_o h
      refine r_iald C B (cM_11 G s0) (inb_vp q3) dX7_shutOf_28 ?_
      refine lv_icmp_ne (tgt := 38) hx hb dX7_shutOf_29 (by decide) (fun q4 => ?_) (fun q4 => ?_)
      · have h := ig h q4
        refine lv_iconst (v := (0 : Int32)) hx hb dX7_shutOf_38 rfl ?_
        refine lv_ior hx hb dX7_shutOf_39 ?_
        obtain ⟨v2_5, q6, h⟩ := nm_o h
        refine r_nm q6 ?_
        refine lv_istore_n (lv' := [(2, .int v2_5), (0, .ref (gad G 0)), (1, .int v1), (3, .int v3)]) hx hb dX7_shutOf_40 rfl hl (by decide) rfl (fun ls hl => ?_)
        obtain ⟨v3_7, q8, h⟩ := nm_o h
        refine lv_iinc (v := v3_7) (lv' := [(3, .int v3_7), (2, .int v2_5), (0, .ref (gad G 0)), (1, .int v1)]) hx hb dX7_shutOf_41 hl (k := 3) rfl q8.symm (by decide) rfl (fun ls hl => ?_)
        refine lv_goto (tgt := 4) hx hb dX7_shutOf_44 (by decide) ?_
        exact ih v3_7 v2_5 e1 h hk H locs ls B (lv_sub hl [2, 3, 0, 1] rfl)
      · have h := ip h q4
        refine lv_iconst (v := (1 : Int32)) hx hb dX7_shutOf_32 rfl ?_
        refine lv_iload_n hx hb dX7_shutOf_33 rfl (lv_at hl 2 rfl) ?_
        refine lv_ishl hx hb dX7_shutOf_34 ?_
        refine lv_goto (tgt := 39) hx hb dX7_shutOf_35 (by decide) ?_
        refine lv_ior hx hb dX7_shutOf_39 ?_
        obtain ⟨v2_9, q10, h⟩ := nm_o h
        refine r_nm q10 ?_
        refine lv_istore_n (lv' := [(2, .int v2_9), (0, .ref (gad G 0)), (1, .int v1), (3, .int v3)]) hx hb dX7_shutOf_40 rfl hl (by decide) rfl (fun ls hl => ?_)
        obtain ⟨v3_11, q12, h⟩ := nm_o h
        refine lv_iinc (v := v3_11) (lv' := [(3, .int v3_11), (2, .int v2_9), (0, .ref (gad G 0)), (1, .int v1)]) hx hb dX7_shutOf_41 hl (k := 3) rfl q12.symm (by decide) rfl (fun ls hl => ?_)
        refine lv_goto (tgt := 4) hx hb dX7_shutOf_44 (by decide) ?_
        exact ih v3_11 v2_9 e1 h hk H locs ls B (lv_sub hl [2, 3, 0, 1] rfl)
set_option maxRecDepth 100000 in
set_option maxHeartbeats 4000000 in
theorem c_X7_shutOf (G : GT) (n : Nat) (s0 : ST) (v1 : Int32) (r : Int32) (h : X7_shutOf n s0 v1 = some r) : Con G yX7_shutOf cX7_shutOf 4 (some .int) rm_X7_shutOf [.ref (gad G 0), .int v1] (wM G s0) (some (.int r)) (wM G s0) := by
  unfold X7_shutOf at h
  refine con_of (by decide +kernel) (Nat.le_of_ble_eq_true rfl) (fun {p e s m below meth c} C hr {H locs ls} B hl => ?_)
  have hx := C.1
  have hb := C.2.1
  have hl : lv_has ls 4 [(0, .ref (gad G 0)), (1, .int v1)] := hl
  refine lv_iconst (v := (0 : Int32)) hx hb dX7_shutOf_0 rfl ?_
  refine lv_istore_n (lv' := [(2, .int (0 : Int32)), (0, .ref (gad G 0)), (1, .int v1)]) hx hb dX7_shutOf_1 rfl hl (by decide) rfl (fun ls hl => ?_)
  refine lv_iconst (v := (0 : Int32)) hx hb dX7_shutOf_2 rfl ?_
  refine lv_istore_n (lv' := [(3, .int (0 : Int32)), (2, .int (0 : Int32)), (0, .ref (gad G 0)), (1, .int v1)]) hx hb dX7_shutOf_3 rfl hl (by decide) rfl (fun ls hl => ?_)
  obtain ⟨e13, q14, h⟩ := bd_o h
  refine l_X7_shutOf_L1 C hr s0 v1 n (0 : Int32) (0 : Int32) e13 q14 ?_ H locs ls B (lv_sub hl [2, 3, 0, 1] rfl)
  intro H locs ls B hl
  refine lv_iload_n hx hb dX7_shutOf_47 rfl (lv_at hl 0 rfl) ?_
  obtain rfl := ret1 h
  exact r_iret C B hr rfl dX7_shutOf_48
def rm_X7_isCircuit : Room := { frames := 1, cells := 0, slots := 0, locals := 21 }
set_option maxRecDepth 100000 in
set_option maxHeartbeats 4000000 in
theorem l_X7_isCircuit_L1 {G : GT} {p : Program} {e : Env} {s : State} {m : MethodId} {args : Array Value} {below : List Frame} {meth : Method} {c : Code} {Q : State → Prop} (C : CT G p s m meth c args cX7_isCircuit 4 RX7) (hr : meth.sig.returnType = (some .boolean)) (s0 : ST) (v1 : Int32) : ∀ (k : Nat) (v3 : Int32) (v2 : Int32) (e1 : Int32), X7_isCircuit_L1 s0 v1 k v3 v2 = some e1 → Kn G p e rm_X7_isCircuit s m args below meth c Q 4 64 [(2, .int e1)] (wM G s0) → Kn G p e rm_X7_isCircuit s m args below meth c Q 4 17 [(0, .ref (gad G 0)), (1, .int v1), (3, .int v3), (2, .int v2)] (wM G s0) := by
  have hx := C.1
  have hb := C.2.1
  intro k
  induction k with
  | zero =>
    intro v3 v2 e1 h
    exact nso h
  | succ k ih =>
    intro v3 v2 e1 h hk H locs ls B hl
    have h : X7_isCircuit_L1_b s0 v1 (X7_isCircuit_L1 s0 v1 k) v3 v2 = some e1 := h
    unfold X7_isCircuit_L1_b at h
    refine lv_iload_n hx hb dX7_isCircuit_17 rfl (lv_at hl 2 rfl) ?_
    refine lv_aload_n hx hb dX7_isCircuit_18 rfl (lv_at hl 0 rfl) ?_
    refine r_get C B fo_X7_7 (cM_0 G s0) rfl dX7_isCircuit_19 ?_
    refine lv_icmp_ge (tgt := 64) hx hb dX7_isCircuit_22 (by decide) (fun q3 => ?_) (fun q3 => ?_)
    · have h := ip h q3
      obtain rfl := ret1 h
      exact hk H locs ls B (lv_sub hl [3] rfl)
    · have h := ig h q3
      refine lv_iload_n hx hb dX7_isCircuit_25 rfl (lv_at hl 3 rfl) ?_
      refine lv_if_eq (tgt := 56) hx hb dX7_isCircuit_26 (by decide) (fun q4 => ?_) (fun q4 => ?_)
      · have h := ip h q4
        refine lv_iconst (v := (0 : Int32)) hx hb dX7_isCircuit_56 rfl ?_
        refine lv_istore_n (lv' := [(2, .int (0 : Int32)), (0, .ref (gad G 0)), (1, .int v1), (3, .int v3)]) hx hb dX7_isCircuit_57 rfl hl (by decide) rfl (fun ls hl => ?_)
        obtain ⟨v3_5, q6, h⟩ := nm_o h
        refine lv_iinc (v := v3_5) (lv' := [(3, .int v3_5), (2, .int (0 : Int32)), (0, .ref (gad G 0)), (1, .int v1)]) hx hb dX7_isCircuit_58 hl (k := 3) rfl q6.symm (by decide) rfl (fun ls hl => ?_)
        refine lv_goto (tgt := 17) hx hb dX7_isCircuit_61 (by decide) ?_
        exact ih v3_5 (0 : Int32) e1 h hk H locs ls B (lv_sub hl [2, 3, 0, 1] rfl)
      · have h := ig h q4
        refine lv_iload_n hx hb dX7_isCircuit_29 rfl (lv_at hl 1 rfl) ?_
        refine lv_iload_n hx hb dX7_isCircuit_30 rfl (lv_at hl 2 rfl) ?_
        obtain ⟨r7, q8, h⟩ := bd_o h
        refine r_callSi (rest := []) C B.2.2 hl (c_X7_has G v1 v3 r7 q8) cs_X7_77 rfl rfl (Nat.le_of_ble_eq_true rfl) ⟨rfl, rfl, Nat.le_of_ble_eq_true rfl, Nat.le_of_ble_eq_true rfl⟩ dX7_isCircuit_31 ?_
        refine lv_if_eq (tgt := 52) hx hb dX7_isCircuit_34 (by decide) (fun q9 => ?_) (fun q9 => ?_)
        · have h := ip h q9
          refine lv_iconst (v := (1 : Int32)) hx hb dX7_isCircuit_52 rfl ?_
          refine lv_goto (tgt := 57) hx hb dX7_isCircuit_53 (by decide) ?_
          refine lv_istore_n (lv' := [(2, .int (1 : Int32)), (0, .ref (gad G 0)), (1, .int v1), (3, .int v3)]) hx hb dX7_isCircuit_57 rfl hl (by decide) rfl (fun ls hl => ?_)
          obtain ⟨v3_10, q11, h⟩ := nm_o h
          refine lv_iinc (v := v3_10) (lv' := [(3, .int v3_10), (2, .int (1 : Int32)), (0, .ref (gad G 0)), (1, .int v1)]) hx hb dX7_isCircuit_58 hl (k := 3) rfl q11.symm (by decide) rfl (fun ls hl => ?_)
          refine lv_goto (tgt := 17) hx hb dX7_isCircuit_61 (by decide) ?_
          exact ih v3_10 (1 : Int32) e1 h hk H locs ls B (lv_sub hl [2, 3, 0, 1] rfl)
        · have h := ig h q9
          refine lv_aload_n hx hb dX7_isCircuit_37 rfl (lv_at hl 0 rfl) ?_
          refine r_get C B fo_X7_38 (cM_0 G s0) rfl dX7_isCircuit_38 ?_
          refine lv_iload_n hx hb dX7_isCircuit_41 rfl (lv_at hl 1 rfl) ?_
          refine lv_iconst (v := (1 : Int32)) hx hb dX7_isCircuit_42 rfl ?_
          refine lv_iload_n hx hb dX7_isCircuit_43 rfl (lv_at hl 2 rfl) ?_
          refine lv_ishl hx hb dX7_isCircuit_44 ?_
          refine lv_iconst (v := (-1 : Int32)) hx hb dX7_isCircuit_45 rfl ?_
          refine lv_ixor hx hb dX7_isCircuit_46 ?_
          refine lv_iand hx hb dX7_isCircuit_47 ?_
          obtain ⟨q12, h⟩ := gd_o h
          refine r_zald C B (cM_9 G s0) (inb_vp q12) dX7_isCircuit_48 ?_
          refine lv_if_eq (tgt := 56) hx hb dX7_isCircuit_49 (by decide) (fun q13 => ?_) (fun q13 => ?_)
          · have h := ip h q13
            refine lv_iconst (v := (0 : Int32)) hx hb dX7_isCircuit_56 rfl ?_
            refine lv_istore_n (lv' := [(2, .int (0 : Int32)), (0, .ref (gad G 0)), (1, .int v1), (3, .int v3)]) hx hb dX7_isCircuit_57 rfl hl (by decide) rfl (fun ls hl => ?_)
            obtain ⟨v3_14, q15, h⟩ := nm_o h
            refine lv_iinc (v := v3_14) (lv' := [(3, .int v3_14), (2, .int (0 : Int32)), (0, .ref (gad G 0)), (1, .int v1)]) hx hb dX7_isCircuit_58 hl (k := 3) rfl q15.symm (by decide) rfl (fun ls hl => ?_)
            refine lv_goto (tgt := 17) hx hb dX7_isCircuit_61 (by decide) ?_
            exact ih v3_14 (0 : Int32) e1 h hk H locs ls B (lv_sub hl [2, 3, 0, 1] rfl)
          · have h := ig h q13
            refine lv_iconst (v := (1 : Int32)) hx hb dX7_isCircuit_52 rfl ?_
            refine lv_goto (tgt := 57) hx hb dX7_isCircuit_53 (by decide) ?_
            refine lv_istore_n (lv' := [(2, .int (1 : Int32)), (0, .ref (gad G 0)), (1, .int v1), (3, .int v3)]) hx hb dX7_isCircuit_57 rfl hl (by decide) rfl (fun ls hl => ?_)
            obtain ⟨v3_16, q17, h⟩ := nm_o h
            refine lv_iinc (v := v3_16) (lv' := [(3, .int v3_16), (2, .int (1 : Int32)), (0, .ref (gad G 0)), (1, .int v1)]) hx hb dX7_isCircuit_58 hl (k := 3) rfl q17.symm (by decide) rfl (fun ls hl => ?_)
            refine lv_goto (tgt := 17) hx hb dX7_isCircuit_61 (by decide) ?_
            exact ih v3_16 (1 : Int32) e1 h hk H locs ls B (lv_sub hl [2, 3, 0, 1] rfl)
set_option maxRecDepth 100000 in
set_option maxHeartbeats 4000000 in
theorem c_X7_isCircuit (G : GT) (n : Nat) (s0 : ST) (v1 : Int32) (r : Int32) (h : X7_isCircuit n s0 v1 = some r) : Con G yX7_isCircuit cX7_isCircuit 4 (some .boolean) rm_X7_isCircuit [.ref (gad G 0), .int v1] (wM G s0) (some (.int r)) (wM G s0) := by
  unfold X7_isCircuit at h
  refine con_of (by decide +kernel) (Nat.le_of_ble_eq_true rfl) (fun {p e s m below meth c} C hr {H locs ls} B hl => ?_)
  have hx := C.1
  have hb := C.2.1
  have hl : lv_has ls 4 [(0, .ref (gad G 0)), (1, .int v1)] := hl
  refine lv_aload_n hx hb dX7_isCircuit_0 rfl (lv_at hl 0 rfl) ?_
  refine r_get C B fo_X7_38 (cM_0 G s0) rfl dX7_isCircuit_1 ?_
  refine lv_iload_n hx hb dX7_isCircuit_4 rfl (lv_at hl 1 rfl) ?_
  obtain ⟨q1, h⟩ := gd_o h
  refine r_zald C B (cM_9 G s0) (inb_vp q1) dX7_isCircuit_5 ?_
  refine lv_if_ne (tgt := 13) hx hb dX7_isCircuit_6 (by decide) (fun q2 => ?_) (fun q2 => ?_)
  · have h := ig h q2
    refine lv_iconst (v := (0 : Int32)) hx hb dX7_isCircuit_13 rfl ?_
    refine lv_istore_n (lv' := [(2, .int (0 : Int32)), (0, .ref (gad G 0)), (1, .int v1)]) hx hb dX7_isCircuit_14 rfl hl (by decide) rfl (fun ls hl => ?_)
    refine lv_iconst (v := (0 : Int32)) hx hb dX7_isCircuit_15 rfl ?_
    refine lv_istore_n (lv' := [(3, .int (0 : Int32)), (2, .int (0 : Int32)), (0, .ref (gad G 0)), (1, .int v1)]) hx hb dX7_isCircuit_16 rfl hl (by decide) rfl (fun ls hl => ?_)
    obtain ⟨e18, q19, h⟩ := bd_o h
    refine l_X7_isCircuit_L1 C hr s0 v1 n (0 : Int32) (0 : Int32) e18 q19 ?_ H locs ls B (lv_sub hl [2, 3, 0, 1] rfl)
    intro H locs ls B hl
    refine lv_iload_n hx hb dX7_isCircuit_64 rfl (lv_at hl 0 rfl) ?_
    obtain ⟨q20, h⟩ := gd_o h
    obtain rfl := ret1 h
    exact r_iret C B hr (bz_nar q20) dX7_isCircuit_65
  · have h := ip h q2
    refine lv_iconst (v := (1 : Int32)) hx hb dX7_isCircuit_9 rfl ?_
    refine lv_goto (tgt := 14) hx hb dX7_isCircuit_10 (by decide) ?_
    refine lv_istore_n (lv' := [(2, .int (1 : Int32)), (0, .ref (gad G 0)), (1, .int v1)]) hx hb dX7_isCircuit_14 rfl hl (by decide) rfl (fun ls hl => ?_)
    refine lv_iconst (v := (0 : Int32)) hx hb dX7_isCircuit_15 rfl ?_
    refine lv_istore_n (lv' := [(3, .int (0 : Int32)), (2, .int (1 : Int32)), (0, .ref (gad G 0)), (1, .int v1)]) hx hb dX7_isCircuit_16 rfl hl (by decide) rfl (fun ls hl => ?_)
    obtain ⟨e21, q22, h⟩ := bd_o h
    refine l_X7_isCircuit_L1 C hr s0 v1 n (0 : Int32) (1 : Int32) e21 q22 ?_ H locs ls B (lv_sub hl [2, 3, 0, 1] rfl)
    intro H locs ls B hl
    refine lv_iload_n hx hb dX7_isCircuit_64 rfl (lv_at hl 0 rfl) ?_
    obtain ⟨q23, h⟩ := gd_o h
    obtain rfl := ret1 h
    exact r_iret C B hr (bz_nar q23) dX7_isCircuit_65
def rm_X7_listed : Room := { frames := 5, cells := 0, slots := 0, locals := 112 }
set_option maxRecDepth 100000 in
set_option maxHeartbeats 4000000 in
theorem l_X7_listed_L1 {G : GT} {p : Program} {e : Env} {s : State} {m : MethodId} {args : Array Value} {below : List Frame} {meth : Method} {c : Code} {Q : State → Prop} (C : CT G p s m meth c args cX7_listed 7 RX7) (hr : meth.sig.returnType = (some .int)) (n : Nat) (s0 : ST) (v2 : Int32) (v3 : Int32) : ∀ (k : Nat) (v5 : Int32) (v4 : Int32) (e1 : (Int32 × ST) ⊕ (Int32)), X7_listed_L1 n s0 v2 v3 k v5 v4 = some e1 → (∀ rv, e1 = Sum.inl rv → Q = QR G below args s (some (.int rv.1)) (wM G rv.2)) → (∀ ex, e1 = Sum.inr ex → Kn G p e rm_X7_listed s m args below meth c Q 7 115 [(3, .int v3), (4, .int ex)] (wM G s0)) → Kn G p e rm_X7_listed s m args below meth c Q 7 25 [(0, .ref (gad G 0)), (2, .int v2), (3, .int v3), (5, .int v5), (4, .int v4)] (wM G s0) := by
  have hx := C.1
  have hb := C.2.1
  intro k
  induction k with
  | zero =>
    intro v5 v4 e1 h
    exact nso h
  | succ k ih =>
    intro v5 v4 e1 h hret hk H locs ls B hl
    have h : X7_listed_L1_b n s0 v2 v3 (X7_listed_L1 n s0 v2 v3 k) v5 v4 = some e1 := h
    unfold X7_listed_L1_b at h
    refine lv_iload hx hb dX7_listed_25 (lv_at hl 3 rfl) ?_
    refine lv_aload_n hx hb dX7_listed_27 rfl (lv_at hl 0 rfl) ?_
    obtain ⟨r8, q7, h⟩ := bd_o h
    refine r_callVi (rest := [.int v5]) C B hl (c_X7_all G s0 r8 q7) cs_X7_67 (cM_0 G s0) rfl rfl rfl (Nat.le_of_ble_eq_true rfl) ⟨rfl, rfl, Nat.le_of_ble_eq_true rfl, Nat.le_of_ble_eq_true rfl⟩ dX7_listed_28 (fun H locs B => ?_)
    refine lv_icmp_gt (tgt := 115) hx hb dX7_listed_31 (by decide) (fun q9 => ?_) (fun q9 => ?_)
    · have h := ip h q9
      obtain rfl := ret1 h
      exact hk _ rfl H locs ls B (lv_sub hl [2, 4] rfl)
    · have h := ig h q9
      refine lv_iload_n hx hb dX7_listed_34 rfl (lv_at hl 1 rfl) ?_
      refine lv_if_ne (tgt := 48) hx hb dX7_listed_35 (by decide) (fun q10 => ?_) (fun q10 => ?_)
      · have h := ig h q10
        refine lv_iload_n hx hb dX7_listed_48 rfl (lv_at hl 1 rfl) ?_
        refine lv_iconst (v := (1 : Int32)) hx hb dX7_listed_49 rfl ?_
        refine lv_icmp_ne (tgt := 62) hx hb dX7_listed_50 (by decide) (fun q11 => ?_) (fun q11 => ?_)
        · have h := ig h q11
          refine lv_aload_n hx hb dX7_listed_62 rfl (lv_at hl 0 rfl) ?_
          refine lv_iload hx hb dX7_listed_63 (lv_at hl 3 rfl) ?_
          obtain ⟨r13, q12, h⟩ := bd_o h
          refine r_callVi (rest := []) C B hl (c_X7_shutOf G n s0 v5 r13 q12) cs_X7_140 (cM_0 G s0) rfl rfl rfl (Nat.le_of_ble_eq_true rfl) ⟨rfl, rfl, Nat.le_of_ble_eq_true rfl, Nat.le_of_ble_eq_true rfl⟩ dX7_listed_65 (fun H locs B => ?_)
          refine lv_iload hx hb dX7_listed_68 (lv_at hl 3 rfl) ?_
          refine lv_icmp_ne (tgt := 77) hx hb dX7_listed_70 (by decide) (fun q14 => ?_) (fun q14 => ?_)
          · have h := ig h q14
            refine lv_iconst (v := (0 : Int32)) hx hb dX7_listed_77 rfl ?_
            refine lv_istore (lv' := [(6, .int (0 : Int32)), (0, .ref (gad G 0)), (2, .int v2), (3, .int v3), (5, .int v5), (4, .int v4)]) hx hb dX7_listed_78 hl (by decide) rfl (fun ls hl => ?_)
            refine lv_iload hx hb dX7_listed_80 (lv_at hl 0 rfl) ?_
            refine lv_if_eq (tgt := 94) hx hb dX7_listed_82 (by decide) (fun q15 => ?_) (fun q15 => ?_)
            · have h := ip h q15
              refine lv_iload hx hb dX7_listed_94 (lv_at hl 5 rfl) ?_
              refine lv_iload hx hb dX7_listed_96 (lv_at hl 0 rfl) ?_
              refine lv_if_eq (tgt := 105) hx hb dX7_listed_98 (by decide) (fun q16 => ?_) (fun q16 => ?_)
              · have h := ip h q16
                refine lv_iconst (v := (0 : Int32)) hx hb dX7_listed_105 rfl ?_
                refine lv_iadd hx hb dX7_listed_106 ?_
                obtain ⟨v4_17, q18, h⟩ := nm_o h
                refine r_nm q18 ?_
                refine lv_istore (lv' := [(4, .int v4_17), (6, .int (0 : Int32)), (0, .ref (gad G 0)), (2, .int v2), (3, .int v3), (5, .int v5)]) hx hb dX7_listed_107 hl (by decide) rfl (fun ls hl => ?_)
                obtain ⟨v5_19, q20, h⟩ := nm_o h
                refine lv_iinc (v := v5_19) (lv' := [(5, .int v5_19), (4, .int v4_17), (6, .int (0 : Int32)), (0, .ref (gad G 0)), (2, .int v2), (3, .int v3)]) hx hb dX7_listed_109 hl (k := 5) rfl q20.symm (by decide) rfl (fun ls hl => ?_)
                refine lv_goto (tgt := 25) hx hb dX7_listed_112 (by decide) ?_
                exact ih v5_19 v4_17 e1 h hret hk H locs ls B (lv_sub hl [3, 4, 5, 0, 1] rfl)
              · have h := ig h q16
                refine lv_iconst (v := (1 : Int32)) hx hb dX7_listed_101 rfl ?_
                refine lv_goto (tgt := 106) hx hb dX7_listed_102 (by decide) ?_
                refine lv_iadd hx hb dX7_listed_106 ?_
                obtain ⟨v4_21, q22, h⟩ := nm_o h
                refine r_nm q22 ?_
                refine lv_istore (lv' := [(4, .int v4_21), (6, .int (0 : Int32)), (0, .ref (gad G 0)), (2, .int v2), (3, .int v3), (5, .int v5)]) hx hb dX7_listed_107 hl (by decide) rfl (fun ls hl => ?_)
                obtain ⟨v5_23, q24, h⟩ := nm_o h
                refine lv_iinc (v := v5_23) (lv' := [(5, .int v5_23), (4, .int v4_21), (6, .int (0 : Int32)), (0, .ref (gad G 0)), (2, .int v2), (3, .int v3)]) hx hb dX7_listed_109 hl (k := 5) rfl q24.symm (by decide) rfl (fun ls hl => ?_)
                refine lv_goto (tgt := 25) hx hb dX7_listed_112 (by decide) ?_
                exact ih v5_23 v4_21 e1 h hret hk H locs ls B (lv_sub hl [3, 4, 5, 0, 1] rfl)
            · have h := ig h q15
              refine lv_iload hx hb dX7_listed_85 (lv_at hl 5 rfl) ?_
              refine lv_iload_n hx hb dX7_listed_87 rfl (lv_at hl 3 rfl) ?_
              refine lv_icmp_ne (tgt := 94) hx hb dX7_listed_88 (by decide) (fun q25 => ?_) (fun q25 => ?_)
              · have h := ig h q25
                refine lv_iload hx hb dX7_listed_94 (lv_at hl 5 rfl) ?_
                refine lv_iload hx hb dX7_listed_96 (lv_at hl 0 rfl) ?_
                refine lv_if_eq (tgt := 105) hx hb dX7_listed_98 (by decide) (fun q26 => ?_) (fun q26 => ?_)
                · have h := ip h q26
                  refine lv_iconst (v := (0 : Int32)) hx hb dX7_listed_105 rfl ?_
                  refine lv_iadd hx hb dX7_listed_106 ?_
                  obtain ⟨v4_27, q28, h⟩ := nm_o h
                  refine r_nm q28 ?_
                  refine lv_istore (lv' := [(4, .int v4_27), (6, .int (0 : Int32)), (0, .ref (gad G 0)), (2, .int v2), (3, .int v3), (5, .int v5)]) hx hb dX7_listed_107 hl (by decide) rfl (fun ls hl => ?_)
                  obtain ⟨v5_29, q30, h⟩ := nm_o h
                  refine lv_iinc (v := v5_29) (lv' := [(5, .int v5_29), (4, .int v4_27), (6, .int (0 : Int32)), (0, .ref (gad G 0)), (2, .int v2), (3, .int v3)]) hx hb dX7_listed_109 hl (k := 5) rfl q30.symm (by decide) rfl (fun ls hl => ?_)
                  refine lv_goto (tgt := 25) hx hb dX7_listed_112 (by decide) ?_
                  exact ih v5_29 v4_27 e1 h hret hk H locs ls B (lv_sub hl [3, 4, 5, 0, 1] rfl)
                · have h := ig h q26
                  refine lv_iconst (v := (1 : Int32)) hx hb dX7_listed_101 rfl ?_
                  refine lv_goto (tgt := 106) hx hb dX7_listed_102 (by decide) ?_
                  refine lv_iadd hx hb dX7_listed_106 ?_
                  obtain ⟨v4_31, q32, h⟩ := nm_o h
                  refine r_nm q32 ?_
                  refine lv_istore (lv' := [(4, .int v4_31), (6, .int (0 : Int32)), (0, .ref (gad G 0)), (2, .int v2), (3, .int v3), (5, .int v5)]) hx hb dX7_listed_107 hl (by decide) rfl (fun ls hl => ?_)
                  obtain ⟨v5_33, q34, h⟩ := nm_o h
                  refine lv_iinc (v := v5_33) (lv' := [(5, .int v5_33), (4, .int v4_31), (6, .int (0 : Int32)), (0, .ref (gad G 0)), (2, .int v2), (3, .int v3)]) hx hb dX7_listed_109 hl (k := 5) rfl q34.symm (by decide) rfl (fun ls hl => ?_)
                  refine lv_goto (tgt := 25) hx hb dX7_listed_112 (by decide) ?_
                  exact ih v5_33 v4_31 e1 h hret hk H locs ls B (lv_sub hl [3, 4, 5, 0, 1] rfl)
              · have h := ip h q25
                refine lv_iload hx hb dX7_listed_91 (lv_at hl 4 rfl) ?_
                obtain rfl := ret1 h
                rw [hret _ rfl]
                exact r_iret C B hr rfl dX7_listed_93
          · have h := ip h q14
            refine lv_iconst (v := (1 : Int32)) hx hb dX7_listed_73 rfl ?_
            refine lv_goto (tgt := 78) hx hb dX7_listed_74 (by decide) ?_
            refine lv_istore (lv' := [(6, .int (1 : Int32)), (0, .ref (gad G 0)), (2, .int v2), (3, .int v3), (5, .int v5), (4, .int v4)]) hx hb dX7_listed_78 hl (by decide) rfl (fun ls hl => ?_)
            refine lv_iload hx hb dX7_listed_80 (lv_at hl 0 rfl) ?_
            refine lv_if_eq (tgt := 94) hx hb dX7_listed_82 (by decide) (fun q35 => ?_) (fun q35 => ?_)
            · have h := ip h q35
              refine lv_iload hx hb dX7_listed_94 (lv_at hl 5 rfl) ?_
              refine lv_iload hx hb dX7_listed_96 (lv_at hl 0 rfl) ?_
              refine lv_if_eq (tgt := 105) hx hb dX7_listed_98 (by decide) (fun q36 => ?_) (fun q36 => ?_)
              · have h := ip h q36
                refine lv_iconst (v := (0 : Int32)) hx hb dX7_listed_105 rfl ?_
                refine lv_iadd hx hb dX7_listed_106 ?_
                obtain ⟨v4_37, q38, h⟩ := nm_o h
                refine r_nm q38 ?_
                refine lv_istore (lv' := [(4, .int v4_37), (6, .int (1 : Int32)), (0, .ref (gad G 0)), (2, .int v2), (3, .int v3), (5, .int v5)]) hx hb dX7_listed_107 hl (by decide) rfl (fun ls hl => ?_)
                obtain ⟨v5_39, q40, h⟩ := nm_o h
                refine lv_iinc (v := v5_39) (lv' := [(5, .int v5_39), (4, .int v4_37), (6, .int (1 : Int32)), (0, .ref (gad G 0)), (2, .int v2), (3, .int v3)]) hx hb dX7_listed_109 hl (k := 5) rfl q40.symm (by decide) rfl (fun ls hl => ?_)
                refine lv_goto (tgt := 25) hx hb dX7_listed_112 (by decide) ?_
                exact ih v5_39 v4_37 e1 h hret hk H locs ls B (lv_sub hl [3, 4, 5, 0, 1] rfl)
              · have h := ig h q36
                refine lv_iconst (v := (1 : Int32)) hx hb dX7_listed_101 rfl ?_
                refine lv_goto (tgt := 106) hx hb dX7_listed_102 (by decide) ?_
                refine lv_iadd hx hb dX7_listed_106 ?_
                obtain ⟨v4_41, q42, h⟩ := nm_o h
                refine r_nm q42 ?_
                refine lv_istore (lv' := [(4, .int v4_41), (6, .int (1 : Int32)), (0, .ref (gad G 0)), (2, .int v2), (3, .int v3), (5, .int v5)]) hx hb dX7_listed_107 hl (by decide) rfl (fun ls hl => ?_)
                obtain ⟨v5_43, q44, h⟩ := nm_o h
                refine lv_iinc (v := v5_43) (lv' := [(5, .int v5_43), (4, .int v4_41), (6, .int (1 : Int32)), (0, .ref (gad G 0)), (2, .int v2), (3, .int v3)]) hx hb dX7_listed_109 hl (k := 5) rfl q44.symm (by decide) rfl (fun ls hl => ?_)
                refine lv_goto (tgt := 25) hx hb dX7_listed_112 (by decide) ?_
                exact ih v5_43 v4_41 e1 h hret hk H locs ls B (lv_sub hl [3, 4, 5, 0, 1] rfl)
            · have h := ig h q35
              refine lv_iload hx hb dX7_listed_85 (lv_at hl 5 rfl) ?_
              refine lv_iload_n hx hb dX7_listed_87 rfl (lv_at hl 3 rfl) ?_
              refine lv_icmp_ne (tgt := 94) hx hb dX7_listed_88 (by decide) (fun q45 => ?_) (fun q45 => ?_)
              · have h := ig h q45
                refine lv_iload hx hb dX7_listed_94 (lv_at hl 5 rfl) ?_
                refine lv_iload hx hb dX7_listed_96 (lv_at hl 0 rfl) ?_
                refine lv_if_eq (tgt := 105) hx hb dX7_listed_98 (by decide) (fun q46 => ?_) (fun q46 => ?_)
                · have h := ip h q46
                  refine lv_iconst (v := (0 : Int32)) hx hb dX7_listed_105 rfl ?_
                  refine lv_iadd hx hb dX7_listed_106 ?_
                  obtain ⟨v4_47, q48, h⟩ := nm_o h
                  refine r_nm q48 ?_
                  refine lv_istore (lv' := [(4, .int v4_47), (6, .int (1 : Int32)), (0, .ref (gad G 0)), (2, .int v2), (3, .int v3), (5, .int v5)]) hx hb dX7_listed_107 hl (by decide) rfl (fun ls hl => ?_)
                  obtain ⟨v5_49, q50, h⟩ := nm_o h
                  refine lv_iinc (v := v5_49) (lv' := [(5, .int v5_49), (4, .int v4_47), (6, .int (1 : Int32)), (0, .ref (gad G 0)), (2, .int v2), (3, .int v3)]) hx hb dX7_listed_109 hl (k := 5) rfl q50.symm (by decide) rfl (fun ls hl => ?_)
                  refine lv_goto (tgt := 25) hx hb dX7_listed_112 (by decide) ?_
                  exact ih v5_49 v4_47 e1 h hret hk H locs ls B (lv_sub hl [3, 4, 5, 0, 1] rfl)
                · have h := ig h q46
                  refine lv_iconst (v := (1 : Int32)) hx hb dX7_listed_101 rfl ?_
                  refine lv_goto (tgt := 106) hx hb dX7_listed_102 (by decide) ?_
                  refine lv_iadd hx hb dX7_listed_106 ?_
                  obtain ⟨v4_51, q52, h⟩ := nm_o h
                  refine r_nm q52 ?_
                  refine lv_istore (lv' := [(4, .int v4_51), (6, .int (1 : Int32)), (0, .ref (gad G 0)), (2, .int v2), (3, .int v3), (5, .int v5)]) hx hb dX7_listed_107 hl (by decide) rfl (fun ls hl => ?_)
                  obtain ⟨v5_53, q54, h⟩ := nm_o h
                  refine lv_iinc (v := v5_53) (lv' := [(5, .int v5_53), (4, .int v4_51), (6, .int (1 : Int32)), (0, .ref (gad G 0)), (2, .int v2), (3, .int v3)]) hx hb dX7_listed_109 hl (k := 5) rfl q54.symm (by decide) rfl (fun ls hl => ?_)
                  refine lv_goto (tgt := 25) hx hb dX7_listed_112 (by decide) ?_
                  exact ih v5_53 v4_51 e1 h hret hk H locs ls B (lv_sub hl [3, 4, 5, 0, 1] rfl)
              · have h := ip h q45
                refine lv_iload hx hb dX7_listed_91 (lv_at hl 4 rfl) ?_
                obtain rfl := ret1 h
                rw [hret _ rfl]
                exact r_iret C B hr rfl dX7_listed_93
        · have h := ip h q11
          refine lv_aload_n hx hb dX7_listed_53 rfl (lv_at hl 0 rfl) ?_
          refine lv_iload hx hb dX7_listed_54 (lv_at hl 3 rfl) ?_
          obtain ⟨r56, q55, h⟩ := bd_o h
          refine r_callVi (rest := []) C B hl (c_X7_isCircuit G n s0 v5 r56 q55) cs_X7_137 (cM_0 G s0) rfl rfl rfl (Nat.le_of_ble_eq_true rfl) ⟨rfl, rfl, Nat.le_of_ble_eq_true rfl, Nat.le_of_ble_eq_true rfl⟩ dX7_listed_56 (fun H locs B => ?_)
          refine lv_goto (tgt := 78) hx hb dX7_listed_59 (by decide) ?_
          refine lv_istore (lv' := [(6, .int r56), (0, .ref (gad G 0)), (2, .int v2), (3, .int v3), (5, .int v5), (4, .int v4)]) hx hb dX7_listed_78 hl (by decide) rfl (fun ls hl => ?_)
          refine lv_iload hx hb dX7_listed_80 (lv_at hl 0 rfl) ?_
          refine lv_if_eq (tgt := 94) hx hb dX7_listed_82 (by decide) (fun q57 => ?_) (fun q57 => ?_)
          · have h := ip h q57
            refine lv_iload hx hb dX7_listed_94 (lv_at hl 5 rfl) ?_
            refine lv_iload hx hb dX7_listed_96 (lv_at hl 0 rfl) ?_
            refine lv_if_eq (tgt := 105) hx hb dX7_listed_98 (by decide) (fun q58 => ?_) (fun q58 => ?_)
            · have h := ip h q58
              refine lv_iconst (v := (0 : Int32)) hx hb dX7_listed_105 rfl ?_
              refine lv_iadd hx hb dX7_listed_106 ?_
              obtain ⟨v4_59, q60, h⟩ := nm_o h
              refine r_nm q60 ?_
              refine lv_istore (lv' := [(4, .int v4_59), (6, .int r56), (0, .ref (gad G 0)), (2, .int v2), (3, .int v3), (5, .int v5)]) hx hb dX7_listed_107 hl (by decide) rfl (fun ls hl => ?_)
              obtain ⟨v5_61, q62, h⟩ := nm_o h
              refine lv_iinc (v := v5_61) (lv' := [(5, .int v5_61), (4, .int v4_59), (6, .int r56), (0, .ref (gad G 0)), (2, .int v2), (3, .int v3)]) hx hb dX7_listed_109 hl (k := 5) rfl q62.symm (by decide) rfl (fun ls hl => ?_)
              refine lv_goto (tgt := 25) hx hb dX7_listed_112 (by decide) ?_
              exact ih v5_61 v4_59 e1 h hret hk H locs ls B (lv_sub hl [3, 4, 5, 0, 1] rfl)
            · have h := ig h q58
              refine lv_iconst (v := (1 : Int32)) hx hb dX7_listed_101 rfl ?_
              refine lv_goto (tgt := 106) hx hb dX7_listed_102 (by decide) ?_
              refine lv_iadd hx hb dX7_listed_106 ?_
              obtain ⟨v4_63, q64, h⟩ := nm_o h
              refine r_nm q64 ?_
              refine lv_istore (lv' := [(4, .int v4_63), (6, .int r56), (0, .ref (gad G 0)), (2, .int v2), (3, .int v3), (5, .int v5)]) hx hb dX7_listed_107 hl (by decide) rfl (fun ls hl => ?_)
              obtain ⟨v5_65, q66, h⟩ := nm_o h
              refine lv_iinc (v := v5_65) (lv' := [(5, .int v5_65), (4, .int v4_63), (6, .int r56), (0, .ref (gad G 0)), (2, .int v2), (3, .int v3)]) hx hb dX7_listed_109 hl (k := 5) rfl q66.symm (by decide) rfl (fun ls hl => ?_)
              refine lv_goto (tgt := 25) hx hb dX7_listed_112 (by decide) ?_
              exact ih v5_65 v4_63 e1 h hret hk H locs ls B (lv_sub hl [3, 4, 5, 0, 1] rfl)
          · have h := ig h q57
            refine lv_iload hx hb dX7_listed_85 (lv_at hl 5 rfl) ?_
            refine lv_iload_n hx hb dX7_listed_87 rfl (lv_at hl 3 rfl) ?_
            refine lv_icmp_ne (tgt := 94) hx hb dX7_listed_88 (by decide) (fun q67 => ?_) (fun q67 => ?_)
            · have h := ig h q67
              refine lv_iload hx hb dX7_listed_94 (lv_at hl 5 rfl) ?_
              refine lv_iload hx hb dX7_listed_96 (lv_at hl 0 rfl) ?_
              refine lv_if_eq (tgt := 105) hx hb dX7_listed_98 (by decide) (fun q68 => ?_) (fun q68 => ?_)
              · have h := ip h q68
                refine lv_iconst (v := (0 : Int32)) hx hb dX7_listed_105 rfl ?_
                refine lv_iadd hx hb dX7_listed_106 ?_
                obtain ⟨v4_69, q70, h⟩ := nm_o h
                refine r_nm q70 ?_
                refine lv_istore (lv' := [(4, .int v4_69), (6, .int r56), (0, .ref (gad G 0)), (2, .int v2), (3, .int v3), (5, .int v5)]) hx hb dX7_listed_107 hl (by decide) rfl (fun ls hl => ?_)
                obtain ⟨v5_71, q72, h⟩ := nm_o h
                refine lv_iinc (v := v5_71) (lv' := [(5, .int v5_71), (4, .int v4_69), (6, .int r56), (0, .ref (gad G 0)), (2, .int v2), (3, .int v3)]) hx hb dX7_listed_109 hl (k := 5) rfl q72.symm (by decide) rfl (fun ls hl => ?_)
                refine lv_goto (tgt := 25) hx hb dX7_listed_112 (by decide) ?_
                exact ih v5_71 v4_69 e1 h hret hk H locs ls B (lv_sub hl [3, 4, 5, 0, 1] rfl)
              · have h := ig h q68
                refine lv_iconst (v := (1 : Int32)) hx hb dX7_listed_101 rfl ?_
                refine lv_goto (tgt := 106) hx hb dX7_listed_102 (by decide) ?_
                refine lv_iadd hx hb dX7_listed_106 ?_
                obtain ⟨v4_73, q74, h⟩ := nm_o h
                refine r_nm q74 ?_
                refine lv_istore (lv' := [(4, .int v4_73), (6, .int r56), (0, .ref (gad G 0)), (2, .int v2), (3, .int v3), (5, .int v5)]) hx hb dX7_listed_107 hl (by decide) rfl (fun ls hl => ?_)
                obtain ⟨v5_75, q76, h⟩ := nm_o h
                refine lv_iinc (v := v5_75) (lv' := [(5, .int v5_75), (4, .int v4_73), (6, .int r56), (0, .ref (gad G 0)), (2, .int v2), (3, .int v3)]) hx hb dX7_listed_109 hl (k := 5) rfl q76.symm (by decide) rfl (fun ls hl => ?_)
                refine lv_goto (tgt := 25) hx hb dX7_listed_112 (by decide) ?_
                exact ih v5_75 v4_73 e1 h hret hk H locs ls B (lv_sub hl [3, 4, 5, 0, 1] rfl)
            · have h := ip h q67
              refine lv_iload hx hb dX7_listed_91 (lv_at hl 4 rfl) ?_
              obtain rfl := ret1 h
              rw [hret _ rfl]
              exact r_iret C B hr rfl dX7_listed_93
      · have h := ip h q10
        refine lv_aload_n hx hb dX7_listed_38 rfl (lv_at hl 0 rfl) ?_
        refine r_get C B fo_X7_42 (cM_0 G s0) rfl dX7_listed_39 ?_
        refine lv_iload hx hb dX7_listed_42 (lv_at hl 3 rfl) ?_
        obtain ⟨q77, h⟩ := gd_o h
        refine r_zald C B (cM_10 G s0) (inb_vp q77) dX7_listed_44 ?_
        refine lv_goto (tgt := 78) hx hb dX7_listed_45 (by decide) ?_
        obtain ⟨v6_78, q79, h⟩ := nm_o h
        refine r_nm q79 ?_
        refine lv_istore (lv' := [(6, .int v6_78), (0, .ref (gad G 0)), (2, .int v2), (3, .int v3), (5, .int v5), (4, .int v4)]) hx hb dX7_listed_78 hl (by decide) rfl (fun ls hl => ?_)
        refine lv_iload hx hb dX7_listed_80 (lv_at hl 0 rfl) ?_
        refine lv_if_eq (tgt := 94) hx hb dX7_listed_82 (by decide) (fun q80 => ?_) (fun q80 => ?_)
        · have h := ip h q80
          refine lv_iload hx hb dX7_listed_94 (lv_at hl 5 rfl) ?_
          refine lv_iload hx hb dX7_listed_96 (lv_at hl 0 rfl) ?_
          refine lv_if_eq (tgt := 105) hx hb dX7_listed_98 (by decide) (fun q81 => ?_) (fun q81 => ?_)
          · have h := ip h q81
            refine lv_iconst (v := (0 : Int32)) hx hb dX7_listed_105 rfl ?_
            refine lv_iadd hx hb dX7_listed_106 ?_
            obtain ⟨v4_82, q83, h⟩ := nm_o h
            refine r_nm q83 ?_
            refine lv_istore (lv' := [(4, .int v4_82), (6, .int v6_78), (0, .ref (gad G 0)), (2, .int v2), (3, .int v3), (5, .int v5)]) hx hb dX7_listed_107 hl (by decide) rfl (fun ls hl => ?_)
            obtain ⟨v5_84, q85, h⟩ := nm_o h
            refine lv_iinc (v := v5_84) (lv' := [(5, .int v5_84), (4, .int v4_82), (6, .int v6_78), (0, .ref (gad G 0)), (2, .int v2), (3, .int v3)]) hx hb dX7_listed_109 hl (k := 5) rfl q85.symm (by decide) rfl (fun ls hl => ?_)
            refine lv_goto (tgt := 25) hx hb dX7_listed_112 (by decide) ?_
            exact ih v5_84 v4_82 e1 h hret hk H locs ls B (lv_sub hl [3, 4, 5, 0, 1] rfl)
          · have h := ig h q81
            refine lv_iconst (v := (1 : Int32)) hx hb dX7_listed_101 rfl ?_
            refine lv_goto (tgt := 106) hx hb dX7_listed_102 (by decide) ?_
            refine lv_iadd hx hb dX7_listed_106 ?_
            obtain ⟨v4_86, q87, h⟩ := nm_o h
            refine r_nm q87 ?_
            refine lv_istore (lv' := [(4, .int v4_86), (6, .int v6_78), (0, .ref (gad G 0)), (2, .int v2), (3, .int v3), (5, .int v5)]) hx hb dX7_listed_107 hl (by decide) rfl (fun ls hl => ?_)
            obtain ⟨v5_88, q89, h⟩ := nm_o h
            refine lv_iinc (v := v5_88) (lv' := [(5, .int v5_88), (4, .int v4_86), (6, .int v6_78), (0, .ref (gad G 0)), (2, .int v2), (3, .int v3)]) hx hb dX7_listed_109 hl (k := 5) rfl q89.symm (by decide) rfl (fun ls hl => ?_)
            refine lv_goto (tgt := 25) hx hb dX7_listed_112 (by decide) ?_
            exact ih v5_88 v4_86 e1 h hret hk H locs ls B (lv_sub hl [3, 4, 5, 0, 1] rfl)
        · have h := ig h q80
          refine lv_iload hx hb dX7_listed_85 (lv_at hl 5 rfl) ?_
          refine lv_iload_n hx hb dX7_listed_87 rfl (lv_at hl 3 rfl) ?_
          refine lv_icmp_ne (tgt := 94) hx hb dX7_listed_88 (by decide) (fun q90 => ?_) (fun q90 => ?_)
          · have h := ig h q90
            refine lv_iload hx hb dX7_listed_94 (lv_at hl 5 rfl) ?_
            refine lv_iload hx hb dX7_listed_96 (lv_at hl 0 rfl) ?_
            refine lv_if_eq (tgt := 105) hx hb dX7_listed_98 (by decide) (fun q91 => ?_) (fun q91 => ?_)
            · have h := ip h q91
              refine lv_iconst (v := (0 : Int32)) hx hb dX7_listed_105 rfl ?_
              refine lv_iadd hx hb dX7_listed_106 ?_
              obtain ⟨v4_92, q93, h⟩ := nm_o h
              refine r_nm q93 ?_
              refine lv_istore (lv' := [(4, .int v4_92), (6, .int v6_78), (0, .ref (gad G 0)), (2, .int v2), (3, .int v3), (5, .int v5)]) hx hb dX7_listed_107 hl (by decide) rfl (fun ls hl => ?_)
              obtain ⟨v5_94, q95, h⟩ := nm_o h
              refine lv_iinc (v := v5_94) (lv' := [(5, .int v5_94), (4, .int v4_92), (6, .int v6_78), (0, .ref (gad G 0)), (2, .int v2), (3, .int v3)]) hx hb dX7_listed_109 hl (k := 5) rfl q95.symm (by decide) rfl (fun ls hl => ?_)
              refine lv_goto (tgt := 25) hx hb dX7_listed_112 (by decide) ?_
              exact ih v5_94 v4_92 e1 h hret hk H locs ls B (lv_sub hl [3, 4, 5, 0, 1] rfl)
            · have h := ig h q91
              refine lv_iconst (v := (1 : Int32)) hx hb dX7_listed_101 rfl ?_
              refine lv_goto (tgt := 106) hx hb dX7_listed_102 (by decide) ?_
              refine lv_iadd hx hb dX7_listed_106 ?_
              obtain ⟨v4_96, q97, h⟩ := nm_o h
              refine r_nm q97 ?_
              refine lv_istore (lv' := [(4, .int v4_96), (6, .int v6_78), (0, .ref (gad G 0)), (2, .int v2), (3, .int v3), (5, .int v5)]) hx hb dX7_listed_107 hl (by decide) rfl (fun ls hl => ?_)
              obtain ⟨v5_98, q99, h⟩ := nm_o h
              refine lv_iinc (v := v5_98) (lv' := [(5, .int v5_98), (4, .int v4_96), (6, .int v6_78), (0, .ref (gad G 0)), (2, .int v2), (3, .int v3)]) hx hb dX7_listed_109 hl (k := 5) rfl q99.symm (by decide) rfl (fun ls hl => ?_)
              refine lv_goto (tgt := 25) hx hb dX7_listed_112 (by decide) ?_
              exact ih v5_98 v4_96 e1 h hret hk H locs ls B (lv_sub hl [3, 4, 5, 0, 1] rfl)
          · have h := ip h q90
            refine lv_iload hx hb dX7_listed_91 (lv_at hl 4 rfl) ?_
            obtain rfl := ret1 h
            rw [hret _ rfl]
            exact r_iret C B hr rfl dX7_listed_93
set_option maxRecDepth 100000 in
set_option maxHeartbeats 4000000 in
theorem c_X7_listed (G : GT) (n : Nat) (s0 : ST) (v1 : Int32) (v2 : Int32) (v3 : Int32) (r : Int32) (s' : ST) (h : X7_listed n s0 v1 v2 v3 = some (r, s')) : Con G yX7_listed cX7_listed 7 (some .int) rm_X7_listed [.ref (gad G 0), .int v1, .int v2, .int v3] (wM G s0) (some (.int r)) (wM G s') := by
  unfold X7_listed at h
  refine con_of (by decide +kernel) (Nat.le_of_ble_eq_true rfl) (fun {p e s m below meth c} C hr {H locs ls} B hl => ?_)
  have hx := C.1
  have hb := C.2.1
  have hl : lv_has ls 7 [(0, .ref (gad G 0)), (1, .int v1), (2, .int v2), (3, .int v3)] := hl
  refine lv_iload_n hx hb dX7_listed_0 rfl (lv_at hl 1 rfl) ?_
  obtain ⟨r1, q2, h⟩ := bd_o h
  refine r_callSi (rest := []) C B.2.2 hl (c_X7_isSide G v1 r1 q2) cs_X7_131 rfl rfl (Nat.le_of_ble_eq_true rfl) ⟨rfl, rfl, Nat.le_of_ble_eq_true rfl, Nat.le_of_ble_eq_true rfl⟩ dX7_listed_1 ?_
  refine lv_if_eq (tgt := 12) hx hb dX7_listed_4 (by decide) (fun q3 => ?_) (fun q3 => ?_)
  · have h := ip h q3
    refine lv_iconst (v := (-1 : Int32)) hx hb dX7_listed_12 rfl ?_
    obtain ⟨rfl, rfl⟩ := ret2 h
    exact r_iret C B hr rfl dX7_listed_13
  · have h := ig h q3
    refine lv_iload_n hx hb dX7_listed_7 rfl (lv_at hl 3 rfl) ?_
    refine lv_iconst (v := (-1 : Int32)) hx hb dX7_listed_8 rfl ?_
    refine lv_icmp_ge (tgt := 14) hx hb dX7_listed_9 (by decide) (fun q4 => ?_) (fun q4 => ?_)
    · have h := ip h q4
      refine lv_aload_n hx hb dX7_listed_14 rfl (lv_at hl 0 rfl) ?_
      refine lv_iload_n hx hb dX7_listed_15 rfl (lv_at hl 1 rfl) ?_
      obtain ⟨s6, q5, h⟩ := bd_o h
      refine r_callVv (rest := []) C B hl (c_X7_lay G n s0 v1 s6 q5) cs_X7_134 (cM_0 G s0) rfl rfl rfl (Nat.le_of_ble_eq_true rfl) ⟨rfl, rfl, Nat.le_of_ble_eq_true rfl, Nat.le_of_ble_eq_true rfl⟩ dX7_listed_16 (fun H locs B => ?_)
      refine lv_iconst (v := (0 : Int32)) hx hb dX7_listed_19 rfl ?_
      refine lv_istore (lv' := [(4, .int (0 : Int32)), (0, .ref (gad G 0)), (1, .int v1), (2, .int v2), (3, .int v3)]) hx hb dX7_listed_20 hl (by decide) rfl (fun ls hl => ?_)
      refine lv_iconst (v := (0 : Int32)) hx hb dX7_listed_22 rfl ?_
      refine lv_istore (lv' := [(5, .int (0 : Int32)), (4, .int (0 : Int32)), (0, .ref (gad G 0)), (1, .int v1), (2, .int v2), (3, .int v3)]) hx hb dX7_listed_23 hl (by decide) rfl (fun ls hl => ?_)
      obtain ⟨e100, q101, h⟩ := bd_o h
      refine l_X7_listed_L1 C hr n s6 v2 v3 n (0 : Int32) (0 : Int32) e100 q101 (fun rv q => by have h := sm_l h q; cases h; rfl) (fun e102 q103 => ?_) H locs ls B (lv_sub hl [2, 4, 5, 0, 1] rfl)
      have h := sm_r h q103
      intro H locs ls B hl
      refine lv_iload_n hx hb dX7_listed_115 rfl (lv_at hl 0 rfl) ?_
      refine lv_if_ge (tgt := 124) hx hb dX7_listed_116 (by decide) (fun q104 => ?_) (fun q104 => ?_)
      · have h := ip h q104
        refine lv_iconst (v := (-1 : Int32)) hx hb dX7_listed_124 rfl ?_
        obtain ⟨rfl, rfl⟩ := ret2 h
        exact r_iret C B hr rfl dX7_listed_125
      · have h := ig h q104
        refine lv_iload hx hb dX7_listed_119 (lv_at hl 1 rfl) ?_
        refine lv_goto (tgt := 125) hx hb dX7_listed_121 (by decide) ?_
        obtain ⟨rfl, rfl⟩ := ret2 h
        exact r_iret C B hr rfl dX7_listed_125
    · have h := ig h q4
      refine lv_iconst (v := (-1 : Int32)) hx hb dX7_listed_12 rfl ?_
      obtain ⟨rfl, rfl⟩ := ret2 h
      exact r_iret C B hr rfl dX7_listed_13
def rm_X7_base : Room := { frames := 6, cells := 0, slots := 0, locals := 138 }
set_option maxRecDepth 100000 in
set_option maxHeartbeats 4000000 in
theorem c_X7_base (G : GT) (n : Nat) (s0 : ST) (v1 : Int32) (v2 : Int32) (r : Int32) (s' : ST) (h : X7_base n s0 v1 v2 = some (r, s')) : Con G yX7_base cX7_base 3 (some .int) rm_X7_base [.ref (gad G 0), .int v1, .int v2] (wM G s0) (some (.int r)) (wM G s') := by
  unfold X7_base at h
  refine con_of (by decide +kernel) (Nat.le_of_ble_eq_true rfl) (fun {p e s m below meth c} C hr {H locs ls} B hl => ?_)
  have hx := C.1
  have hb := C.2.1
  have hl : lv_has ls 3 [(0, .ref (gad G 0)), (1, .int v1), (2, .int v2)] := hl
  refine lv_aload_n hx hb dX7_base_0 rfl (lv_at hl 0 rfl) ?_
  refine lv_iload_n hx hb dX7_base_1 rfl (lv_at hl 1 rfl) ?_
  refine lv_iconst (v := (0 : Int32)) hx hb dX7_base_2 rfl ?_
  refine lv_iload_n hx hb dX7_base_3 rfl (lv_at hl 2 rfl) ?_
  obtain ⟨r3, s2, q1, h⟩ := bd2_o h
  refine r_callVi (rest := []) C B hl (c_X7_listed G n s0 v1 (0 : Int32) v2 r3 s2 q1) cs_X7_143 (cM_0 G s0) rfl rfl rfl (Nat.le_of_ble_eq_true rfl) ⟨rfl, rfl, Nat.le_of_ble_eq_true rfl, Nat.le_of_ble_eq_true rfl⟩ dX7_base_4 (fun H locs B => ?_)
  obtain ⟨rfl, rfl⟩ := ret2 h
  exact r_iret C B hr rfl dX7_base_7
def rm_X7_circuit : Room := { frames := 6, cells := 0, slots := 0, locals := 138 }
set_option maxRecDepth 100000 in
set_option maxHeartbeats 4000000 in
theorem c_X7_circuit (G : GT) (n : Nat) (s0 : ST) (v1 : Int32) (v2 : Int32) (r : Int32) (s' : ST) (h : X7_circuit n s0 v1 v2 = some (r, s')) : Con G yX7_circuit cX7_circuit 3 (some .int) rm_X7_circuit [.ref (gad G 0), .int v1, .int v2] (wM G s0) (some (.int r)) (wM G s') := by
  unfold X7_circuit at h
  refine con_of (by decide +kernel) (Nat.le_of_ble_eq_true rfl) (fun {p e s m below meth c} C hr {H locs ls} B hl => ?_)
  have hx := C.1
  have hb := C.2.1
  have hl : lv_has ls 3 [(0, .ref (gad G 0)), (1, .int v1), (2, .int v2)] := hl
  refine lv_aload_n hx hb dX7_circuit_0 rfl (lv_at hl 0 rfl) ?_
  refine lv_iload_n hx hb dX7_circuit_1 rfl (lv_at hl 1 rfl) ?_
  refine lv_iconst (v := (1 : Int32)) hx hb dX7_circuit_2 rfl ?_
  refine lv_iload_n hx hb dX7_circuit_3 rfl (lv_at hl 2 rfl) ?_
  obtain ⟨r3, s2, q1, h⟩ := bd2_o h
  refine r_callVi (rest := []) C B hl (c_X7_listed G n s0 v1 (1 : Int32) v2 r3 s2 q1) cs_X7_143 (cM_0 G s0) rfl rfl rfl (Nat.le_of_ble_eq_true rfl) ⟨rfl, rfl, Nat.le_of_ble_eq_true rfl, Nat.le_of_ble_eq_true rfl⟩ dX7_circuit_4 (fun H locs B => ?_)
  obtain ⟨rfl, rfl⟩ := ret2 h
  exact r_iret C B hr rfl dX7_circuit_7
def rm_X7_flat : Room := { frames := 6, cells := 0, slots := 0, locals := 138 }
set_option maxRecDepth 100000 in
set_option maxHeartbeats 4000000 in
theorem c_X7_flat (G : GT) (n : Nat) (s0 : ST) (v1 : Int32) (v2 : Int32) (r : Int32) (s' : ST) (h : X7_flat n s0 v1 v2 = some (r, s')) : Con G yX7_flat cX7_flat 3 (some .int) rm_X7_flat [.ref (gad G 0), .int v1, .int v2] (wM G s0) (some (.int r)) (wM G s') := by
  unfold X7_flat at h
  refine con_of (by decide +kernel) (Nat.le_of_ble_eq_true rfl) (fun {p e s m below meth c} C hr {H locs ls} B hl => ?_)
  have hx := C.1
  have hb := C.2.1
  have hl : lv_has ls 3 [(0, .ref (gad G 0)), (1, .int v1), (2, .int v2)] := hl
  refine lv_aload_n hx hb dX7_flat_0 rfl (lv_at hl 0 rfl) ?_
  refine lv_iload_n hx hb dX7_flat_1 rfl (lv_at hl 1 rfl) ?_
  refine lv_iconst (v := (2 : Int32)) hx hb dX7_flat_2 rfl ?_
  refine lv_iload_n hx hb dX7_flat_3 rfl (lv_at hl 2 rfl) ?_
  obtain ⟨r3, s2, q1, h⟩ := bd2_o h
  refine r_callVi (rest := []) C B hl (c_X7_listed G n s0 v1 (2 : Int32) v2 r3 s2 q1) cs_X7_143 (cM_0 G s0) rfl rfl rfl (Nat.le_of_ble_eq_true rfl) ⟨rfl, rfl, Nat.le_of_ble_eq_true rfl, Nat.le_of_ble_eq_true rfl⟩ dX7_flat_4 (fun H locs B => ?_)
  obtain ⟨rfl, rfl⟩ := ret2 h
  exact r_iret C B hr rfl dX7_flat_7
def rm_X7_shut : Room := { frames := 5, cells := 0, slots := 0, locals := 112 }
set_option maxRecDepth 100000 in
set_option maxHeartbeats 4000000 in
theorem c_X7_shut (G : GT) (n : Nat) (s0 : ST) (v1 : Int32) (v2 : Int32) (r : Int32) (s' : ST) (h : X7_shut n s0 v1 v2 = some (r, s')) : Con G yX7_shut cX7_shut 3 (some .int) rm_X7_shut [.ref (gad G 0), .int v1, .int v2] (wM G s0) (some (.int r)) (wM G s') := by
  unfold X7_shut at h
  refine con_of (by decide +kernel) (Nat.le_of_ble_eq_true rfl) (fun {p e s m below meth c} C hr {H locs ls} B hl => ?_)
  have hx := C.1
  have hb := C.2.1
  have hl : lv_has ls 3 [(0, .ref (gad G 0)), (1, .int v1), (2, .int v2)] := hl
  refine lv_iload_n hx hb dX7_shut_0 rfl (lv_at hl 1 rfl) ?_
  obtain ⟨r1, q2, h⟩ := bd_o h
  refine r_callSi (rest := []) C B.2.2 hl (c_X7_isSide G v1 r1 q2) cs_X7_131 rfl rfl (Nat.le_of_ble_eq_true rfl) ⟨rfl, rfl, Nat.le_of_ble_eq_true rfl, Nat.le_of_ble_eq_true rfl⟩ dX7_shut_1 ?_
  refine lv_if_ne (tgt := 9) hx hb dX7_shut_4 (by decide) (fun q3 => ?_) (fun q3 => ?_)
  · have h := ig h q3
    refine lv_aload_n hx hb dX7_shut_9 rfl (lv_at hl 0 rfl) ?_
    refine lv_iload_n hx hb dX7_shut_10 rfl (lv_at hl 2 rfl) ?_
    obtain ⟨r5, q4, h⟩ := bd_o h
    refine r_callVi (rest := []) C B hl (c_X7_isSet G s0 v2 r5 q4) cs_X7_122 (cM_0 G s0) rfl rfl rfl (Nat.le_of_ble_eq_true rfl) ⟨rfl, rfl, Nat.le_of_ble_eq_true rfl, Nat.le_of_ble_eq_true rfl⟩ dX7_shut_11 (fun H locs B => ?_)
    refine lv_if_ne (tgt := 20) hx hb dX7_shut_14 (by decide) (fun q6 => ?_) (fun q6 => ?_)
    · have h := ig h q6
      refine lv_aload_n hx hb dX7_shut_20 rfl (lv_at hl 0 rfl) ?_
      refine lv_iload_n hx hb dX7_shut_21 rfl (lv_at hl 1 rfl) ?_
      obtain ⟨s8, q7, h⟩ := bd_o h
      refine r_callVv (rest := []) C B hl (c_X7_lay G n s0 v1 s8 q7) cs_X7_134 (cM_0 G s0) rfl rfl rfl (Nat.le_of_ble_eq_true rfl) ⟨rfl, rfl, Nat.le_of_ble_eq_true rfl, Nat.le_of_ble_eq_true rfl⟩ dX7_shut_22 (fun H locs B => ?_)
      refine lv_aload_n hx hb dX7_shut_25 rfl (lv_at hl 0 rfl) ?_
      refine lv_iload_n hx hb dX7_shut_26 rfl (lv_at hl 2 rfl) ?_
      obtain ⟨r10, q9, h⟩ := bd_o h
      refine r_callVi (rest := []) C B hl (c_X7_shutOf G n s8 v2 r10 q9) cs_X7_140 (cM_0 G s8) rfl rfl rfl (Nat.le_of_ble_eq_true rfl) ⟨rfl, rfl, Nat.le_of_ble_eq_true rfl, Nat.le_of_ble_eq_true rfl⟩ dX7_shut_27 (fun H locs B => ?_)
      obtain ⟨rfl, rfl⟩ := ret2 h
      exact r_iret C B hr rfl dX7_shut_30
    · have h := ip h q6
      refine lv_bipush (v := (-2 : Int32)) hx hb dX7_shut_17 rfl ?_
      obtain ⟨rfl, rfl⟩ := ret2 h
      exact r_iret C B hr rfl dX7_shut_19
  · have h := ip h q3
    refine lv_iconst (v := (-1 : Int32)) hx hb dX7_shut_7 rfl ?_
    obtain ⟨rfl, rfl⟩ := ret2 h
    exact r_iret C B hr rfl dX7_shut_8
def rm_X7_loops : Room := { frames := 5, cells := 0, slots := 0, locals := 112 }
set_option maxRecDepth 100000 in
set_option maxHeartbeats 4000000 in
theorem l_X7_loops_L1 {G : GT} {p : Program} {e : Env} {s : State} {m : MethodId} {args : Array Value} {below : List Frame} {meth : Method} {c : Code} {Q : State → Prop} (C : CT G p s m meth c args cX7_loops 6 RX7) (hr : meth.sig.returnType = (some .int)) (s0 : ST) (v2 : Int32) : ∀ (k : Nat) (v5 : Int32) (v4 : Int32) (v3 : Int32) (e1 : Int32 × Int32), X7_loops_L1 s0 k v5 v4 v3 = some e1 → Kn G p e rm_X7_loops s m args below meth c Q 6 71 [(0, .ref (gad G 0)), (2, .int v2), (4, .int e1.1), (3, .int e1.2)] (wM G s0) → Kn G p e rm_X7_loops s m args below meth c Q 6 34 [(0, .ref (gad G 0)), (2, .int v2), (5, .int v5), (4, .int v4), (3, .int v3)] (wM G s0) := by
  have hx := C.1
  have hb := C.2.1
  intro k
  induction k with
  | zero =>
    intro v5 v4 v3 e1 h
    exact nso h
  | succ k ih =>
    intro v5 v4 v3 e1 h hk H locs ls B hl
    have h : X7_loops_L1_b s0 (X7_loops_L1 s0 k) v5 v4 v3 = some e1 := h
    unfold X7_loops_L1_b at h
    refine lv_iload hx hb dX7_loops_34 (lv_at hl 2 rfl) ?_
    refine lv_aload_n hx hb dX7_loops_36 rfl (lv_at hl 0 rfl) ?_
    obtain ⟨r12, q11, h⟩ := bd_o h
    refine r_callVi (rest := [.int v5]) C B hl (c_X7_all G s0 r12 q11) cs_X7_67 (cM_0 G s0) rfl rfl rfl (Nat.le_of_ble_eq_true rfl) ⟨rfl, rfl, Nat.le_of_ble_eq_true rfl, Nat.le_of_ble_eq_true rfl⟩ dX7_loops_37 (fun H locs B => ?_)
    refine lv_icmp_gt (tgt := 71) hx hb dX7_loops_40 (by decide) (fun q13 => ?_) (fun q13 => ?_)
    · have h := ip h q13
      obtain rfl := ret1 h
      exact hk H locs ls B (lv_sub hl [0, 1, 3, 4] rfl)
    · have h := ig h q13
      refine lv_aload_n hx hb dX7_loops_43 rfl (lv_at hl 0 rfl) ?_
      refine r_get C B fo_X7_42 (cM_0 G s0) rfl dX7_loops_44 ?_
      refine lv_iload hx hb dX7_loops_47 (lv_at hl 2 rfl) ?_
      obtain ⟨q14, h⟩ := gd_o h
      refine r_zald C B (cM_10 G s0) (inb_vp q14) dX7_loops_49 ?_
      refine lv_if_eq (tgt := 65) hx hb dX7_loops_50 (by decide) (fun q15 => ?_) (fun q15 => ?_)
      · have h := ip h q15
        obtain ⟨v5_16, q17, h⟩ := nm_o h
        refine lv_iinc (v := v5_16) (lv' := [(5, .int v5_16), (0, .ref (gad G 0)), (2, .int v2), (4, .int v4), (3, .int v3)]) hx hb dX7_loops_65 hl (k := 2) rfl q17.symm (by decide) rfl (fun ls hl => ?_)
        refine lv_goto (tgt := 34) hx hb dX7_loops_68 (by decide) ?_
        exact ih v5_16 v4 v3 e1 h hk H locs ls B (lv_sub hl [1, 2, 0, 3, 4] rfl)
      · have h := ig h q15
        refine lv_iload_n hx hb dX7_loops_53 rfl (lv_at hl 4 rfl) ?_
        refine lv_iload hx hb dX7_loops_54 (lv_at hl 2 rfl) ?_
        refine lv_ior hx hb dX7_loops_56 ?_
        obtain ⟨v3_18, q19, h⟩ := nm_o h
        refine r_nm q19 ?_
        refine lv_istore_n (lv' := [(3, .int v3_18), (0, .ref (gad G 0)), (2, .int v2), (5, .int v5), (4, .int v4)]) hx hb dX7_loops_57 rfl hl (by decide) rfl (fun ls hl => ?_)
        refine lv_iload hx hb dX7_loops_58 (lv_at hl 4 rfl) ?_
        refine lv_iload hx hb dX7_loops_60 (lv_at hl 3 rfl) ?_
        refine lv_iand hx hb dX7_loops_62 ?_
        obtain ⟨v4_20, q21, h⟩ := nm_o h
        refine r_nm q21 ?_
        refine lv_istore (lv' := [(4, .int v4_20), (3, .int v3_18), (0, .ref (gad G 0)), (2, .int v2), (5, .int v5)]) hx hb dX7_loops_63 hl (by decide) rfl (fun ls hl => ?_)
        obtain ⟨v5_22, q23, h⟩ := nm_o h
        refine lv_iinc (v := v5_22) (lv' := [(5, .int v5_22), (4, .int v4_20), (3, .int v3_18), (0, .ref (gad G 0)), (2, .int v2)]) hx hb dX7_loops_65 hl (k := 4) rfl q23.symm (by decide) rfl (fun ls hl => ?_)
        refine lv_goto (tgt := 34) hx hb dX7_loops_68 (by decide) ?_
        exact ih v5_22 v4_20 v3_18 e1 h hk H locs ls B (lv_sub hl [3, 4, 0, 1, 2] rfl)
set_option maxRecDepth 100000 in
set_option maxHeartbeats 4000000 in
theorem c_X7_loops (G : GT) (n : Nat) (s0 : ST) (v1 : Int32) (v2 : Int32) (r : Int32) (s' : ST) (h : X7_loops n s0 v1 v2 = some (r, s')) : Con G yX7_loops cX7_loops 6 (some .int) rm_X7_loops [.ref (gad G 0), .int v1, .int v2] (wM G s0) (some (.int r)) (wM G s') := by
  unfold X7_loops at h
  refine con_of (by decide +kernel) (Nat.le_of_ble_eq_true rfl) (fun {p e s m below meth c} C hr {H locs ls} B hl => ?_)
  have hx := C.1
  have hb := C.2.1
  have hl : lv_has ls 6 [(0, .ref (gad G 0)), (1, .int v1), (2, .int v2)] := hl
  refine lv_iload_n hx hb dX7_loops_0 rfl (lv_at hl 1 rfl) ?_
  obtain ⟨r1, q2, h⟩ := bd_o h
  refine r_callSi (rest := []) C B.2.2 hl (c_X7_isSide G v1 r1 q2) cs_X7_131 rfl rfl (Nat.le_of_ble_eq_true rfl) ⟨rfl, rfl, Nat.le_of_ble_eq_true rfl, Nat.le_of_ble_eq_true rfl⟩ dX7_loops_1 ?_
  refine lv_if_eq (tgt := 16) hx hb dX7_loops_4 (by decide) (fun q3 => ?_) (fun q3 => ?_)
  · have h := ip h q3
    refine lv_iconst (v := (-1 : Int32)) hx hb dX7_loops_16 rfl ?_
    obtain ⟨rfl, rfl⟩ := ret2 h
    exact r_iret C B hr rfl dX7_loops_17
  · have h := ig h q3
    refine lv_iload_n hx hb dX7_loops_7 rfl (lv_at hl 2 rfl) ?_
    refine lv_iconst (v := (0 : Int32)) hx hb dX7_loops_8 rfl ?_
    refine lv_iconst (v := (1 : Int32)) hx hb dX7_loops_9 rfl ?_
    obtain ⟨r4, q5, h⟩ := bd_o h
    refine r_callSi (rest := []) C B.2.2 hl (c_X7_in G v2 (0 : Int32) (1 : Int32) r4 q5) cs_X7_63 rfl rfl (Nat.le_of_ble_eq_true rfl) ⟨rfl, rfl, Nat.le_of_ble_eq_true rfl, Nat.le_of_ble_eq_true rfl⟩ dX7_loops_10 ?_
    refine lv_if_ne (tgt := 18) hx hb dX7_loops_13 (by decide) (fun q6 => ?_) (fun q6 => ?_)
    · have h := ig h q6
      refine lv_aload_n hx hb dX7_loops_18 rfl (lv_at hl 0 rfl) ?_
      refine lv_iload_n hx hb dX7_loops_19 rfl (lv_at hl 1 rfl) ?_
      obtain ⟨s8, q7, h⟩ := bd_o h
      refine r_callVv (rest := []) C B hl (c_X7_lay G n s0 v1 s8 q7) cs_X7_134 (cM_0 G s0) rfl rfl rfl (Nat.le_of_ble_eq_true rfl) ⟨rfl, rfl, Nat.le_of_ble_eq_true rfl, Nat.le_of_ble_eq_true rfl⟩ dX7_loops_20 (fun H locs B => ?_)
      refine lv_iconst (v := (0 : Int32)) hx hb dX7_loops_23 rfl ?_
      refine lv_istore_n (lv' := [(3, .int (0 : Int32)), (0, .ref (gad G 0)), (1, .int v1), (2, .int v2)]) hx hb dX7_loops_24 rfl hl (by decide) rfl (fun ls hl => ?_)
      refine lv_aload_n hx hb dX7_loops_25 rfl (lv_at hl 1 rfl) ?_
      obtain ⟨r10, q9, h⟩ := bd_o h
      refine r_callVi (rest := []) C B hl (c_X7_all G s8 r10 q9) cs_X7_67 (cM_0 G s8) rfl rfl rfl (Nat.le_of_ble_eq_true rfl) ⟨rfl, rfl, Nat.le_of_ble_eq_true rfl, Nat.le_of_ble_eq_true rfl⟩ dX7_loops_26 (fun H locs B => ?_)
      refine lv_istore (lv' := [(4, .int r10), (3, .int (0 : Int32)), (0, .ref (gad G 0)), (1, .int v1), (2, .int v2)]) hx hb dX7_loops_29 hl (by decide) rfl (fun ls hl => ?_)
      refine lv_iconst (v := (0 : Int32)) hx hb dX7_loops_31 rfl ?_
      refine lv_istore (lv' := [(5, .int (0 : Int32)), (4, .int r10), (3, .int (0 : Int32)), (0, .ref (gad G 0)), (1, .int v1), (2, .int v2)]) hx hb dX7_loops_32 hl (by decide) rfl (fun ls hl => ?_)
      obtain ⟨e24, q25, h⟩ := bd_o h
      refine l_X7_loops_L1 C hr s8 v2 n (0 : Int32) r10 (0 : Int32) e24 q25 ?_ H locs ls B (lv_sub hl [3, 5, 0, 1, 2] rfl)
      intro H locs ls B hl
      refine lv_iload_n hx hb dX7_loops_71 rfl (lv_at hl 1 rfl) ?_
      refine lv_if_ne (tgt := 86) hx hb dX7_loops_72 (by decide) (fun q26 => ?_) (fun q26 => ?_)
      · have h := ig h q26
        refine lv_iload hx hb dX7_loops_86 (lv_at hl 2 rfl) ?_
        obtain ⟨rfl, rfl⟩ := ret2 h
        exact r_iret C B hr rfl dX7_loops_88
      · have h := ip h q26
        refine lv_aload_n hx hb dX7_loops_75 rfl (lv_at hl 0 rfl) ?_
        obtain ⟨r28, q27, h⟩ := bd_o h
        refine r_callVi (rest := []) C B hl (c_X7_all G s8 r28 q27) cs_X7_67 (cM_0 G s8) rfl rfl rfl (Nat.le_of_ble_eq_true rfl) ⟨rfl, rfl, Nat.le_of_ble_eq_true rfl, Nat.le_of_ble_eq_true rfl⟩ dX7_loops_76 (fun H locs B => ?_)
        refine lv_iload_n hx hb dX7_loops_79 rfl (lv_at hl 3 rfl) ?_
        refine lv_iconst (v := (-1 : Int32)) hx hb dX7_loops_80 rfl ?_
        refine lv_ixor hx hb dX7_loops_81 ?_
        refine lv_iand hx hb dX7_loops_82 ?_
        refine lv_goto (tgt := 88) hx hb dX7_loops_83 (by decide) ?_
        obtain ⟨rfl, rfl⟩ := ret2 h
        exact r_iret C B hr rfl dX7_loops_88
    · have h := ip h q6
      refine lv_iconst (v := (-1 : Int32)) hx hb dX7_loops_16 rfl ?_
      obtain ⟨rfl, rfl⟩ := ret2 h
      exact r_iret C B hr rfl dX7_loops_17
def rm_X7_round : Room := { frames := 5, cells := 0, slots := 0, locals := 112 }
set_option maxRecDepth 100000 in
set_option maxHeartbeats 4000000 in
theorem l_X7_round_L1 {G : GT} {p : Program} {e : Env} {s : State} {m : MethodId} {args : Array Value} {below : List Frame} {meth : Method} {c : Code} {Q : State → Prop} (C : CT G p s m meth c args cX7_round 7 RX7) (hr : meth.sig.returnType = (some .int)) (s0 : ST) (v4 : Int32) : ∀ (k : Nat) (v6 : Int32) (v5 : Int32) (e1 : Int32), X7_round_L1 s0 v4 k v6 v5 = some e1 → Kn G p e rm_X7_round s m args below meth c Q 7 121 [(5, .int e1)] (wM G s0) → Kn G p e rm_X7_round s m args below meth c Q 7 66 [(0, .ref (gad G 0)), (4, .int v4), (6, .int v6), (5, .int v5)] (wM G s0) := by
  have hx := C.1
  have hb := C.2.1
  intro k
  induction k with
  | zero =>
    intro v6 v5 e1 h
    exact nso h
  | succ k ih =>
    intro v6 v5 e1 h hk H locs ls B hl
    have h : X7_round_L1_b s0 v4 (X7_round_L1 s0 v4 k) v6 v5 = some e1 := h
    unfold X7_round_L1_b at h
    refine lv_iload hx hb dX7_round_66 (lv_at hl 2 rfl) ?_
    refine lv_aload_n hx hb dX7_round_68 rfl (lv_at hl 0 rfl) ?_
    refine r_get C B fo_X7_7 (cM_0 G s0) rfl dX7_round_69 ?_
    refine lv_icmp_ge (tgt := 121) hx hb dX7_round_72 (by decide) (fun q19 => ?_) (fun q19 => ?_)
    · have h := ip h q19
      obtain rfl := ret1 h
      exact hk H locs ls B (lv_sub hl [3] rfl)
    · have h := ig h q19
      refine lv_iload hx hb dX7_round_75 (lv_at hl 3 rfl) ?_
      refine lv_iload hx hb dX7_round_77 (lv_at hl 1 rfl) ?_
      refine lv_iload hx hb dX7_round_79 (lv_at hl 2 rfl) ?_
      obtain ⟨r20, q21, h⟩ := bd_o h
      refine r_callSi (rest := [.int v5]) C B.2.2 hl (c_X7_has G v4 v6 r20 q21) cs_X7_77 rfl rfl (Nat.le_of_ble_eq_true rfl) ⟨rfl, rfl, Nat.le_of_ble_eq_true rfl, Nat.le_of_ble_eq_true rfl⟩ dX7_round_81 ?_
      refine lv_if_eq (tgt := 111) hx hb dX7_round_84 (by decide) (fun q22 => ?_) (fun q22 => ?_)
      · have h := ip h q22
        refine lv_iconst (v := (0 : Int32)) hx hb dX7_round_111 rfl ?_
        refine lv_ior hx hb dX7_round_112 ?_
        obtain ⟨v5_23, q24, h⟩ := nm_o h
        refine r_nm q24 ?_
        refine lv_istore (lv' := [(5, .int v5_23), (0, .ref (gad G 0)), (4, .int v4), (6, .int v6)]) hx hb dX7_round_113 hl (by decide) rfl (fun ls hl => ?_)
        obtain ⟨v6_25, q26, h⟩ := nm_o h
        refine lv_iinc (v := v6_25) (lv' := [(6, .int v6_25), (5, .int v5_23), (0, .ref (gad G 0)), (4, .int v4)]) hx hb dX7_round_115 hl (k := 3) rfl q26.symm (by decide) rfl (fun ls hl => ?_)
        refine lv_goto (tgt := 66) hx hb dX7_round_118 (by decide) ?_
        exact ih v6_25 v5_23 e1 h hk H locs ls B (lv_sub hl [2, 3, 0, 1] rfl)
      · have h := ig h q22
        refine lv_aload_n hx hb dX7_round_87 rfl (lv_at hl 0 rfl) ?_
        refine r_get C B fo_X7_38 (cM_0 G s0) rfl dX7_round_88 ?_
        refine lv_iload hx hb dX7_round_91 (lv_at hl 1 rfl) ?_
        refine lv_iconst (v := (1 : Int32)) hx hb dX7_round_93 rfl ?_
        refine lv_iload hx hb dX7_round_94 (lv_at hl 2 rfl) ?_
        refine lv_ishl hx hb dX7_round_96 ?_
        refine lv_iconst (v := (-1 : Int32)) hx hb dX7_round_97 rfl ?_
        refine lv_ixor hx hb dX7_round_98 ?_
        refine lv_iand hx hb dX7_round_99 ?_
        obtain ⟨q27, h⟩ := gd_o h
        refine r_zald C B (cM_9 G s0) (inb_vp q27) dX7_round_100 ?_
        refine lv_if_eq (tgt := 111) hx hb dX7_round_101 (by decide) (fun q28 => ?_) (fun q28 => ?_)
        · have h := ip h q28
          refine lv_iconst (v := (0 : Int32)) hx hb dX7_round_111 rfl ?_
          refine lv_ior hx hb dX7_round_112 ?_
          obtain ⟨v5_29, q30, h⟩ := nm_o h
          refine r_nm q30 ?_
          refine lv_istore (lv' := [(5, .int v5_29), (0, .ref (gad G 0)), (4, .int v4), (6, .int v6)]) hx hb dX7_round_113 hl (by decide) rfl (fun ls hl => ?_)
          obtain ⟨v6_31, q32, h⟩ := nm_o h
          refine lv_iinc (v := v6_31) (lv' := [(6, .int v6_31), (5, .int v5_29), (0, .ref (gad G 0)), (4, .int v4)]) hx hb dX7_round_115 hl (k := 3) rfl q32.symm (by decide) rfl (fun ls hl => ?_)
          refine lv_goto (tgt := 66) hx hb dX7_round_118 (by decide) ?_
          exact ih v6_31 v5_29 e1 h hk H locs ls B (lv_sub hl [2, 3, 0, 1] rfl)
        · have h := ig h q28
          refine lv_iconst (v := (1 : Int32)) hx hb dX7_round_104 rfl ?_
          refine lv_iload hx hb dX7_round_105 (lv_at hl 2 rfl) ?_
          refine lv_ishl hx hb dX7_round_107 ?_
          refine lv_goto (tgt := 112) hx hb dX7_round_108 (by decide) ?_
          refine lv_ior hx hb dX7_round_112 ?_
          obtain ⟨v5_33, q34, h⟩ := nm_o h
          refine r_nm q34 ?_
          refine lv_istore (lv' := [(5, .int v5_33), (0, .ref (gad G 0)), (4, .int v4), (6, .int v6)]) hx hb dX7_round_113 hl (by decide) rfl (fun ls hl => ?_)
          obtain ⟨v6_35, q36, h⟩ := nm_o h
          refine lv_iinc (v := v6_35) (lv' := [(6, .int v6_35), (5, .int v5_33), (0, .ref (gad G 0)), (4, .int v4)]) hx hb dX7_round_115 hl (k := 3) rfl q36.symm (by decide) rfl (fun ls hl => ?_)
          refine lv_goto (tgt := 66) hx hb dX7_round_118 (by decide) ?_
          exact ih v6_35 v5_33 e1 h hk H locs ls B (lv_sub hl [2, 3, 0, 1] rfl)
set_option maxRecDepth 100000 in
set_option maxHeartbeats 4000000 in
theorem c_X7_round (G : GT) (n : Nat) (s0 : ST) (v1 : Int32) (v2 : Int32) (v3 : Int32) (r : Int32) (s' : ST) (h : X7_round n s0 v1 v2 v3 = some (r, s')) : Con G yX7_round cX7_round 7 (some .int) rm_X7_round [.ref (gad G 0), .int v1, .int v2, .int v3] (wM G s0) (some (.int r)) (wM G s') := by
  unfold X7_round at h
  refine con_of (by decide +kernel) (Nat.le_of_ble_eq_true rfl) (fun {p e s m below meth c} C hr {H locs ls} B hl => ?_)
  have hx := C.1
  have hb := C.2.1
  have hl : lv_has ls 7 [(0, .ref (gad G 0)), (1, .int v1), (2, .int v2), (3, .int v3)] := hl
  refine lv_iload_n hx hb dX7_round_0 rfl (lv_at hl 1 rfl) ?_
  obtain ⟨r1, q2, h⟩ := bd_o h
  refine r_callSi (rest := []) C B.2.2 hl (c_X7_isSide G v1 r1 q2) cs_X7_131 rfl rfl (Nat.le_of_ble_eq_true rfl) ⟨rfl, rfl, Nat.le_of_ble_eq_true rfl, Nat.le_of_ble_eq_true rfl⟩ dX7_round_1 ?_
  refine lv_if_eq (tgt := 15) hx hb dX7_round_4 (by decide) (fun q3 => ?_) (fun q3 => ?_)
  · have h := ip h q3
    refine lv_iconst (v := (-1 : Int32)) hx hb dX7_round_15 rfl ?_
    obtain ⟨rfl, rfl⟩ := ret2 h
    exact r_iret C B hr rfl dX7_round_16
  · have h := ig h q3
    refine lv_aload_n hx hb dX7_round_7 rfl (lv_at hl 0 rfl) ?_
    refine lv_iload_n hx hb dX7_round_8 rfl (lv_at hl 3 rfl) ?_
    obtain ⟨r5, q4, h⟩ := bd_o h
    refine r_callVi (rest := []) C B hl (c_X7_isPost G s0 v3 r5 q4) cs_X7_119 (cM_0 G s0) rfl rfl rfl (Nat.le_of_ble_eq_true rfl) ⟨rfl, rfl, Nat.le_of_ble_eq_true rfl, Nat.le_of_ble_eq_true rfl⟩ dX7_round_9 (fun H locs B => ?_)
    refine lv_if_ne (tgt := 17) hx hb dX7_round_12 (by decide) (fun q6 => ?_) (fun q6 => ?_)
    · have h := ig h q6
      refine lv_aload_n hx hb dX7_round_17 rfl (lv_at hl 0 rfl) ?_
      refine lv_iload_n hx hb dX7_round_18 rfl (lv_at hl 2 rfl) ?_
      obtain ⟨r8, q7, h⟩ := bd_o h
      refine r_callVi (rest := []) C B hl (c_X7_isSet G s0 v2 r8 q7) cs_X7_122 (cM_0 G s0) rfl rfl rfl (Nat.le_of_ble_eq_true rfl) ⟨rfl, rfl, Nat.le_of_ble_eq_true rfl, Nat.le_of_ble_eq_true rfl⟩ dX7_round_19 (fun H locs B => ?_)
      refine lv_if_ne (tgt := 28) hx hb dX7_round_22 (by decide) (fun q9 => ?_) (fun q9 => ?_)
      · have h := ig h q9
        refine lv_aload_n hx hb dX7_round_28 rfl (lv_at hl 0 rfl) ?_
        refine lv_iload_n hx hb dX7_round_29 rfl (lv_at hl 1 rfl) ?_
        obtain ⟨s11, q10, h⟩ := bd_o h
        refine r_callVv (rest := []) C B hl (c_X7_lay G n s0 v1 s11 q10) cs_X7_134 (cM_0 G s0) rfl rfl rfl (Nat.le_of_ble_eq_true rfl) ⟨rfl, rfl, Nat.le_of_ble_eq_true rfl, Nat.le_of_ble_eq_true rfl⟩ dX7_round_30 (fun H locs B => ?_)
        refine lv_aload_n hx hb dX7_round_33 rfl (lv_at hl 0 rfl) ?_
        refine r_get C B fo_X7_42 (cM_0 G s11) rfl dX7_round_34 ?_
        refine lv_iload_n hx hb dX7_round_37 rfl (lv_at hl 2 rfl) ?_
        obtain ⟨q12, h⟩ := gd_o h
        refine r_zald C B (cM_10 G s11) (inb_vp q12) dX7_round_38 ?_
        refine lv_if_eq (tgt := 50) hx hb dX7_round_39 (by decide) (fun q13 => ?_) (fun q13 => ?_)
        · have h := ip h q13
          refine lv_bipush (v := (-5 : Int32)) hx hb dX7_round_50 rfl ?_
          obtain ⟨rfl, rfl⟩ := ret2 h
          exact r_iret C B hr rfl dX7_round_52
        · have h := ig h q13
          refine lv_iload_n hx hb dX7_round_42 rfl (lv_at hl 2 rfl) ?_
          refine lv_iload_n hx hb dX7_round_43 rfl (lv_at hl 3 rfl) ?_
          obtain ⟨r14, q15, h⟩ := bd_o h
          refine r_callSi (rest := []) C B.2.2 hl (c_X7_has G v2 v3 r14 q15) cs_X7_77 rfl rfl (Nat.le_of_ble_eq_true rfl) ⟨rfl, rfl, Nat.le_of_ble_eq_true rfl, Nat.le_of_ble_eq_true rfl⟩ dX7_round_44 ?_
          refine lv_if_eq (tgt := 53) hx hb dX7_round_47 (by decide) (fun q16 => ?_) (fun q16 => ?_)
          · have h := ip h q16
            refine lv_iload_n hx hb dX7_round_53 rfl (lv_at hl 2 rfl) ?_
            refine lv_iconst (v := (1 : Int32)) hx hb dX7_round_54 rfl ?_
            refine lv_iload_n hx hb dX7_round_55 rfl (lv_at hl 3 rfl) ?_
            refine lv_ishl hx hb dX7_round_56 ?_
            refine lv_ior hx hb dX7_round_57 ?_
            obtain ⟨v4_17, q18, h⟩ := nm_o h
            refine r_nm q18 ?_
            refine lv_istore (lv' := [(4, .int v4_17), (0, .ref (gad G 0)), (1, .int v1), (2, .int v2), (3, .int v3)]) hx hb dX7_round_58 hl (by decide) rfl (fun ls hl => ?_)
            refine lv_iconst (v := (0 : Int32)) hx hb dX7_round_60 rfl ?_
            refine lv_istore (lv' := [(5, .int (0 : Int32)), (4, .int v4_17), (0, .ref (gad G 0)), (1, .int v1), (2, .int v2), (3, .int v3)]) hx hb dX7_round_61 hl (by decide) rfl (fun ls hl => ?_)
            refine lv_iconst (v := (0 : Int32)) hx hb dX7_round_63 rfl ?_
            refine lv_istore (lv' := [(6, .int (0 : Int32)), (5, .int (0 : Int32)), (4, .int v4_17), (0, .ref (gad G 0)), (1, .int v1), (2, .int v2), (3, .int v3)]) hx hb dX7_round_64 hl (by decide) rfl (fun ls hl => ?_)
            obtain ⟨e37, q38, h⟩ := bd_o h
            refine l_X7_round_L1 C hr s11 v4_17 n (0 : Int32) (0 : Int32) e37 q38 ?_ H locs ls B (lv_sub hl [3, 2, 0, 1] rfl)
            intro H locs ls B hl
            refine lv_iload hx hb dX7_round_121 (lv_at hl 0 rfl) ?_
            obtain ⟨rfl, rfl⟩ := ret2 h
            exact r_iret C B hr rfl dX7_round_123
          · have h := ig h q16
            refine lv_bipush (v := (-5 : Int32)) hx hb dX7_round_50 rfl ?_
            obtain ⟨rfl, rfl⟩ := ret2 h
            exact r_iret C B hr rfl dX7_round_52
      · have h := ip h q9
        refine lv_bipush (v := (-2 : Int32)) hx hb dX7_round_25 rfl ?_
        obtain ⟨rfl, rfl⟩ := ret2 h
        exact r_iret C B hr rfl dX7_round_27
    · have h := ip h q6
      refine lv_iconst (v := (-1 : Int32)) hx hb dX7_round_15 rfl ?_
      obtain ⟨rfl, rfl⟩ := ret2 h
      exact r_iret C B hr rfl dX7_round_16
def rm_X7_swap : Room := { frames := 5, cells := 0, slots := 0, locals := 112 }
set_option maxRecDepth 100000 in
set_option maxHeartbeats 4000000 in
theorem l_X7_swap_L1 {G : GT} {p : Program} {e : Env} {s : State} {m : MethodId} {args : Array Value} {below : List Frame} {meth : Method} {c : Code} {Q : State → Prop} (C : CT G p s m meth c args cX7_swap 6 RX7) (hr : meth.sig.returnType = (some .int)) (s0 : ST) (v2 : Int32) (v3 : Int32) (v4 : Int32) : ∀ (k : Nat) (v5 : Int32) (e1 : Int32), X7_swap_L1 s0 v2 v3 v4 k v5 = some e1 → Kn G p e rm_X7_swap s m args below meth c Q 6 129 [(5, .int e1)] (wM G s0) → Kn G p e rm_X7_swap s m args below meth c Q 6 84 [(0, .ref (gad G 0)), (2, .int v2), (3, .int v3), (4, .int v4), (5, .int v5)] (wM G s0) := by
  have hx := C.1
  have hb := C.2.1
  intro k
  induction k with
  | zero =>
    intro v5 e1 h
    exact nso h
  | succ k ih =>
    intro v5 e1 h hk H locs ls B hl
    have h : X7_swap_L1_b s0 v2 v3 v4 (X7_swap_L1 s0 v2 v3 v4 k) v5 = some e1 := h
    unfold X7_swap_L1_b at h
    refine lv_iload_n hx hb dX7_swap_84 rfl (lv_at hl 2 rfl) ?_
    refine lv_iload hx hb dX7_swap_85 (lv_at hl 4 rfl) ?_
    obtain ⟨r25, q26, h⟩ := bd_o h
    refine r_callSi (rest := []) C B.2.2 hl (c_X7_has G v3 v5 r25 q26) cs_X7_77 rfl rfl (Nat.le_of_ble_eq_true rfl) ⟨rfl, rfl, Nat.le_of_ble_eq_true rfl, Nat.le_of_ble_eq_true rfl⟩ dX7_swap_87 ?_
    refine lv_if_eq (tgt := 123) hx hb dX7_swap_90 (by decide) (fun q27 => ?_) (fun q27 => ?_)
    · have h := ip h q27
      obtain ⟨v5_28, q29, h⟩ := nm_o h
      refine lv_iinc (v := v5_28) (lv' := [(5, .int v5_28), (0, .ref (gad G 0)), (2, .int v2), (3, .int v3), (4, .int v4)]) hx hb dX7_swap_123 hl (k := 4) rfl q29.symm (by decide) rfl (fun ls hl => ?_)
      refine lv_goto (tgt := 84) hx hb dX7_swap_126 (by decide) ?_
      exact ih v5_28 e1 h hk H locs ls B (lv_sub hl [1, 2, 3, 4, 0] rfl)
    · have h := ig h q27
      refine lv_iload_n hx hb dX7_swap_93 rfl (lv_at hl 1 rfl) ?_
      refine lv_iload hx hb dX7_swap_94 (lv_at hl 4 rfl) ?_
      obtain ⟨r30, q31, h⟩ := bd_o h
      refine r_callSi (rest := []) C B.2.2 hl (c_X7_has G v2 v5 r30 q31) cs_X7_77 rfl rfl (Nat.le_of_ble_eq_true rfl) ⟨rfl, rfl, Nat.le_of_ble_eq_true rfl, Nat.le_of_ble_eq_true rfl⟩ dX7_swap_96 ?_
      refine lv_if_ne (tgt := 123) hx hb dX7_swap_99 (by decide) (fun q32 => ?_) (fun q32 => ?_)
      · have h := ig h q32
        obtain ⟨v5_33, q34, h⟩ := nm_o h
        refine lv_iinc (v := v5_33) (lv' := [(5, .int v5_33), (0, .ref (gad G 0)), (2, .int v2), (3, .int v3), (4, .int v4)]) hx hb dX7_swap_123 hl (k := 4) rfl q34.symm (by decide) rfl (fun ls hl => ?_)
        refine lv_goto (tgt := 84) hx hb dX7_swap_126 (by decide) ?_
        exact ih v5_33 e1 h hk H locs ls B (lv_sub hl [1, 2, 3, 4, 0] rfl)
      · have h := ip h q32
        refine lv_aload_n hx hb dX7_swap_102 rfl (lv_at hl 0 rfl) ?_
        refine r_get C B fo_X7_42 (cM_0 G s0) rfl dX7_swap_103 ?_
        refine lv_iload_n hx hb dX7_swap_106 rfl (lv_at hl 1 rfl) ?_
        refine lv_iconst (v := (1 : Int32)) hx hb dX7_swap_107 rfl ?_
        refine lv_iload hx hb dX7_swap_108 (lv_at hl 3 rfl) ?_
        refine lv_ishl hx hb dX7_swap_110 ?_
        refine lv_iconst (v := (-1 : Int32)) hx hb dX7_swap_111 rfl ?_
        refine lv_ixor hx hb dX7_swap_112 ?_
        refine lv_iand hx hb dX7_swap_113 ?_
        refine lv_iconst (v := (1 : Int32)) hx hb dX7_swap_114 rfl ?_
        refine lv_iload hx hb dX7_swap_115 (lv_at hl 4 rfl) ?_
        refine lv_ishl hx hb dX7_swap_117 ?_
        refine lv_ior hx hb dX7_swap_118 ?_
        obtain ⟨q35, h⟩ := gd_o h
        refine r_zald C B (cM_10 G s0) (inb_vp q35) dX7_swap_119 ?_
        refine lv_if_ne (tgt := 129) hx hb dX7_swap_120 (by decide) (fun q36 => ?_) (fun q36 => ?_)
        · have h := ig h q36
          obtain rfl := ret1 h
          exact hk H locs ls B (lv_sub hl [4] rfl)
        · have h := ip h q36
          obtain ⟨v5_37, q38, h⟩ := nm_o h
          refine lv_iinc (v := v5_37) (lv' := [(5, .int v5_37), (0, .ref (gad G 0)), (2, .int v2), (3, .int v3), (4, .int v4)]) hx hb dX7_swap_123 hl (k := 4) rfl q38.symm (by decide) rfl (fun ls hl => ?_)
          refine lv_goto (tgt := 84) hx hb dX7_swap_126 (by decide) ?_
          exact ih v5_37 e1 h hk H locs ls B (lv_sub hl [1, 2, 3, 4, 0] rfl)
set_option maxRecDepth 100000 in
set_option maxHeartbeats 4000000 in
theorem c_X7_swap (G : GT) (n : Nat) (s0 : ST) (v1 : Int32) (v2 : Int32) (v3 : Int32) (v4 : Int32) (r : Int32) (s' : ST) (h : X7_swap n s0 v1 v2 v3 v4 = some (r, s')) : Con G yX7_swap cX7_swap 6 (some .int) rm_X7_swap [.ref (gad G 0), .int v1, .int v2, .int v3, .int v4] (wM G s0) (some (.int r)) (wM G s') := by
  unfold X7_swap at h
  refine con_of (by decide +kernel) (Nat.le_of_ble_eq_true rfl) (fun {p e s m below meth c} C hr {H locs ls} B hl => ?_)
  have hx := C.1
  have hb := C.2.1
  have hl : lv_has ls 6 [(0, .ref (gad G 0)), (1, .int v1), (2, .int v2), (3, .int v3), (4, .int v4)] := hl
  refine lv_iload_n hx hb dX7_swap_0 rfl (lv_at hl 1 rfl) ?_
  obtain ⟨r1, q2, h⟩ := bd_o h
  refine r_callSi (rest := []) C B.2.2 hl (c_X7_isSide G v1 r1 q2) cs_X7_131 rfl rfl (Nat.le_of_ble_eq_true rfl) ⟨rfl, rfl, Nat.le_of_ble_eq_true rfl, Nat.le_of_ble_eq_true rfl⟩ dX7_swap_1 ?_
  refine lv_if_eq (tgt := 16) hx hb dX7_swap_4 (by decide) (fun q3 => ?_) (fun q3 => ?_)
  · have h := ip h q3
    refine lv_iconst (v := (-1 : Int32)) hx hb dX7_swap_16 rfl ?_
    obtain ⟨rfl, rfl⟩ := ret2 h
    exact r_iret C B hr rfl dX7_swap_17
  · have h := ig h q3
    refine lv_aload_n hx hb dX7_swap_7 rfl (lv_at hl 0 rfl) ?_
    refine lv_iload hx hb dX7_swap_8 (lv_at hl 4 rfl) ?_
    obtain ⟨r5, q4, h⟩ := bd_o h
    refine r_callVi (rest := []) C B hl (c_X7_isPost G s0 v4 r5 q4) cs_X7_119 (cM_0 G s0) rfl rfl rfl (Nat.le_of_ble_eq_true rfl) ⟨rfl, rfl, Nat.le_of_ble_eq_true rfl, Nat.le_of_ble_eq_true rfl⟩ dX7_swap_10 (fun H locs B => ?_)
    refine lv_if_ne (tgt := 18) hx hb dX7_swap_13 (by decide) (fun q6 => ?_) (fun q6 => ?_)
    · have h := ig h q6
      refine lv_aload_n hx hb dX7_swap_18 rfl (lv_at hl 0 rfl) ?_
      refine lv_iload_n hx hb dX7_swap_19 rfl (lv_at hl 2 rfl) ?_
      obtain ⟨r8, q7, h⟩ := bd_o h
      refine r_callVi (rest := []) C B hl (c_X7_isSet G s0 v2 r8 q7) cs_X7_122 (cM_0 G s0) rfl rfl rfl (Nat.le_of_ble_eq_true rfl) ⟨rfl, rfl, Nat.le_of_ble_eq_true rfl, Nat.le_of_ble_eq_true rfl⟩ dX7_swap_20 (fun H locs B => ?_)
      refine lv_if_eq (tgt := 34) hx hb dX7_swap_23 (by decide) (fun q9 => ?_) (fun q9 => ?_)
      · have h := ip h q9
        refine lv_bipush (v := (-2 : Int32)) hx hb dX7_swap_34 rfl ?_
        obtain ⟨rfl, rfl⟩ := ret2 h
        exact r_iret C B hr rfl dX7_swap_36
      · have h := ig h q9
        refine lv_aload_n hx hb dX7_swap_26 rfl (lv_at hl 0 rfl) ?_
        refine lv_iload_n hx hb dX7_swap_27 rfl (lv_at hl 3 rfl) ?_
        obtain ⟨r11, q10, h⟩ := bd_o h
        refine r_callVi (rest := []) C B hl (c_X7_isSet G s0 v3 r11 q10) cs_X7_122 (cM_0 G s0) rfl rfl rfl (Nat.le_of_ble_eq_true rfl) ⟨rfl, rfl, Nat.le_of_ble_eq_true rfl, Nat.le_of_ble_eq_true rfl⟩ dX7_swap_28 (fun H locs B => ?_)
        refine lv_if_ne (tgt := 37) hx hb dX7_swap_31 (by decide) (fun q12 => ?_) (fun q12 => ?_)
        · have h := ig h q12
          refine lv_aload_n hx hb dX7_swap_37 rfl (lv_at hl 0 rfl) ?_
          refine lv_iload_n hx hb dX7_swap_38 rfl (lv_at hl 1 rfl) ?_
          obtain ⟨s14, q13, h⟩ := bd_o h
          refine r_callVv (rest := []) C B hl (c_X7_lay G n s0 v1 s14 q13) cs_X7_134 (cM_0 G s0) rfl rfl rfl (Nat.le_of_ble_eq_true rfl) ⟨rfl, rfl, Nat.le_of_ble_eq_true rfl, Nat.le_of_ble_eq_true rfl⟩ dX7_swap_39 (fun H locs B => ?_)
          refine lv_aload_n hx hb dX7_swap_42 rfl (lv_at hl 0 rfl) ?_
          refine r_get C B fo_X7_42 (cM_0 G s14) rfl dX7_swap_43 ?_
          refine lv_iload_n hx hb dX7_swap_46 rfl (lv_at hl 2 rfl) ?_
          obtain ⟨q15, h⟩ := gd_o h
          refine r_zald C B (cM_10 G s14) (inb_vp q15) dX7_swap_47 ?_
          refine lv_if_eq (tgt := 78) hx hb dX7_swap_48 (by decide) (fun q16 => ?_) (fun q16 => ?_)
          · have h := ip h q16
            refine lv_bipush (v := (-5 : Int32)) hx hb dX7_swap_78 rfl ?_
            obtain ⟨rfl, rfl⟩ := ret2 h
            exact r_iret C B hr rfl dX7_swap_80
          · have h := ig h q16
            refine lv_aload_n hx hb dX7_swap_51 rfl (lv_at hl 0 rfl) ?_
            refine r_get C B fo_X7_42 (cM_0 G s14) rfl dX7_swap_52 ?_
            refine lv_iload_n hx hb dX7_swap_55 rfl (lv_at hl 3 rfl) ?_
            obtain ⟨q17, h⟩ := gd_o h
            refine r_zald C B (cM_10 G s14) (inb_vp q17) dX7_swap_56 ?_
            refine lv_if_eq (tgt := 78) hx hb dX7_swap_57 (by decide) (fun q18 => ?_) (fun q18 => ?_)
            · have h := ip h q18
              refine lv_bipush (v := (-5 : Int32)) hx hb dX7_swap_78 rfl ?_
              obtain ⟨rfl, rfl⟩ := ret2 h
              exact r_iret C B hr rfl dX7_swap_80
            · have h := ig h q18
              refine lv_iload_n hx hb dX7_swap_60 rfl (lv_at hl 2 rfl) ?_
              refine lv_iload hx hb dX7_swap_61 (lv_at hl 4 rfl) ?_
              obtain ⟨r19, q20, h⟩ := bd_o h
              refine r_callSi (rest := []) C B.2.2 hl (c_X7_has G v2 v4 r19 q20) cs_X7_77 rfl rfl (Nat.le_of_ble_eq_true rfl) ⟨rfl, rfl, Nat.le_of_ble_eq_true rfl, Nat.le_of_ble_eq_true rfl⟩ dX7_swap_63 ?_
              refine lv_if_eq (tgt := 78) hx hb dX7_swap_66 (by decide) (fun q21 => ?_) (fun q21 => ?_)
              · have h := ip h q21
                refine lv_bipush (v := (-5 : Int32)) hx hb dX7_swap_78 rfl ?_
                obtain ⟨rfl, rfl⟩ := ret2 h
                exact r_iret C B hr rfl dX7_swap_80
              · have h := ig h q21
                refine lv_iload_n hx hb dX7_swap_69 rfl (lv_at hl 3 rfl) ?_
                refine lv_iload hx hb dX7_swap_70 (lv_at hl 4 rfl) ?_
                obtain ⟨r22, q23, h⟩ := bd_o h
                refine r_callSi (rest := []) C B.2.2 hl (c_X7_has G v3 v4 r22 q23) cs_X7_77 rfl rfl (Nat.le_of_ble_eq_true rfl) ⟨rfl, rfl, Nat.le_of_ble_eq_true rfl, Nat.le_of_ble_eq_true rfl⟩ dX7_swap_72 ?_
                refine lv_if_eq (tgt := 81) hx hb dX7_swap_75 (by decide) (fun q24 => ?_) (fun q24 => ?_)
                · have h := ip h q24
                  refine lv_iconst (v := (0 : Int32)) hx hb dX7_swap_81 rfl ?_
                  refine lv_istore (lv' := [(5, .int (0 : Int32)), (0, .ref (gad G 0)), (1, .int v1), (2, .int v2), (3, .int v3), (4, .int v4)]) hx hb dX7_swap_82 hl (by decide) rfl (fun ls hl => ?_)
                  obtain ⟨e39, q40, h⟩ := bd_o h
                  refine l_X7_swap_L1 C hr s14 v2 v3 v4 n (0 : Int32) e39 q40 ?_ H locs ls B (lv_sub hl [1, 3, 4, 5, 0] rfl)
                  intro H locs ls B hl
                  refine lv_iload hx hb dX7_swap_129 (lv_at hl 0 rfl) ?_
                  obtain ⟨rfl, rfl⟩ := ret2 h
                  exact r_iret C B hr rfl dX7_swap_131
                · have h := ig h q24
                  refine lv_bipush (v := (-5 : Int32)) hx hb dX7_swap_78 rfl ?_
                  obtain ⟨rfl, rfl⟩ := ret2 h
                  exact r_iret C B hr rfl dX7_swap_80
        · have h := ip h q12
          refine lv_bipush (v := (-2 : Int32)) hx hb dX7_swap_34 rfl ?_
          obtain ⟨rfl, rfl⟩ := ret2 h
          exact r_iret C B hr rfl dX7_swap_36
    · have h := ip h q6
      refine lv_iconst (v := (-1 : Int32)) hx hb dX7_swap_16 rfl ?_
      obtain ⟨rfl, rfl⟩ := ret2 h
      exact r_iret C B hr rfl dX7_swap_17
def rm_X7_steps : Room := { frames := 5, cells := 0, slots := 0, locals := 112 }
set_option maxRecDepth 100000 in
set_option maxHeartbeats 4000000 in
theorem l_X7_steps_L2 {G : GT} {p : Program} {e : Env} {s : State} {m : MethodId} {args : Array Value} {below : List Frame} {meth : Method} {c : Code} {Q : State → Prop} (C : CT G p s m meth c args cX7_steps 5 RX7) (hr : meth.sig.returnType = (some .int)) (s0 : ST) (v3 : Int32) : ∀ (k : Nat) (v4 : Int32) (v2 : Int32) (e1 : Int32), X7_steps_L2 s0 v3 k v4 v2 = some e1 → Kn G p e rm_X7_steps s m args below meth c Q 5 79 [(0, .ref (gad G 0)), (3, .int v3), (2, .int e1)] (wM G s0) → Kn G p e rm_X7_steps s m args below meth c Q 5 29 [(0, .ref (gad G 0)), (3, .int v3), (4, .int v4), (2, .int v2)] (wM G s0) := by
  have hx := C.1
  have hb := C.2.1
  intro k
  induction k with
  | zero =>
    intro v4 v2 e1 h
    exact nso h
  | succ k ih =>
    intro v4 v2 e1 h hk H locs ls B hl
    have h : X7_steps_L2_b s0 v3 (X7_steps_L2 s0 v3 k) v4 v2 = some e1 := h
    unfold X7_steps_L2_b at h
    refine lv_iload hx hb dX7_steps_29 (lv_at hl 2 rfl) ?_
    refine lv_iload_n hx hb dX7_steps_31 rfl (lv_at hl 1 rfl) ?_
    refine lv_icmp_ge (tgt := 79) hx hb dX7_steps_32 (by decide) (fun q9 => ?_) (fun q9 => ?_)
    · have h := ip h q9
      obtain rfl := ret1 h
      exact hk H locs ls B (lv_sub hl [0, 1, 3] rfl)
    · have h := ig h q9
      refine lv_iload_n hx hb dX7_steps_35 rfl (lv_at hl 3 rfl) ?_
      refine lv_aload_n hx hb dX7_steps_36 rfl (lv_at hl 0 rfl) ?_
      refine r_get C B fo_X7_42 (cM_0 G s0) rfl dX7_steps_37 ?_
      refine lv_iload_n hx hb dX7_steps_40 rfl (lv_at hl 1 rfl) ?_
      obtain ⟨q10, h⟩ := gd_o h
      refine r_zald C B (cM_10 G s0) (inb_vp q10) dX7_steps_41 ?_
      refine lv_if_eq (tgt := 70) hx hb dX7_steps_42 (by decide) (fun q11 => ?_) (fun q11 => ?_)
      · have h := ip h q11
        refine lv_iconst (v := (0 : Int32)) hx hb dX7_steps_70 rfl ?_
        refine lv_iadd hx hb dX7_steps_71 ?_
        obtain ⟨v2_12, q13, h⟩ := nm_o h
        refine r_nm q13 ?_
        refine lv_istore_n (lv' := [(2, .int v2_12), (0, .ref (gad G 0)), (3, .int v3), (4, .int v4)]) hx hb dX7_steps_72 rfl hl (by decide) rfl (fun ls hl => ?_)
        obtain ⟨v4_14, q15, h⟩ := nm_o h
        refine lv_iinc (v := v4_14) (lv' := [(4, .int v4_14), (2, .int v2_12), (0, .ref (gad G 0)), (3, .int v3)]) hx hb dX7_steps_73 hl (k := 3) rfl q15.symm (by decide) rfl (fun ls hl => ?_)
        refine lv_goto (tgt := 29) hx hb dX7_steps_76 (by decide) ?_
        exact ih v4_14 v2_12 e1 h hk H locs ls B (lv_sub hl [2, 3, 0, 1] rfl)
      · have h := ig h q11
        refine lv_aload_n hx hb dX7_steps_45 rfl (lv_at hl 0 rfl) ?_
        refine r_get C B fo_X7_42 (cM_0 G s0) rfl dX7_steps_46 ?_
        refine lv_iload hx hb dX7_steps_49 (lv_at hl 2 rfl) ?_
        obtain ⟨q16, h⟩ := gd_o h
        refine r_zald C B (cM_10 G s0) (inb_vp q16) dX7_steps_51 ?_
        refine lv_if_eq (tgt := 70) hx hb dX7_steps_52 (by decide) (fun q17 => ?_) (fun q17 => ?_)
        · have h := ip h q17
          refine lv_iconst (v := (0 : Int32)) hx hb dX7_steps_70 rfl ?_
          refine lv_iadd hx hb dX7_steps_71 ?_
          obtain ⟨v2_18, q19, h⟩ := nm_o h
          refine r_nm q19 ?_
          refine lv_istore_n (lv' := [(2, .int v2_18), (0, .ref (gad G 0)), (3, .int v3), (4, .int v4)]) hx hb dX7_steps_72 rfl hl (by decide) rfl (fun ls hl => ?_)
          obtain ⟨v4_20, q21, h⟩ := nm_o h
          refine lv_iinc (v := v4_20) (lv' := [(4, .int v4_20), (2, .int v2_18), (0, .ref (gad G 0)), (3, .int v3)]) hx hb dX7_steps_73 hl (k := 3) rfl q21.symm (by decide) rfl (fun ls hl => ?_)
          refine lv_goto (tgt := 29) hx hb dX7_steps_76 (by decide) ?_
          exact ih v4_20 v2_18 e1 h hk H locs ls B (lv_sub hl [2, 3, 0, 1] rfl)
        · have h := ig h q17
          refine lv_iload_n hx hb dX7_steps_55 rfl (lv_at hl 1 rfl) ?_
          refine lv_iload hx hb dX7_steps_56 (lv_at hl 2 rfl) ?_
          refine lv_ixor hx hb dX7_steps_58 ?_
          obtain ⟨r22, q23, h⟩ := bd_o h
          refine r_callSi (rest := [.int v2]) C B.2.2 hl (c_J6_bitCount G (v3 ^^^ v4) r22 q23) cs_X7_81 rfl rfl (Nat.le_of_ble_eq_true rfl) ⟨rfl, rfl, Nat.le_of_ble_eq_true rfl, Nat.le_of_ble_eq_true rfl⟩ dX7_steps_59 ?_
          refine lv_iconst (v := (2 : Int32)) hx hb dX7_steps_62 rfl ?_
          refine lv_icmp_ne (tgt := 70) hx hb dX7_steps_63 (by decide) (fun q24 => ?_) (fun q24 => ?_)
          · have h := ig h q24
            refine lv_iconst (v := (0 : Int32)) hx hb dX7_steps_70 rfl ?_
            refine lv_iadd hx hb dX7_steps_71 ?_
            obtain ⟨v2_25, q26, h⟩ := nm_o h
            refine r_nm q26 ?_
            refine lv_istore_n (lv' := [(2, .int v2_25), (0, .ref (gad G 0)), (3, .int v3), (4, .int v4)]) hx hb dX7_steps_72 rfl hl (by decide) rfl (fun ls hl => ?_)
            obtain ⟨v4_27, q28, h⟩ := nm_o h
            refine lv_iinc (v := v4_27) (lv' := [(4, .int v4_27), (2, .int v2_25), (0, .ref (gad G 0)), (3, .int v3)]) hx hb dX7_steps_73 hl (k := 3) rfl q28.symm (by decide) rfl (fun ls hl => ?_)
            refine lv_goto (tgt := 29) hx hb dX7_steps_76 (by decide) ?_
            exact ih v4_27 v2_25 e1 h hk H locs ls B (lv_sub hl [2, 3, 0, 1] rfl)
          · have h := ip h q24
            refine lv_iconst (v := (1 : Int32)) hx hb dX7_steps_66 rfl ?_
            refine lv_goto (tgt := 71) hx hb dX7_steps_67 (by decide) ?_
            refine lv_iadd hx hb dX7_steps_71 ?_
            obtain ⟨v2_29, q30, h⟩ := nm_o h
            refine r_nm q30 ?_
            refine lv_istore_n (lv' := [(2, .int v2_29), (0, .ref (gad G 0)), (3, .int v3), (4, .int v4)]) hx hb dX7_steps_72 rfl hl (by decide) rfl (fun ls hl => ?_)
            obtain ⟨v4_31, q32, h⟩ := nm_o h
            refine lv_iinc (v := v4_31) (lv' := [(4, .int v4_31), (2, .int v2_29), (0, .ref (gad G 0)), (3, .int v3)]) hx hb dX7_steps_73 hl (k := 3) rfl q32.symm (by decide) rfl (fun ls hl => ?_)
            refine lv_goto (tgt := 29) hx hb dX7_steps_76 (by decide) ?_
            exact ih v4_31 v2_29 e1 h hk H locs ls B (lv_sub hl [2, 3, 0, 1] rfl)
set_option maxRecDepth 100000 in
set_option maxHeartbeats 4000000 in
theorem l_X7_steps_L1 {G : GT} {p : Program} {e : Env} {s : State} {m : MethodId} {args : Array Value} {below : List Frame} {meth : Method} {c : Code} {Q : State → Prop} (C : CT G p s m meth c args cX7_steps 5 RX7) (hr : meth.sig.returnType = (some .int)) (n : Nat) (s0 : ST) : ∀ (k : Nat) (v3 : Int32) (v2 : Int32) (e1 : Int32), X7_steps_L1 n s0 k v3 v2 = some e1 → Kn G p e rm_X7_steps s m args below meth c Q 5 85 [(2, .int e1)] (wM G s0) → Kn G p e rm_X7_steps s m args below meth c Q 5 18 [(0, .ref (gad G 0)), (3, .int v3), (2, .int v2)] (wM G s0) := by
  have hx := C.1
  have hb := C.2.1
  intro k
  induction k with
  | zero =>
    intro v3 v2 e1 h
    exact nso h
  | succ k ih =>
    intro v3 v2 e1 h hk H locs ls B hl
    have h : X7_steps_L1_b n s0 (X7_steps_L1 n s0 k) v3 v2 = some e1 := h
    unfold X7_steps_L1_b at h
    refine lv_iload_n hx hb dX7_steps_18 rfl (lv_at hl 1 rfl) ?_
    refine lv_aload_n hx hb dX7_steps_19 rfl (lv_at hl 0 rfl) ?_
    obtain ⟨r7, q6, h⟩ := bd_o h
    refine r_callVi (rest := [.int v3]) C B hl (c_X7_all G s0 r7 q6) cs_X7_67 (cM_0 G s0) rfl rfl rfl (Nat.le_of_ble_eq_true rfl) ⟨rfl, rfl, Nat.le_of_ble_eq_true rfl, Nat.le_of_ble_eq_true rfl⟩ dX7_steps_20 (fun H locs B => ?_)
    refine lv_icmp_gt (tgt := 85) hx hb dX7_steps_23 (by decide) (fun q8 => ?_) (fun q8 => ?_)
    · have h := ip h q8
      obtain rfl := ret1 h
      exact hk H locs ls B (lv_sub hl [2] rfl)
    · have h := ig h q8
      refine lv_iconst (v := (0 : Int32)) hx hb dX7_steps_26 rfl ?_
      refine lv_istore (lv' := [(4, .int (0 : Int32)), (0, .ref (gad G 0)), (3, .int v3), (2, .int v2)]) hx hb dX7_steps_27 hl (by decide) rfl (fun ls hl => ?_)
      obtain ⟨e33, q34, h⟩ := bd_o h
      refine l_X7_steps_L2 C hr s0 v3 n (0 : Int32) v2 e33 q34 ?_ H locs ls B (lv_sub hl [1, 2, 0, 3] rfl)
      intro H locs ls B hl
      obtain ⟨v3_35, q36, h⟩ := nm_o h
      refine lv_iinc (v := v3_35) (lv' := [(3, .int v3_35), (0, .ref (gad G 0)), (2, .int e33)]) hx hb dX7_steps_79 hl (k := 1) rfl q36.symm (by decide) rfl (fun ls hl => ?_)
      refine lv_goto (tgt := 18) hx hb dX7_steps_82 (by decide) ?_
      exact ih v3_35 e33 e1 h hk H locs ls B (lv_sub hl [1, 0, 2] rfl)
set_option maxRecDepth 100000 in
set_option maxHeartbeats 4000000 in
theorem c_X7_steps (G : GT) (n : Nat) (s0 : ST) (v1 : Int32) (r : Int32) (s' : ST) (h : X7_steps n s0 v1 = some (r, s')) : Con G yX7_steps cX7_steps 5 (some .int) rm_X7_steps [.ref (gad G 0), .int v1] (wM G s0) (some (.int r)) (wM G s') := by
  unfold X7_steps at h
  refine con_of (by decide +kernel) (Nat.le_of_ble_eq_true rfl) (fun {p e s m below meth c} C hr {H locs ls} B hl => ?_)
  have hx := C.1
  have hb := C.2.1
  have hl : lv_has ls 5 [(0, .ref (gad G 0)), (1, .int v1)] := hl
  refine lv_iload_n hx hb dX7_steps_0 rfl (lv_at hl 1 rfl) ?_
  obtain ⟨r1, q2, h⟩ := bd_o h
  refine r_callSi (rest := []) C B.2.2 hl (c_X7_isSide G v1 r1 q2) cs_X7_131 rfl rfl (Nat.le_of_ble_eq_true rfl) ⟨rfl, rfl, Nat.le_of_ble_eq_true rfl, Nat.le_of_ble_eq_true rfl⟩ dX7_steps_1 ?_
  refine lv_if_ne (tgt := 9) hx hb dX7_steps_4 (by decide) (fun q3 => ?_) (fun q3 => ?_)
  · have h := ig h q3
    refine lv_aload_n hx hb dX7_steps_9 rfl (lv_at hl 0 rfl) ?_
    refine lv_iload_n hx hb dX7_steps_10 rfl (lv_at hl 1 rfl) ?_
    obtain ⟨s5, q4, h⟩ := bd_o h
    refine r_callVv (rest := []) C B hl (c_X7_lay G n s0 v1 s5 q4) cs_X7_134 (cM_0 G s0) rfl rfl rfl (Nat.le_of_ble_eq_true rfl) ⟨rfl, rfl, Nat.le_of_ble_eq_true rfl, Nat.le_of_ble_eq_true rfl⟩ dX7_steps_11 (fun H locs B => ?_)
    refine lv_iconst (v := (0 : Int32)) hx hb dX7_steps_14 rfl ?_
    refine lv_istore_n (lv' := [(2, .int (0 : Int32)), (0, .ref (gad G 0)), (1, .int v1)]) hx hb dX7_steps_15 rfl hl (by decide) rfl (fun ls hl => ?_)
    refine lv_iconst (v := (0 : Int32)) hx hb dX7_steps_16 rfl ?_
    refine lv_istore_n (lv' := [(3, .int (0 : Int32)), (2, .int (0 : Int32)), (0, .ref (gad G 0)), (1, .int v1)]) hx hb dX7_steps_17 rfl hl (by decide) rfl (fun ls hl => ?_)
    obtain ⟨e37, q38, h⟩ := bd_o h
    refine l_X7_steps_L1 C hr n s5 n (0 : Int32) (0 : Int32) e37 q38 ?_ H locs ls B (lv_sub hl [2, 0, 1] rfl)
    intro H locs ls B hl
    refine lv_iload_n hx hb dX7_steps_85 rfl (lv_at hl 0 rfl) ?_
    obtain ⟨rfl, rfl⟩ := ret2 h
    exact r_iret C B hr rfl dX7_steps_86
  · have h := ip h q3
    refine lv_iconst (v := (-1 : Int32)) hx hb dX7_steps_7 rfl ?_
    obtain ⟨rfl, rfl⟩ := ret2 h
    exact r_iret C B hr rfl dX7_steps_8
def rm_X7_less : Room := { frames := 5, cells := 0, slots := 0, locals := 112 }
set_option maxRecDepth 100000 in
set_option maxHeartbeats 4000000 in
theorem c_X7_less (G : GT) (n : Nat) (s0 : ST) (v1 : Int32) (v2 : Int32) (v3 : Int32) (v4 : Int32) (r : Int32) (s' : ST) (h : X7_less n s0 v1 v2 v3 v4 = some (r, s')) : Con G yX7_less cX7_less 5 (some .int) rm_X7_less [.ref (gad G 0), .int v1, .int v2, .int v3, .int v4] (wM G s0) (some (.int r)) (wM G s') := by
  unfold X7_less at h
  refine con_of (by decide +kernel) (Nat.le_of_ble_eq_true rfl) (fun {p e s m below meth c} C hr {H locs ls} B hl => ?_)
  have hx := C.1
  have hb := C.2.1
  have hl : lv_has ls 5 [(0, .ref (gad G 0)), (1, .int v1), (2, .int v2), (3, .int v3), (4, .int v4)] := hl
  refine lv_iload_n hx hb dX7_less_0 rfl (lv_at hl 1 rfl) ?_
  obtain ⟨r1, q2, h⟩ := bd_o h
  refine r_callSi (rest := []) C B.2.2 hl (c_X7_isSide G v1 r1 q2) cs_X7_131 rfl rfl (Nat.le_of_ble_eq_true rfl) ⟨rfl, rfl, Nat.le_of_ble_eq_true rfl, Nat.le_of_ble_eq_true rfl⟩ dX7_less_1 ?_
  refine lv_if_ne (tgt := 9) hx hb dX7_less_4 (by decide) (fun q3 => ?_) (fun q3 => ?_)
  · have h := ig h q3
    refine lv_aload_n hx hb dX7_less_9 rfl (lv_at hl 0 rfl) ?_
    refine lv_iload_n hx hb dX7_less_10 rfl (lv_at hl 2 rfl) ?_
    obtain ⟨r5, q4, h⟩ := bd_o h
    refine r_callVi (rest := []) C B hl (c_X7_isSet G s0 v2 r5 q4) cs_X7_122 (cM_0 G s0) rfl rfl rfl (Nat.le_of_ble_eq_true rfl) ⟨rfl, rfl, Nat.le_of_ble_eq_true rfl, Nat.le_of_ble_eq_true rfl⟩ dX7_less_11 (fun H locs B => ?_)
    refine lv_if_eq (tgt := 49) hx hb dX7_less_14 (by decide) (fun q6 => ?_) (fun q6 => ?_)
    · have h := ip h q6
      refine lv_bipush (v := (-2 : Int32)) hx hb dX7_less_49 rfl ?_
      obtain ⟨rfl, rfl⟩ := ret2 h
      exact r_iret C B hr rfl dX7_less_51
    · have h := ig h q6
      refine lv_aload_n hx hb dX7_less_17 rfl (lv_at hl 0 rfl) ?_
      refine lv_iload_n hx hb dX7_less_18 rfl (lv_at hl 3 rfl) ?_
      obtain ⟨r8, q7, h⟩ := bd_o h
      refine r_callVi (rest := []) C B hl (c_X7_isSet G s0 v3 r8 q7) cs_X7_122 (cM_0 G s0) rfl rfl rfl (Nat.le_of_ble_eq_true rfl) ⟨rfl, rfl, Nat.le_of_ble_eq_true rfl, Nat.le_of_ble_eq_true rfl⟩ dX7_less_19 (fun H locs B => ?_)
      refine lv_if_eq (tgt := 49) hx hb dX7_less_22 (by decide) (fun q9 => ?_) (fun q9 => ?_)
      · have h := ip h q9
        refine lv_bipush (v := (-2 : Int32)) hx hb dX7_less_49 rfl ?_
        obtain ⟨rfl, rfl⟩ := ret2 h
        exact r_iret C B hr rfl dX7_less_51
      · have h := ig h q9
        refine lv_aload_n hx hb dX7_less_25 rfl (lv_at hl 0 rfl) ?_
        refine lv_iload hx hb dX7_less_26 (lv_at hl 4 rfl) ?_
        obtain ⟨r11, q10, h⟩ := bd_o h
        refine r_callVi (rest := []) C B hl (c_X7_isSet G s0 v4 r11 q10) cs_X7_122 (cM_0 G s0) rfl rfl rfl (Nat.le_of_ble_eq_true rfl) ⟨rfl, rfl, Nat.le_of_ble_eq_true rfl, Nat.le_of_ble_eq_true rfl⟩ dX7_less_28 (fun H locs B => ?_)
        refine lv_if_eq (tgt := 49) hx hb dX7_less_31 (by decide) (fun q12 => ?_) (fun q12 => ?_)
        · have h := ip h q12
          refine lv_bipush (v := (-2 : Int32)) hx hb dX7_less_49 rfl ?_
          obtain ⟨rfl, rfl⟩ := ret2 h
          exact r_iret C B hr rfl dX7_less_51
        · have h := ig h q12
          refine lv_iload_n hx hb dX7_less_34 rfl (lv_at hl 2 rfl) ?_
          refine lv_iload_n hx hb dX7_less_35 rfl (lv_at hl 3 rfl) ?_
          refine lv_iand hx hb dX7_less_36 ?_
          refine lv_if_ne (tgt := 49) hx hb dX7_less_37 (by decide) (fun q13 => ?_) (fun q13 => ?_)
          · have h := ig h q13
            refine lv_bipush (v := (-2 : Int32)) hx hb dX7_less_49 rfl ?_
            obtain ⟨rfl, rfl⟩ := ret2 h
            exact r_iret C B hr rfl dX7_less_51
          · have h := ip h q13
            refine lv_iload hx hb dX7_less_40 (lv_at hl 4 rfl) ?_
            refine lv_iload_n hx hb dX7_less_42 rfl (lv_at hl 2 rfl) ?_
            refine lv_iload_n hx hb dX7_less_43 rfl (lv_at hl 3 rfl) ?_
            refine lv_ior hx hb dX7_less_44 ?_
            refine lv_iand hx hb dX7_less_45 ?_
            refine lv_if_eq (tgt := 52) hx hb dX7_less_46 (by decide) (fun q14 => ?_) (fun q14 => ?_)
            · have h := ip h q14
              refine lv_aload_n hx hb dX7_less_52 rfl (lv_at hl 0 rfl) ?_
              refine lv_iload_n hx hb dX7_less_53 rfl (lv_at hl 1 rfl) ?_
              obtain ⟨s16, q15, h⟩ := bd_o h
              refine r_callVv (rest := []) C B hl (c_X7_lay G n s0 v1 s16 q15) cs_X7_134 (cM_0 G s0) rfl rfl rfl (Nat.le_of_ble_eq_true rfl) ⟨rfl, rfl, Nat.le_of_ble_eq_true rfl, Nat.le_of_ble_eq_true rfl⟩ dX7_less_54 (fun H locs B => ?_)
              refine lv_aload_n hx hb dX7_less_57 rfl (lv_at hl 0 rfl) ?_
              refine r_get C B fo_X7_45 (cM_0 G s16) rfl dX7_less_58 ?_
              refine lv_iload hx hb dX7_less_61 (lv_at hl 4 rfl) ?_
              refine lv_iload_n hx hb dX7_less_63 rfl (lv_at hl 3 rfl) ?_
              refine lv_ior hx hb dX7_less_64 ?_
              obtain ⟨q17, h⟩ := gd_o h
              refine r_iald C B (cM_11 G s16) (inb_vp q17) dX7_less_65 ?_
              refine lv_aload_n hx hb dX7_less_66 rfl (lv_at hl 0 rfl) ?_
              refine r_get C B fo_X7_45 (cM_0 G s16) rfl dX7_less_67 ?_
              refine lv_iload_n hx hb dX7_less_70 rfl (lv_at hl 3 rfl) ?_
              obtain ⟨q18, h⟩ := gd_o h
              refine r_iald C B (cM_11 G s16) (inb_vp q18) dX7_less_71 ?_
              refine lv_isub hx hb dX7_less_72 ?_
              obtain ⟨rfl, rfl⟩ := ret2 h
              exact r_iret C B hr rfl dX7_less_73
            · have h := ig h q14
              refine lv_bipush (v := (-2 : Int32)) hx hb dX7_less_49 rfl ?_
              obtain ⟨rfl, rfl⟩ := ret2 h
              exact r_iret C B hr rfl dX7_less_51
  · have h := ip h q3
    refine lv_iconst (v := (-1 : Int32)) hx hb dX7_less_7 rfl ?_
    obtain ⟨rfl, rfl⟩ := ret2 h
    exact r_iret C B hr rfl dX7_less_8
def rm_X7_weightOf : Room := { frames := 1, cells := 0, slots := 0, locals := 21 }
set_option maxRecDepth 100000 in
set_option maxHeartbeats 4000000 in
theorem l_X7_weightOf_L1 {G : GT} {p : Program} {e : Env} {s : State} {m : MethodId} {args : Array Value} {below : List Frame} {meth : Method} {c : Code} {Q : State → Prop} (C : CT G p s m meth c args cX7_weightOf 4 RX7) (hr : meth.sig.returnType = (some .int)) (s0 : ST) (v1 : Int32) : ∀ (k : Nat) (v3 : Int32) (v2 : Int32) (e1 : Int32), X7_weightOf_L1 s0 v1 k v3 v2 = some e1 → Kn G p e rm_X7_weightOf s m args below meth c Q 4 39 [(2, .int e1)] (wM G s0) → Kn G p e rm_X7_weightOf s m args below meth c Q 4 4 [(0, .ref (gad G 0)), (1, .int v1), (3, .int v3), (2, .int v2)] (wM G s0) := by
  have hx := C.1
  have hb := C.2.1
  intro k
  induction k with
  | zero =>
    intro v3 v2 e1 h
    exact nso h
  | succ k ih =>
    intro v3 v2 e1 h hk H locs ls B hl
    have h : X7_weightOf_L1_b s0 v1 (X7_weightOf_L1 s0 v1 k) v3 v2 = some e1 := h
    unfold X7_weightOf_L1_b at h
    refine lv_iload_n hx hb dX7_weightOf_4 rfl (lv_at hl 2 rfl) ?_
    refine lv_aload_n hx hb dX7_weightOf_5 rfl (lv_at hl 0 rfl) ?_
    refine r_get C B fo_X7_7 (cM_0 G s0) rfl dX7_weightOf_6 ?_
    refine lv_icmp_ge (tgt := 39) hx hb dX7_weightOf_9 (by decide) (fun q1 => ?_) (fun q1 => ?_)
    · have h := ip h q1
      obtain rfl := ret1 h
      exact hk H locs ls B (lv_sub hl [3] rfl)
    · have h := ig h q1
      refine lv_iload_n hx hb dX7_weightOf_12 rfl (lv_at hl 3 rfl) ?_
      refine lv_iload_n hx hb dX7_weightOf_13 rfl (lv_at hl 1 rfl) ?_
      refine lv_iload_n hx hb dX7_weightOf_14 rfl (lv_at hl 2 rfl) ?_
      obtain ⟨r2, q3, h⟩ := bd_o h
      refine r_callSi (rest := [.int v2]) C B.2.2 hl (c_X7_has G v1 v3 r2 q3) cs_X7_77 rfl rfl (Nat.le_of_ble_eq_true rfl) ⟨rfl, rfl, Nat.le_of_ble_eq_true rfl, Nat.le_of_ble_eq_true rfl⟩ dX7_weightOf_15 ?_
      refine lv_if_eq (tgt := 30) hx hb dX7_weightOf_18 (by decide) (fun q4 => ?_) (fun q4 => ?_)
      · have h := ip h q4
        refine lv_iconst (v := (0 : Int32)) hx hb dX7_weightOf_30 rfl ?_
        refine lv_iadd hx hb dX7_weightOf_31 ?_
        obtain ⟨v2_5, q6, h⟩ := nm_o h
        refine r_nm q6 ?_
        refine lv_istore_n (lv' := [(2, .int v2_5), (0, .ref (gad G 0)), (1, .int v1), (3, .int v3)]) hx hb dX7_weightOf_32 rfl hl (by decide) rfl (fun ls hl => ?_)
        obtain ⟨v3_7, q8, h⟩ := nm_o h
        refine lv_iinc (v := v3_7) (lv' := [(3, .int v3_7), (2, .int v2_5), (0, .ref (gad G 0)), (1, .int v1)]) hx hb dX7_weightOf_33 hl (k := 3) rfl q8.symm (by decide) rfl (fun ls hl => ?_)
        refine lv_goto (tgt := 4) hx hb dX7_weightOf_36 (by decide) ?_
        exact ih v3_7 v2_5 e1 h hk H locs ls B (lv_sub hl [2, 3, 0, 1] rfl)
      · have h := ig h q4
        refine lv_aload_n hx hb dX7_weightOf_21 rfl (lv_at hl 0 rfl) ?_
        refine r_get C B fo_X7_17 (cM_0 G s0) rfl dX7_weightOf_22 ?_
        refine lv_iload_n hx hb dX7_weightOf_25 rfl (lv_at hl 2 rfl) ?_
        obtain ⟨q9, h⟩ := gd_o h
        refine r_iald C B (cM_2 G s0) (inb_vp q9) dX7_weightOf_26 ?_
        refine lv_goto (tgt := 31) hx hb dX7_weightOf_27 (by decide) ?_
        refine lv_iadd hx hb dX7_weightOf_31 ?_
        obtain ⟨v2_10, q11, h⟩ := nm_o h
        refine r_nm q11 ?_
        refine lv_istore_n (lv' := [(2, .int v2_10), (0, .ref (gad G 0)), (1, .int v1), (3, .int v3)]) hx hb dX7_weightOf_32 rfl hl (by decide) rfl (fun ls hl => ?_)
        obtain ⟨v3_12, q13, h⟩ := nm_o h
        refine lv_iinc (v := v3_12) (lv' := [(3, .int v3_12), (2, .int v2_10), (0, .ref (gad G 0)), (1, .int v1)]) hx hb dX7_weightOf_33 hl (k := 3) rfl q13.symm (by decide) rfl (fun ls hl => ?_)
        refine lv_goto (tgt := 4) hx hb dX7_weightOf_36 (by decide) ?_
        exact ih v3_12 v2_10 e1 h hk H locs ls B (lv_sub hl [2, 3, 0, 1] rfl)
