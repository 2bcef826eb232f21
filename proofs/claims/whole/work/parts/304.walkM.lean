/-! WALKS (M 4): each method comes back with what its plain function says -/
set_option maxRecDepth 100000 in
set_option maxHeartbeats 4000000 in
theorem c_X7_idle (G : GT) (n : Nat) (s0 : ST)  (r : Int32) (s' : ST) (h : X7_idle n s0  = some (r, s')) : Con G yX7_idle cX7_idle 4 (some .int) rm_X7_idle [.ref (gad G 0)] (wM G s0) (some (.int r)) (wM G s') := by
  unfold X7_idle at h
  refine con_of (by decide +kernel) (Nat.le_of_ble_eq_true rfl) (fun {p e s m below meth c} C hr {H locs ls} B hl => ?_)
  have hx := C.1
  have hb := C.2.1
  have hl : lv_has ls 4 [(0, .ref (gad G 0))] := hl
  refine lv_aload_n hx hb dX7_idle_0 rfl (lv_at hl 0 rfl) ?_
  obtain ⟨s2, q1, h⟩ := bd_o h
  refine r_callVv (rest := []) C B hl (c_X7_keepsBases G n s0 s2 q1) cs_X7_156 (cM_0 G s0) rfl rfl rfl (Nat.le_of_ble_eq_true rfl) ⟨rfl, rfl, Nat.le_of_ble_eq_true rfl, Nat.le_of_ble_eq_true rfl⟩ dX7_idle_1 (fun H locs B => ?_)
  refine lv_iconst (v := (0 : Int32)) hx hb dX7_idle_4 rfl ?_
  refine lv_istore_n (lv' := [(1, .int (0 : Int32)), (0, .ref (gad G 0))]) hx hb dX7_idle_5 rfl hl (by decide) rfl (fun ls hl => ?_)
  refine lv_iconst (v := (0 : Int32)) hx hb dX7_idle_6 rfl ?_
  refine lv_istore_n (lv' := [(2, .int (0 : Int32)), (1, .int (0 : Int32)), (0, .ref (gad G 0))]) hx hb dX7_idle_7 rfl hl (by decide) rfl (fun ls hl => ?_)
  obtain ⟨e28, q29, h⟩ := bd_o h
  refine l_X7_idle_L1 C hr n n (0 : Int32) (0 : Int32) s2 e28 q29 ?_ H locs ls B (lv_sub hl [2, 0, 1] rfl)
  intro H locs ls B hl
  refine lv_iload_n hx hb dX7_idle_60 rfl (lv_at hl 0 rfl) ?_
  obtain ⟨rfl, rfl⟩ := ret2 h
  exact r_iret C B hr rfl dX7_idle_61
def rm_X7_small : Room := { frames := 6, cells := 0, slots := 0, locals := 133 }
set_option maxRecDepth 100000 in
set_option maxHeartbeats 4000000 in
theorem l_X7_small_L2 {G : GT} {p : Program} {e : Env} {s : State} {m : MethodId} {args : Array Value} {below : List Frame} {meth : Method} {c : Code} {Q : State → Prop} (C : CT G p s m meth c args cX7_small 4 RX7) (hr : meth.sig.returnType = (some .int)) (n : Nat) (v2 : Int32) : ∀ (k : Nat) (v3 : Int32) (v1 : Int32) (s0 : ST) (e1 : Int32 × ST), X7_small_L2 n v2 k v3 v1 s0 = some e1 → Kn G p e rm_X7_small s m args below meth c Q 4 87 [(0, .ref (gad G 0)), (2, .int v2), (1, .int e1.1)] (wM G e1.2) → Kn G p e rm_X7_small s m args below meth c Q 4 18 [(0, .ref (gad G 0)), (2, .int v2), (3, .int v3), (1, .int v1)] (wM G s0) := by
  have hx := C.1
  have hb := C.2.1
  intro k
  induction k with
  | zero =>
    intro v3 v1 s0 e1 h
    exact nso h
  | succ k ih =>
    intro v3 v1 s0 e1 h hk H locs ls B hl
    have h : X7_small_L2_b n v2 (X7_small_L2 n v2 k) v3 v1 s0 = some e1 := h
    unfold X7_small_L2_b at h
    refine lv_iload_n hx hb dX7_small_18 rfl (lv_at hl 2 rfl) ?_
    refine lv_aload_n hx hb dX7_small_19 rfl (lv_at hl 0 rfl) ?_
    refine r_get C B fo_X7_7 (cM_0 G s0) rfl dX7_small_20 ?_
    refine lv_icmp_ge (tgt := 87) hx hb dX7_small_23 (by decide) (fun q4 => ?_) (fun q4 => ?_)
    · have h := ip h q4
      obtain rfl := ret1 h
      exact hk H locs ls B (lv_sub hl [0, 1, 3] rfl)
    · have h := ig h q4
      refine lv_aload_n hx hb dX7_small_26 rfl (lv_at hl 0 rfl) ?_
      refine r_get C B fo_X7_20 (cM_0 G s0) rfl dX7_small_27 ?_
      refine lv_iload_n hx hb dX7_small_30 rfl (lv_at hl 1 rfl) ?_
      obtain ⟨q5, h⟩ := gd_o h
      refine r_iald C B (cM_3 G s0) (inb_vp q5) dX7_small_31 ?_
      refine lv_iload_n hx hb dX7_small_32 rfl (lv_at hl 2 rfl) ?_
      obtain ⟨r6, q7, h⟩ := bd_o h
      refine r_callSi (rest := []) C B.2.2 hl (c_X7_has G (s0.2.1 2 (v2).toNatClampNeg) v3 r6 q7) cs_X7_77 rfl rfl (Nat.le_of_ble_eq_true rfl) ⟨rfl, rfl, Nat.le_of_ble_eq_true rfl, Nat.le_of_ble_eq_true rfl⟩ dX7_small_33 ?_
      refine lv_if_ne (tgt := 42) hx hb dX7_small_36 (by decide) (fun q8 => ?_) (fun q8 => ?_)
      · have h := ig h q8
        refine lv_aload_n hx hb dX7_small_42 rfl (lv_at hl 0 rfl) ?_
        refine r_get C B fo_X7_20 (cM_0 G s0) rfl dX7_small_43 ?_
        refine lv_iload_n hx hb dX7_small_46 rfl (lv_at hl 1 rfl) ?_
        refine lv_dup2_11 hx hb dX7_small_47 rfl rfl ?_
        obtain ⟨q9, h⟩ := gd_o h
        refine r_iald C B (cM_3 G s0) (inb_vp q9) dX7_small_48 ?_
        refine lv_iconst (v := (1 : Int32)) hx hb dX7_small_49 rfl ?_
        refine lv_iload_n hx hb dX7_small_50 rfl (lv_at hl 2 rfl) ?_
        refine lv_ishl hx hb dX7_small_51 ?_
        refine lv_iconst (v := (-1 : Int32)) hx hb dX7_small_52 rfl ?_
        refine lv_ixor hx hb dX7_small_53 ?_
        refine lv_iand hx hb dX7_small_54 ?_
        obtain ⟨q10, h⟩ := gd_o h
        obtain ⟨s11, q12, h⟩ := nm_o h
        refine r_iast C B (cM_3 G s0) (inb_vp q10) ((uMa_2 G s0 _).trans (congrArg (wM G) q12.symm)) dX7_small_55 (fun H locs B => ?_)
        refine lv_aload_n hx hb dX7_small_56 rfl (lv_at hl 0 rfl) ?_
        obtain ⟨r15, s14, q13, h⟩ := bd2_o h
        refine r_callVi (rest := []) C B hl (c_X7_areBases G n s11 r15 s14 q13) cs_X7_159 (cM_0 G s11) rfl rfl rfl (Nat.le_of_ble_eq_true rfl) ⟨rfl, rfl, Nat.le_of_ble_eq_true rfl, Nat.le_of_ble_eq_true rfl⟩ dX7_small_57 (fun H locs B => ?_)
        refine lv_if_eq (tgt := 69) hx hb dX7_small_60 (by decide) (fun q16 => ?_) (fun q16 => ?_)
        · have h := ip h q16
          refine lv_aload_n hx hb dX7_small_69 rfl (lv_at hl 0 rfl) ?_
          refine r_get C B fo_X7_20 (cM_0 G s14) rfl dX7_small_70 ?_
          refine lv_iload_n hx hb dX7_small_73 rfl (lv_at hl 1 rfl) ?_
          refine lv_dup2_11 hx hb dX7_small_74 rfl rfl ?_
          obtain ⟨q17, h⟩ := gd_o h
          refine r_iald C B (cM_3 G s14) (inb_vp q17) dX7_small_75 ?_
          refine lv_iconst (v := (1 : Int32)) hx hb dX7_small_76 rfl ?_
          refine lv_iload_n hx hb dX7_small_77 rfl (lv_at hl 2 rfl) ?_
          refine lv_ishl hx hb dX7_small_78 ?_
          refine lv_ior hx hb dX7_small_79 ?_
          obtain ⟨q18, h⟩ := gd_o h
          obtain ⟨s19, q20, h⟩ := nm_o h
          refine r_iast C B (cM_3 G s14) (inb_vp q18) ((uMa_2 G s14 _).trans (congrArg (wM G) q20.symm)) dX7_small_80 (fun H locs B => ?_)
          obtain ⟨v3_21, q22, h⟩ := nm_o h
          refine lv_iinc (v := v3_21) (lv' := [(3, .int v3_21), (0, .ref (gad G 0)), (2, .int v2), (1, .int v1)]) hx hb dX7_small_81 hl (k := 2) rfl q22.symm (by decide) rfl (fun ls hl => ?_)
          refine lv_goto (tgt := 18) hx hb dX7_small_84 (by decide) ?_
          exact ih v3_21 v1 s19 e1 h hk H locs ls B (lv_sub hl [1, 2, 0, 3] rfl)
        · have h := ig h q16
          obtain ⟨v1_23, q24, h⟩ := nm_o h
          refine lv_iinc (v := v1_23) (lv' := [(1, .int v1_23), (0, .ref (gad G 0)), (2, .int v2), (3, .int v3)]) hx hb dX7_small_63 hl (k := 3) rfl q24.symm (by decide) rfl (fun ls hl => ?_)
          refine lv_goto (tgt := 81) hx hb dX7_small_66 (by decide) ?_
          obtain ⟨v3_25, q26, h⟩ := nm_o h
          refine lv_iinc (v := v3_25) (lv' := [(3, .int v3_25), (1, .int v1_23), (0, .ref (gad G 0)), (2, .int v2)]) hx hb dX7_small_81 hl (k := 3) rfl q26.symm (by decide) rfl (fun ls hl => ?_)
          refine lv_goto (tgt := 18) hx hb dX7_small_84 (by decide) ?_
          exact ih v3_25 v1_23 s14 e1 h hk H locs ls B (lv_sub hl [2, 3, 0, 1] rfl)
      · have h := ip h q8
        refine lv_goto (tgt := 81) hx hb dX7_small_39 (by decide) ?_
        obtain ⟨v3_27, q28, h⟩ := nm_o h
        refine lv_iinc (v := v3_27) (lv' := [(3, .int v3_27), (0, .ref (gad G 0)), (2, .int v2), (1, .int v1)]) hx hb dX7_small_81 hl (k := 2) rfl q28.symm (by decide) rfl (fun ls hl => ?_)
        refine lv_goto (tgt := 18) hx hb dX7_small_84 (by decide) ?_
        exact ih v3_27 v1 s0 e1 h hk H locs ls B (lv_sub hl [1, 2, 0, 3] rfl)
set_option maxRecDepth 100000 in
set_option maxHeartbeats 4000000 in
theorem l_X7_small_L1 {G : GT} {p : Program} {e : Env} {s : State} {m : MethodId} {args : Array Value} {below : List Frame} {meth : Method} {c : Code} {Q : State → Prop} (C : CT G p s m meth c args cX7_small 4 RX7) (hr : meth.sig.returnType = (some .int)) (n : Nat) : ∀ (k : Nat) (v2 : Int32) (v1 : Int32) (s0 : ST) (e1 : Int32 × ST), X7_small_L1 n k v2 v1 s0 = some e1 → Kn G p e rm_X7_small s m args below meth c Q 4 93 [(0, .ref (gad G 0)), (1, .int e1.1)] (wM G e1.2) → Kn G p e rm_X7_small s m args below meth c Q 4 8 [(0, .ref (gad G 0)), (2, .int v2), (1, .int v1)] (wM G s0) := by
  have hx := C.1
  have hb := C.2.1
  intro k
  induction k with
  | zero =>
    intro v2 v1 s0 e1 h
    exact nso h
  | succ k ih =>
    intro v2 v1 s0 e1 h hk H locs ls B hl
    have h : X7_small_L1_b n (X7_small_L1 n k) v2 v1 s0 = some e1 := h
    unfold X7_small_L1_b at h
    refine lv_iload_n hx hb dX7_small_8 rfl (lv_at hl 1 rfl) ?_
    refine lv_aload_n hx hb dX7_small_9 rfl (lv_at hl 0 rfl) ?_
    refine r_get C B fo_X7_71 (cM_0 G s0) rfl dX7_small_10 ?_
    refine lv_icmp_ge (tgt := 93) hx hb dX7_small_13 (by decide) (fun q3 => ?_) (fun q3 => ?_)
    · have h := ip h q3
      obtain rfl := ret1 h
      exact hk H locs ls B (lv_sub hl [0, 2] rfl)
    · have h := ig h q3
      refine lv_iconst (v := (0 : Int32)) hx hb dX7_small_16 rfl ?_
      refine lv_istore_n (lv' := [(3, .int (0 : Int32)), (0, .ref (gad G 0)), (2, .int v2), (1, .int v1)]) hx hb dX7_small_17 rfl hl (by decide) rfl (fun ls hl => ?_)
      obtain ⟨e29, q30, h⟩ := bd_o h
      refine l_X7_small_L2 C hr n v2 n (0 : Int32) v1 s0 e29 q30 ?_ H locs ls B (lv_sub hl [1, 2, 0, 3] rfl)
      intro H locs ls B hl
      obtain ⟨v2_31, q32, h⟩ := nm_o h
      refine lv_iinc (v := v2_31) (lv' := [(2, .int v2_31), (0, .ref (gad G 0)), (1, .int e29.1)]) hx hb dX7_small_87 hl (k := 1) rfl q32.symm (by decide) rfl (fun ls hl => ?_)
      refine lv_goto (tgt := 8) hx hb dX7_small_90 (by decide) ?_
      exact ih v2_31 e29.1 e29.2 e1 h hk H locs ls B (lv_sub hl [1, 0, 2] rfl)
set_option maxRecDepth 100000 in
set_option maxHeartbeats 4000000 in
theorem l_X7_small_L3 {G : GT} {p : Program} {e : Env} {s : State} {m : MethodId} {args : Array Value} {below : List Frame} {meth : Method} {c : Code} {Q : State → Prop} (C : CT G p s m meth c args cX7_small 4 RX7) (hr : meth.sig.returnType = (some .int)) (n : Nat) (v1 : Int32) : ∀ (k : Nat) (v2 : Int32) (s0 : ST) (e1 : ST), X7_small_L3 n k v2 s0 = some e1 → Kn G p e rm_X7_small s m args below meth c Q 4 126 [(1, .int v1)] (wM G e1) → Kn G p e rm_X7_small s m args below meth c Q 4 95 [(0, .ref (gad G 0)), (1, .int v1), (2, .int v2)] (wM G s0) := by
  have hx := C.1
  have hb := C.2.1
  intro k
  induction k with
  | zero =>
    intro v2 s0 e1 h
    exact nso h
  | succ k ih =>
    intro v2 s0 e1 h hk H locs ls B hl
    have h : X7_small_L3_b n (X7_small_L3 n k) v2 s0 = some e1 := h
    unfold X7_small_L3_b at h
    refine lv_iload_n hx hb dX7_small_95 rfl (lv_at hl 2 rfl) ?_
    refine lv_aload_n hx hb dX7_small_96 rfl (lv_at hl 0 rfl) ?_
    refine r_get C B fo_X7_71 (cM_0 G s0) rfl dX7_small_97 ?_
    refine lv_icmp_ge (tgt := 126) hx hb dX7_small_100 (by decide) (fun q35 => ?_) (fun q35 => ?_)
    · have h := ip h q35
      obtain rfl := ret1 h
      exact hk H locs ls B (lv_sub hl [1] rfl)
    · have h := ig h q35
      refine lv_aload_n hx hb dX7_small_103 rfl (lv_at hl 0 rfl) ?_
      refine r_get C B fo_X7_20 (cM_0 G s0) rfl dX7_small_104 ?_
      refine lv_iload_n hx hb dX7_small_107 rfl (lv_at hl 2 rfl) ?_
      obtain ⟨q36, h⟩ := gd_o h
      refine r_iald C B (cM_3 G s0) (inb_vp q36) dX7_small_108 ?_
      refine lv_if_ne (tgt := 120) hx hb dX7_small_109 (by decide) (fun q37 => ?_) (fun q37 => ?_)
      · have h := ig h q37
        obtain ⟨v2_38, q39, h⟩ := nm_o h
        refine lv_iinc (v := v2_38) (lv' := [(2, .int v2_38), (0, .ref (gad G 0)), (1, .int v1)]) hx hb dX7_small_120 hl (k := 2) rfl q39.symm (by decide) rfl (fun ls hl => ?_)
        refine lv_goto (tgt := 95) hx hb dX7_small_123 (by decide) ?_
        exact ih v2_38 s0 e1 h hk H locs ls B (lv_sub hl [1, 2, 0] rfl)
      · have h := ip h q37
        refine lv_aload_n hx hb dX7_small_112 rfl (lv_at hl 0 rfl) ?_
        refine lv_iload_n hx hb dX7_small_113 rfl (lv_at hl 2 rfl) ?_
        obtain ⟨s41, q40, h⟩ := bd_o h
        refine r_callVv (rest := []) C B hl (c_X7_goes G n s0 v2 s41 q40) cs_X7_128 (cM_0 G s0) rfl rfl rfl (Nat.le_of_ble_eq_true rfl) ⟨rfl, rfl, Nat.le_of_ble_eq_true rfl, Nat.le_of_ble_eq_true rfl⟩ dX7_small_114 (fun H locs B => ?_)
        refine lv_goto (tgt := 95) hx hb dX7_small_117 (by decide) ?_
        exact ih v2 s41 e1 h hk H locs ls B (lv_sub hl [0, 1, 2] rfl)
set_option maxRecDepth 100000 in
set_option maxHeartbeats 4000000 in
theorem c_X7_small (G : GT) (n : Nat) (s0 : ST)  (r : Int32) (s' : ST) (h : X7_small n s0  = some (r, s')) : Con G yX7_small cX7_small 4 (some .int) rm_X7_small [.ref (gad G 0)] (wM G s0) (some (.int r)) (wM G s') := by
  unfold X7_small at h
  refine con_of (by decide +kernel) (Nat.le_of_ble_eq_true rfl) (fun {p e s m below meth c} C hr {H locs ls} B hl => ?_)
  have hx := C.1
  have hb := C.2.1
  have hl : lv_has ls 4 [(0, .ref (gad G 0))] := hl
  refine lv_aload_n hx hb dX7_small_0 rfl (lv_at hl 0 rfl) ?_
  obtain ⟨s2, q1, h⟩ := bd_o h
  refine r_callVv (rest := []) C B hl (c_X7_keepsBases G n s0 s2 q1) cs_X7_156 (cM_0 G s0) rfl rfl rfl (Nat.le_of_ble_eq_true rfl) ⟨rfl, rfl, Nat.le_of_ble_eq_true rfl, Nat.le_of_ble_eq_true rfl⟩ dX7_small_1 (fun H locs B => ?_)
  refine lv_iconst (v := (0 : Int32)) hx hb dX7_small_4 rfl ?_
  refine lv_istore_n (lv' := [(1, .int (0 : Int32)), (0, .ref (gad G 0))]) hx hb dX7_small_5 rfl hl (by decide) rfl (fun ls hl => ?_)
  refine lv_iconst (v := (0 : Int32)) hx hb dX7_small_6 rfl ?_
  refine lv_istore_n (lv' := [(2, .int (0 : Int32)), (1, .int (0 : Int32)), (0, .ref (gad G 0))]) hx hb dX7_small_7 rfl hl (by decide) rfl (fun ls hl => ?_)
  obtain ⟨e33, q34, h⟩ := bd_o h
  refine l_X7_small_L1 C hr n n (0 : Int32) (0 : Int32) s2 e33 q34 ?_ H locs ls B (lv_sub hl [2, 0, 1] rfl)
  intro H locs ls B hl
  refine lv_iconst (v := (0 : Int32)) hx hb dX7_small_93 rfl ?_
  refine lv_istore_n (lv' := [(2, .int (0 : Int32)), (0, .ref (gad G 0)), (1, .int e33.1)]) hx hb dX7_small_94 rfl hl (by decide) rfl (fun ls hl => ?_)
  obtain ⟨e42, q43, h⟩ := bd_o h
  refine l_X7_small_L3 C hr n e33.1 n (0 : Int32) e33.2 e42 q43 ?_ H locs ls B (lv_sub hl [1, 2, 0] rfl)
  intro H locs ls B hl
  refine lv_iload_n hx hb dX7_small_126 rfl (lv_at hl 0 rfl) ?_
  obtain ⟨rfl, rfl⟩ := ret2 h
  exact r_iret C B hr rfl dX7_small_127
def rm_X7_isRow : Room := { frames := 1, cells := 0, slots := 0, locals := 22 }
set_option maxRecDepth 100000 in
set_option maxHeartbeats 4000000 in
theorem c_X7_isRow (G : GT) (v0 : Int32) (r : Int32) (h : X7_isRow v0 = some r) : ConP G yX7_isRow cX7_isRow 1 (some .boolean) rm_X7_isRow [.int v0] (some (.int r)) := by
  unfold X7_isRow at h
  refine conP_of (by decide +kernel) (Nat.le_of_ble_eq_true rfl) (fun {p e s m below meth c} C hr {ls} hl => ?_)
  have hx := C.1
  have hb := C.2.1
  have hl : lv_has ls 1 [(0, .int v0)] := hl
  refine lv_iload_n hx hb dX7_isRow_0 rfl (lv_at hl 0 rfl) ?_
  refine lv_iconst (v := (0 : Int32)) hx hb dX7_isRow_1 rfl ?_
  refine lv_iconst (v := (2 : Int32)) hx hb dX7_isRow_2 rfl ?_
  obtain ⟨r1, q2, h⟩ := bd_o h
  refine r_callSi (rest := []) C va_S.rf hl (c_X7_in G v0 (0 : Int32) (2 : Int32) r1 q2) cs_X7_63 rfl rfl (Nat.le_of_ble_eq_true rfl) ⟨rfl, rfl, Nat.le_of_ble_eq_true rfl, Nat.le_of_ble_eq_true rfl⟩ dX7_isRow_3 ?_
  obtain ⟨q3, h⟩ := gd_o h
  obtain rfl := ret1 h
  exact r_iretP C hr (bz_nar q3) dX7_isRow_6
def rm_X7_row : Room := { frames := 2, cells := 0, slots := 0, locals := 42 }
set_option maxRecDepth 100000 in
set_option maxHeartbeats 4000000 in
theorem l_X7_row_L1 {G : GT} {p : Program} {e : Env} {s : State} {m : MethodId} {args : Array Value} {below : List Frame} {meth : Method} {c : Code} {Q : State → Prop} (C : CT G p s m meth c args cX7_row 4 RX7) (hr : meth.sig.returnType = (some .int)) (v1 : Int32) (v2 : Int32) : ∀ (k : Nat) (v3 : Int32) (s0 : ST) (e1 : ST), X7_row_L1 v1 v2 k v3 s0 = some e1 → Kn G p e rm_X7_row s m args below meth c Q 4 57 [] (wM G e1) → Kn G p e rm_X7_row s m args below meth c Q 4 34 [(0, .ref (gad G 0)), (1, .int v1), (2, .int v2), (3, .int v3)] (wM G s0) := by
  have hx := C.1
  have hb := C.2.1
  intro k
  induction k with
  | zero =>
    intro v3 s0 e1 h
    exact nso h
  | succ k ih =>
    intro v3 s0 e1 h hk H locs ls B hl
    have h : X7_row_L1_b v1 v2 (X7_row_L1 v1 v2 k) v3 s0 = some e1 := h
    unfold X7_row_L1_b at h
    refine lv_iload_n hx hb dX7_row_34 rfl (lv_at hl 3 rfl) ?_
    refine lv_iload_n hx hb dX7_row_35 rfl (lv_at hl 2 rfl) ?_
    refine lv_icmp_ge (tgt := 57) hx hb dX7_row_36 (by decide) (fun q9 => ?_) (fun q9 => ?_)
    · have h := ip h q9
      obtain rfl := ret1 h
      exact hk H locs ls B (lv_sub hl [] rfl)
    · have h := ig h q9
      refine lv_aload_n hx hb dX7_row_39 rfl (lv_at hl 0 rfl) ?_
      refine r_get C B fo_X7_26 (cM_0 G s0) rfl dX7_row_40 ?_
      refine lv_bipush (v := (40 : Int32)) hx hb dX7_row_43 rfl ?_
      refine lv_iload_n hx hb dX7_row_45 rfl (lv_at hl 1 rfl) ?_
      refine lv_imul hx hb dX7_row_46 ?_
      refine lv_iload_n hx hb dX7_row_47 rfl (lv_at hl 3 rfl) ?_
      refine lv_iadd hx hb dX7_row_48 ?_
      refine lv_iconst (v := (0 : Int32)) hx hb dX7_row_49 rfl ?_
      obtain ⟨q10, h⟩ := gd_o h
      obtain ⟨s11, q12, h⟩ := nm_o h
      refine r_iast C B (cM_5 G s0) (inb_vp q10) ((uMa_4 G s0 _).trans (congrArg (wM G) q12.symm)) dX7_row_50 (fun H locs B => ?_)
      obtain ⟨v3_13, q14, h⟩ := nm_o h
      refine lv_iinc (v := v3_13) (lv' := [(3, .int v3_13), (0, .ref (gad G 0)), (1, .int v1), (2, .int v2)]) hx hb dX7_row_51 hl (k := 3) rfl q14.symm (by decide) rfl (fun ls hl => ?_)
      refine lv_goto (tgt := 34) hx hb dX7_row_54 (by decide) ?_
      exact ih v3_13 s11 e1 h hk H locs ls B (lv_sub hl [1, 2, 3, 0] rfl)
set_option maxRecDepth 100000 in
set_option maxHeartbeats 4000000 in
theorem c_X7_row (G : GT) (n : Nat) (s0 : ST) (v1 : Int32) (v2 : Int32) (r : Int32) (s' : ST) (h : X7_row n s0 v1 v2 = some (r, s')) : Con G yX7_row cX7_row 4 (some .int) rm_X7_row [.ref (gad G 0), .int v1, .int v2] (wM G s0) (some (.int r)) (wM G s') := by
  unfold X7_row at h
  refine con_of (by decide +kernel) (Nat.le_of_ble_eq_true rfl) (fun {p e s m below meth c} C hr {H locs ls} B hl => ?_)
  have hx := C.1
  have hb := C.2.1
  have hl : lv_has ls 4 [(0, .ref (gad G 0)), (1, .int v1), (2, .int v2)] := hl
  refine lv_iload_n hx hb dX7_row_0 rfl (lv_at hl 1 rfl) ?_
  obtain ⟨r1, q2, h⟩ := bd_o h
  refine r_callSi (rest := []) C B.2.2 hl (c_X7_isRow G v1 r1 q2) cs_X7_166 rfl rfl (Nat.le_of_ble_eq_true rfl) ⟨rfl, rfl, Nat.le_of_ble_eq_true rfl, Nat.le_of_ble_eq_true rfl⟩ dX7_row_1 ?_
  refine lv_if_ne (tgt := 9) hx hb dX7_row_4 (by decide) (fun q3 => ?_) (fun q3 => ?_)
  · have h := ig h q3
    refine lv_iload_n hx hb dX7_row_9 rfl (lv_at hl 2 rfl) ?_
    refine lv_bipush (v := (40 : Int32)) hx hb dX7_row_10 rfl ?_
    refine lv_icmp_le (tgt := 18) hx hb dX7_row_12 (by decide) (fun q4 => ?_) (fun q4 => ?_)
    · have h := ip h q4
      refine lv_iload_n hx hb dX7_row_18 rfl (lv_at hl 2 rfl) ?_
      refine lv_if_ge (tgt := 25) hx hb dX7_row_19 (by decide) (fun q5 => ?_) (fun q5 => ?_)
      · have h := ip h q5
        refine lv_aload_n hx hb dX7_row_25 rfl (lv_at hl 0 rfl) ?_
        refine r_get C B fo_X7_23 (cM_0 G s0) rfl dX7_row_26 ?_
        refine lv_iload_n hx hb dX7_row_29 rfl (lv_at hl 1 rfl) ?_
        refine lv_iload_n hx hb dX7_row_30 rfl (lv_at hl 2 rfl) ?_
        obtain ⟨q6, h⟩ := gd_o h
        obtain ⟨s7, q8, h⟩ := nm_o h
        refine r_iast C B (cM_4 G s0) (inb_vp q6) ((uMa_3 G s0 _).trans (congrArg (wM G) q8.symm)) dX7_row_31 (fun H locs B => ?_)
        refine lv_iconst (v := (0 : Int32)) hx hb dX7_row_32 rfl ?_
        refine lv_istore_n (lv' := [(3, .int (0 : Int32)), (0, .ref (gad G 0)), (1, .int v1), (2, .int v2)]) hx hb dX7_row_33 rfl hl (by decide) rfl (fun ls hl => ?_)
        obtain ⟨e15, q16, h⟩ := bd_o h
        refine l_X7_row_L1 C hr v1 v2 n (0 : Int32) s7 e15 q16 ?_ H locs ls B (lv_sub hl [1, 2, 3, 0] rfl)
        intro H locs ls B hl
        refine lv_iconst (v := (1 : Int32)) hx hb dX7_row_57 rfl ?_
        obtain ⟨rfl, rfl⟩ := ret2 h
        exact r_iret C B hr rfl dX7_row_58
      · have h := ig h q5
        refine lv_bipush (v := (-14 : Int32)) hx hb dX7_row_22 rfl ?_
        obtain ⟨rfl, rfl⟩ := ret2 h
        exact r_iret C B hr rfl dX7_row_24
    · have h := ig h q4
      refine lv_bipush (v := (-2 : Int32)) hx hb dX7_row_15 rfl ?_
      obtain ⟨rfl, rfl⟩ := ret2 h
      exact r_iret C B hr rfl dX7_row_17
  · have h := ip h q3
    refine lv_iconst (v := (-1 : Int32)) hx hb dX7_row_7 rfl ?_
    obtain ⟨rfl, rfl⟩ := ret2 h
    exact r_iret C B hr rfl dX7_row_8
def rm_X7_lose : Room := { frames := 2, cells := 0, slots := 0, locals := 42 }
set_option maxRecDepth 100000 in
set_option maxHeartbeats 4000000 in
theorem c_X7_lose (G : GT) (s0 : ST) (v1 : Int32) (r : Int32) (s' : ST) (h : X7_lose s0 v1 = some (r, s')) : Con G yX7_lose cX7_lose 3 (some .int) rm_X7_lose [.ref (gad G 0), .int v1] (wM G s0) (some (.int r)) (wM G s') := by
  unfold X7_lose at h
  refine con_of (by decide +kernel) (Nat.le_of_ble_eq_true rfl) (fun {p e s m below meth c} C hr {H locs ls} B hl => ?_)
  have hx := C.1
  have hb := C.2.1
  have hl : lv_has ls 3 [(0, .ref (gad G 0)), (1, .int v1)] := hl
  refine lv_iload_n hx hb dX7_lose_0 rfl (lv_at hl 1 rfl) ?_
  obtain ⟨r1, q2, h⟩ := bd_o h
  refine r_callSi (rest := []) C B.2.2 hl (c_X7_isRow G v1 r1 q2) cs_X7_166 rfl rfl (Nat.le_of_ble_eq_true rfl) ⟨rfl, rfl, Nat.le_of_ble_eq_true rfl, Nat.le_of_ble_eq_true rfl⟩ dX7_lose_1 ?_
  refine lv_if_ne (tgt := 9) hx hb dX7_lose_4 (by decide) (fun q3 => ?_) (fun q3 => ?_)
  · have h := ig h q3
    refine lv_aload_n hx hb dX7_lose_9 rfl (lv_at hl 0 rfl) ?_
    refine r_get C B fo_X7_23 (cM_0 G s0) rfl dX7_lose_10 ?_
    refine lv_iload_n hx hb dX7_lose_13 rfl (lv_at hl 1 rfl) ?_
    obtain ⟨q4, h⟩ := gd_o h
    refine r_iald C B (cM_4 G s0) (inb_vp q4) dX7_lose_14 ?_
    refine lv_if_ge (tgt := 21) hx hb dX7_lose_15 (by decide) (fun q5 => ?_) (fun q5 => ?_)
    · have h := ip h q5
      refine lv_aload_n hx hb dX7_lose_21 rfl (lv_at hl 0 rfl) ?_
      refine r_get C B fo_X7_23 (cM_0 G s0) rfl dX7_lose_22 ?_
      refine lv_iload_n hx hb dX7_lose_25 rfl (lv_at hl 1 rfl) ?_
      obtain ⟨q6, h⟩ := gd_o h
      refine r_iald C B (cM_4 G s0) (inb_vp q6) dX7_lose_26 ?_
      obtain ⟨v2_7, q8, h⟩ := nm_o h
      refine r_nm q8 ?_
      refine lv_istore_n (lv' := [(2, .int v2_7), (0, .ref (gad G 0)), (1, .int v1)]) hx hb dX7_lose_27 rfl hl (by decide) rfl (fun ls hl => ?_)
      refine lv_aload_n hx hb dX7_lose_28 rfl (lv_at hl 1 rfl) ?_
      refine r_get C B fo_X7_23 (cM_0 G s0) rfl dX7_lose_29 ?_
      refine lv_iload_n hx hb dX7_lose_32 rfl (lv_at hl 2 rfl) ?_
      refine lv_iconst (v := (-1 : Int32)) hx hb dX7_lose_33 rfl ?_
      obtain ⟨q9, h⟩ := gd_o h
      obtain ⟨s10, q11, h⟩ := nm_o h
      refine r_iast C B (cM_4 G s0) (inb_vp q9) ((uMa_3 G s0 _).trans (congrArg (wM G) q11.symm)) dX7_lose_34 (fun H locs B => ?_)
      refine lv_iload_n hx hb dX7_lose_35 rfl (lv_at hl 0 rfl) ?_
      obtain ⟨rfl, rfl⟩ := ret2 h
      exact r_iret C B hr rfl dX7_lose_36
    · have h := ig h q5
      refine lv_bipush (v := (-11 : Int32)) hx hb dX7_lose_18 rfl ?_
      obtain ⟨rfl, rfl⟩ := ret2 h
      exact r_iret C B hr rfl dX7_lose_20
  · have h := ip h q3
    refine lv_iconst (v := (-1 : Int32)) hx hb dX7_lose_7 rfl ?_
    obtain ⟨rfl, rfl⟩ := ret2 h
    exact r_iret C B hr rfl dX7_lose_8
def rm_X7_put : Room := { frames := 2, cells := 0, slots := 0, locals := 42 }
set_option maxRecDepth 100000 in
set_option maxHeartbeats 4000000 in
theorem c_X7_put (G : GT) (s0 : ST) (v1 : Int32) (v2 : Int32) (v3 : Int32) (r : Int32) (s' : ST) (h : X7_put s0 v1 v2 v3 = some (r, s')) : Con G yX7_put cX7_put 4 (some .int) rm_X7_put [.ref (gad G 0), .int v1, .int v2, .int v3] (wM G s0) (some (.int r)) (wM G s') := by
  unfold X7_put at h
  refine con_of (by decide +kernel) (Nat.le_of_ble_eq_true rfl) (fun {p e s m below meth c} C hr {H locs ls} B hl => ?_)
  have hx := C.1
  have hb := C.2.1
  have hl : lv_has ls 4 [(0, .ref (gad G 0)), (1, .int v1), (2, .int v2), (3, .int v3)] := hl
  refine lv_iload_n hx hb dX7_put_0 rfl (lv_at hl 1 rfl) ?_
  obtain ⟨r1, q2, h⟩ := bd_o h
  refine r_callSi (rest := []) C B.2.2 hl (c_X7_isRow G v1 r1 q2) cs_X7_166 rfl rfl (Nat.le_of_ble_eq_true rfl) ⟨rfl, rfl, Nat.le_of_ble_eq_true rfl, Nat.le_of_ble_eq_true rfl⟩ dX7_put_1 ?_
  refine lv_if_ne (tgt := 9) hx hb dX7_put_4 (by decide) (fun q3 => ?_) (fun q3 => ?_)
  · have h := ig h q3
    refine lv_aload_n hx hb dX7_put_9 rfl (lv_at hl 0 rfl) ?_
    refine r_get C B fo_X7_23 (cM_0 G s0) rfl dX7_put_10 ?_
    refine lv_iload_n hx hb dX7_put_13 rfl (lv_at hl 1 rfl) ?_
    obtain ⟨q4, h⟩ := gd_o h
    refine r_iald C B (cM_4 G s0) (inb_vp q4) dX7_put_14 ?_
    refine lv_if_ge (tgt := 21) hx hb dX7_put_15 (by decide) (fun q5 => ?_) (fun q5 => ?_)
    · have h := ip h q5
      refine lv_iload_n hx hb dX7_put_21 rfl (lv_at hl 2 rfl) ?_
      refine lv_iconst (v := (0 : Int32)) hx hb dX7_put_22 rfl ?_
      refine lv_aload_n hx hb dX7_put_23 rfl (lv_at hl 0 rfl) ?_
      refine r_get C B fo_X7_23 (cM_0 G s0) rfl dX7_put_24 ?_
      refine lv_iload_n hx hb dX7_put_27 rfl (lv_at hl 1 rfl) ?_
      obtain ⟨q6, h⟩ := gd_o h
      refine r_iald C B (cM_4 G s0) (inb_vp q6) dX7_put_28 ?_
      refine lv_iconst (v := (1 : Int32)) hx hb dX7_put_29 rfl ?_
      refine lv_isub hx hb dX7_put_30 ?_
      obtain ⟨r7, q8, h⟩ := bd_o h
      refine r_callSi (rest := []) C B.2.2 hl (c_X7_in G v2 (0 : Int32) ((s0.2.1 3 (v1).toNatClampNeg) - (1 : Int32)) r7 q8) cs_X7_63 rfl rfl (Nat.le_of_ble_eq_true rfl) ⟨rfl, rfl, Nat.le_of_ble_eq_true rfl, Nat.le_of_ble_eq_true rfl⟩ dX7_put_31 ?_
      refine lv_if_ne (tgt := 40) hx hb dX7_put_34 (by decide) (fun q9 => ?_) (fun q9 => ?_)
      · have h := ig h q9
        refine lv_aload_n hx hb dX7_put_40 rfl (lv_at hl 0 rfl) ?_
        refine r_get C B fo_X7_26 (cM_0 G s0) rfl dX7_put_41 ?_
        refine lv_bipush (v := (40 : Int32)) hx hb dX7_put_44 rfl ?_
        refine lv_iload_n hx hb dX7_put_46 rfl (lv_at hl 1 rfl) ?_
        refine lv_imul hx hb dX7_put_47 ?_
        refine lv_iload_n hx hb dX7_put_48 rfl (lv_at hl 2 rfl) ?_
        refine lv_iadd hx hb dX7_put_49 ?_
        refine lv_iload_n hx hb dX7_put_50 rfl (lv_at hl 3 rfl) ?_
        obtain ⟨q10, h⟩ := gd_o h
        obtain ⟨s11, q12, h⟩ := nm_o h
        refine r_iast C B (cM_5 G s0) (inb_vp q10) ((uMa_4 G s0 _).trans (congrArg (wM G) q12.symm)) dX7_put_51 (fun H locs B => ?_)
        refine lv_iconst (v := (1 : Int32)) hx hb dX7_put_52 rfl ?_
        obtain ⟨rfl, rfl⟩ := ret2 h
        exact r_iret C B hr rfl dX7_put_53
      · have h := ip h q9
        refine lv_bipush (v := (-13 : Int32)) hx hb dX7_put_37 rfl ?_
        obtain ⟨rfl, rfl⟩ := ret2 h
        exact r_iret C B hr rfl dX7_put_39
    · have h := ig h q5
      refine lv_bipush (v := (-11 : Int32)) hx hb dX7_put_18 rfl ?_
      obtain ⟨rfl, rfl⟩ := ret2 h
      exact r_iret C B hr rfl dX7_put_20
  · have h := ip h q3
    refine lv_iconst (v := (-1 : Int32)) hx hb dX7_put_7 rfl ?_
    obtain ⟨rfl, rfl⟩ := ret2 h
    exact r_iret C B hr rfl dX7_put_8
def rm_X7_get : Room := { frames := 2, cells := 0, slots := 0, locals := 42 }
set_option maxRecDepth 100000 in
set_option maxHeartbeats 4000000 in
theorem c_X7_get (G : GT) (s0 : ST) (v1 : Int32) (v2 : Int32) (r : Int64) (h : X7_get s0 v1 v2 = some r) : Con G yX7_get cX7_get 3 (some .long) rm_X7_get [.ref (gad G 0), .int v1, .int v2] (wM G s0) (some (.long r)) (wM G s0) := by
  unfold X7_get at h
  refine con_of (by decide +kernel) (Nat.le_of_ble_eq_true rfl) (fun {p e s m below meth c} C hr {H locs ls} B hl => ?_)
  have hx := C.1
  have hb := C.2.1
  have hl : lv_has ls 3 [(0, .ref (gad G 0)), (1, .int v1), (2, .int v2)] := hl
  refine lv_iload_n hx hb dX7_get_0 rfl (lv_at hl 1 rfl) ?_
  obtain ⟨r1, q2, h⟩ := bd_o h
  refine r_callSi (rest := []) C B.2.2 hl (c_X7_isRow G v1 r1 q2) cs_X7_166 rfl rfl (Nat.le_of_ble_eq_true rfl) ⟨rfl, rfl, Nat.le_of_ble_eq_true rfl, Nat.le_of_ble_eq_true rfl⟩ dX7_get_1 ?_
  refine lv_if_eq (tgt := 38) hx hb dX7_get_4 (by decide) (fun q3 => ?_) (fun q3 => ?_)
  · have h := ip h q3
    refine lv_ldc2 (v := (-9223372036854775808 : Int64)) hx hb C.2.2.2.1 (C.2.2.2.2.1 _ wm_1188) dX7_get_38 ?_
    obtain rfl := ret1 h
    exact r_lret C B hr dX7_get_41
  · have h := ig h q3
    refine lv_iload_n hx hb dX7_get_7 rfl (lv_at hl 2 rfl) ?_
    refine lv_iconst (v := (0 : Int32)) hx hb dX7_get_8 rfl ?_
    refine lv_aload_n hx hb dX7_get_9 rfl (lv_at hl 0 rfl) ?_
    refine r_get C B fo_X7_23 (cM_0 G s0) rfl dX7_get_10 ?_
    refine lv_iload_n hx hb dX7_get_13 rfl (lv_at hl 1 rfl) ?_
    obtain ⟨q4, h⟩ := gd_o h
    refine r_iald C B (cM_4 G s0) (inb_vp q4) dX7_get_14 ?_
    refine lv_iconst (v := (1 : Int32)) hx hb dX7_get_15 rfl ?_
    refine lv_isub hx hb dX7_get_16 ?_
    obtain ⟨r5, q6, h⟩ := bd_o h
    refine r_callSi (rest := []) C B.2.2 hl (c_X7_in G v2 (0 : Int32) ((s0.2.1 3 (v1).toNatClampNeg) - (1 : Int32)) r5 q6) cs_X7_63 rfl rfl (Nat.le_of_ble_eq_true rfl) ⟨rfl, rfl, Nat.le_of_ble_eq_true rfl, Nat.le_of_ble_eq_true rfl⟩ dX7_get_17 ?_
    refine lv_if_eq (tgt := 38) hx hb dX7_get_20 (by decide) (fun q7 => ?_) (fun q7 => ?_)
    · have h := ip h q7
      refine lv_ldc2 (v := (-9223372036854775808 : Int64)) hx hb C.2.2.2.1 (C.2.2.2.2.1 _ wm_1188) dX7_get_38 ?_
      obtain rfl := ret1 h
      exact r_lret C B hr dX7_get_41
    · have h := ig h q7
      refine lv_aload_n hx hb dX7_get_23 rfl (lv_at hl 0 rfl) ?_
      refine r_get C B fo_X7_26 (cM_0 G s0) rfl dX7_get_24 ?_
      refine lv_bipush (v := (40 : Int32)) hx hb dX7_get_27 rfl ?_
      refine lv_iload_n hx hb dX7_get_29 rfl (lv_at hl 1 rfl) ?_
      refine lv_imul hx hb dX7_get_30 ?_
      refine lv_iload_n hx hb dX7_get_31 rfl (lv_at hl 2 rfl) ?_
      refine lv_iadd hx hb dX7_get_32 ?_
      obtain ⟨q8, h⟩ := gd_o h
      refine r_iald C B (cM_5 G s0) (inb_vp q8) dX7_get_33 ?_
      refine lv_i2l hx hb dX7_get_34 rfl ?_
      refine lv_goto (tgt := 41) hx hb dX7_get_35 (by decide) ?_
      obtain rfl := ret1 h
      exact r_lret C B hr dX7_get_41
def rm_X7_copy : Room := { frames := 2, cells := 0, slots := 0, locals := 42 }
set_option maxRecDepth 100000 in
set_option maxHeartbeats 4000000 in
theorem l_X7_copy_L1 {G : GT} {p : Program} {e : Env} {s : State} {m : MethodId} {args : Array Value} {below : List Frame} {meth : Method} {c : Code} {Q : State → Prop} (C : CT G p s m meth c args cX7_copy 7 RX7) (hr : meth.sig.returnType = (some .int)) (v1 : Int32) (v2 : Int32) (v3 : Int32) (v4 : Int32) (v5 : Int32) : ∀ (k : Nat) (v6 : Int32) (s0 : ST) (e1 : ST), X7_copy_L1 v1 v2 v5 k v6 s0 = some e1 → Kn G p e rm_X7_copy s m args below meth c Q 7 126 [(0, .ref (gad G 0)), (3, .int v3), (4, .int v4), (5, .int v5)] (wM G e1) → Kn G p e rm_X7_copy s m args below meth c Q 7 92 [(0, .ref (gad G 0)), (1, .int v1), (2, .int v2), (3, .int v3), (4, .int v4), (5, .int v5), (6, .int v6)] (wM G s0) := by
  have hx := C.1
  have hb := C.2.1
  intro k
  induction k with
  | zero =>
    intro v6 s0 e1 h
    exact nso h
  | succ k ih =>
    intro v6 s0 e1 h hk H locs ls B hl
    have h : X7_copy_L1_b v1 v2 v5 (X7_copy_L1 v1 v2 v5 k) v6 s0 = some e1 := h
    unfold X7_copy_L1_b at h
    refine lv_iload hx hb dX7_copy_92 (lv_at hl 6 rfl) ?_
    refine lv_iload hx hb dX7_copy_94 (lv_at hl 5 rfl) ?_
    refine lv_icmp_ge (tgt := 126) hx hb dX7_copy_96 (by decide) (fun q18 => ?_) (fun q18 => ?_)
    · have h := ip h q18
      obtain rfl := ret1 h
      exact hk H locs ls B (lv_sub hl [0, 3, 4, 5] rfl)
    · have h := ig h q18
      refine lv_aload_n hx hb dX7_copy_99 rfl (lv_at hl 0 rfl) ?_
      refine r_get C B fo_X7_29 (cM_0 G s0) rfl dX7_copy_100 ?_
      refine lv_iload hx hb dX7_copy_103 (lv_at hl 6 rfl) ?_
      refine lv_aload_n hx hb dX7_copy_105 rfl (lv_at hl 0 rfl) ?_
      refine r_get C B fo_X7_26 (cM_0 G s0) rfl dX7_copy_106 ?_
      refine lv_bipush (v := (40 : Int32)) hx hb dX7_copy_109 rfl ?_
      refine lv_iload_n hx hb dX7_copy_111 rfl (lv_at hl 1 rfl) ?_
      refine lv_imul hx hb dX7_copy_112 ?_
      refine lv_iload_n hx hb dX7_copy_113 rfl (lv_at hl 2 rfl) ?_
      refine lv_iadd hx hb dX7_copy_114 ?_
      refine lv_iload hx hb dX7_copy_115 (lv_at hl 6 rfl) ?_
      refine lv_iadd hx hb dX7_copy_117 ?_
      obtain ⟨q19, h⟩ := gd_o h
      refine r_iald C B (cM_5 G s0) (inb_vp q19) dX7_copy_118 ?_
      obtain ⟨q20, h⟩ := gd_o h
      obtain ⟨s21, q22, h⟩ := nm_o h
      refine r_iast C B (cM_6 G s0) (inb_vp q20) ((uMa_5 G s0 _).trans (congrArg (wM G) q22.symm)) dX7_copy_119 (fun H locs B => ?_)
      obtain ⟨v6_23, q24, h⟩ := nm_o h
      refine lv_iinc (v := v6_23) (lv' := [(6, .int v6_23), (0, .ref (gad G 0)), (1, .int v1), (2, .int v2), (3, .int v3), (4, .int v4), (5, .int v5)]) hx hb dX7_copy_120 hl (k := 6) rfl q24.symm (by decide) rfl (fun ls hl => ?_)
      refine lv_goto (tgt := 92) hx hb dX7_copy_123 (by decide) ?_
      exact ih v6_23 s21 e1 h hk H locs ls B (lv_sub hl [1, 2, 3, 4, 5, 6, 0] rfl)
set_option maxRecDepth 100000 in
set_option maxHeartbeats 4000000 in
theorem l_X7_copy_L2 {G : GT} {p : Program} {e : Env} {s : State} {m : MethodId} {args : Array Value} {below : List Frame} {meth : Method} {c : Code} {Q : State → Prop} (C : CT G p s m meth c args cX7_copy 7 RX7) (hr : meth.sig.returnType = (some .int)) (v3 : Int32) (v4 : Int32) (v5 : Int32) : ∀ (k : Nat) (v6 : Int32) (s0 : ST) (e1 : ST), X7_copy_L2 v3 v4 v5 k v6 s0 = some e1 → Kn G p e rm_X7_copy s m args below meth c Q 7 164 [(5, .int v5)] (wM G e1) → Kn G p e rm_X7_copy s m args below meth c Q 7 129 [(0, .ref (gad G 0)), (3, .int v3), (4, .int v4), (5, .int v5), (6, .int v6)] (wM G s0) := by
  have hx := C.1
  have hb := C.2.1
  intro k
  induction k with
  | zero =>
    intro v6 s0 e1 h
    exact nso h
  | succ k ih =>
    intro v6 s0 e1 h hk H locs ls B hl
    have h : X7_copy_L2_b v3 v4 v5 (X7_copy_L2 v3 v4 v5 k) v6 s0 = some e1 := h
    unfold X7_copy_L2_b at h
    refine lv_iload hx hb dX7_copy_129 (lv_at hl 4 rfl) ?_
    refine lv_iload hx hb dX7_copy_131 (lv_at hl 3 rfl) ?_
    refine lv_icmp_ge (tgt := 164) hx hb dX7_copy_133 (by decide) (fun q27 => ?_) (fun q27 => ?_)
    · have h := ip h q27
      obtain rfl := ret1 h
      exact hk H locs ls B (lv_sub hl [3] rfl)
    · have h := ig h q27
      refine lv_aload_n hx hb dX7_copy_136 rfl (lv_at hl 0 rfl) ?_
      refine r_get C B fo_X7_26 (cM_0 G s0) rfl dX7_copy_137 ?_
      refine lv_bipush (v := (40 : Int32)) hx hb dX7_copy_140 rfl ?_
      refine lv_iload_n hx hb dX7_copy_142 rfl (lv_at hl 1 rfl) ?_
      refine lv_imul hx hb dX7_copy_143 ?_
      refine lv_iload hx hb dX7_copy_144 (lv_at hl 2 rfl) ?_
      refine lv_iadd hx hb dX7_copy_146 ?_
      refine lv_iload hx hb dX7_copy_147 (lv_at hl 4 rfl) ?_
      refine lv_iadd hx hb dX7_copy_149 ?_
      refine lv_aload_n hx hb dX7_copy_150 rfl (lv_at hl 0 rfl) ?_
      refine r_get C B fo_X7_29 (cM_0 G s0) rfl dX7_copy_151 ?_
      refine lv_iload hx hb dX7_copy_154 (lv_at hl 4 rfl) ?_
      obtain ⟨q28, h⟩ := gd_o h
      refine r_iald C B (cM_6 G s0) (inb_vp q28) dX7_copy_156 ?_
      obtain ⟨q29, h⟩ := gd_o h
      obtain ⟨s30, q31, h⟩ := nm_o h
      refine r_iast C B (cM_5 G s0) (inb_vp q29) ((uMa_4 G s0 _).trans (congrArg (wM G) q31.symm)) dX7_copy_157 (fun H locs B => ?_)
      obtain ⟨v6_32, q33, h⟩ := nm_o h
      refine lv_iinc (v := v6_32) (lv' := [(6, .int v6_32), (0, .ref (gad G 0)), (3, .int v3), (4, .int v4), (5, .int v5)]) hx hb dX7_copy_158 hl (k := 4) rfl q33.symm (by decide) rfl (fun ls hl => ?_)
      refine lv_goto (tgt := 129) hx hb dX7_copy_161 (by decide) ?_
      exact ih v6_32 s30 e1 h hk H locs ls B (lv_sub hl [1, 2, 3, 4, 0] rfl)
set_option maxRecDepth 100000 in
set_option maxHeartbeats 4000000 in
theorem c_X7_copy (G : GT) (n : Nat) (s0 : ST) (v1 : Int32) (v2 : Int32) (v3 : Int32) (v4 : Int32) (v5 : Int32) (r : Int32) (s' : ST) (h : X7_copy n s0 v1 v2 v3 v4 v5 = some (r, s')) : Con G yX7_copy cX7_copy 7 (some .int) rm_X7_copy [.ref (gad G 0), .int v1, .int v2, .int v3, .int v4, .int v5] (wM G s0) (some (.int r)) (wM G s') := by
  unfold X7_copy at h
  refine con_of (by decide +kernel) (Nat.le_of_ble_eq_true rfl) (fun {p e s m below meth c} C hr {H locs ls} B hl => ?_)
  have hx := C.1
  have hb := C.2.1
  have hl : lv_has ls 7 [(0, .ref (gad G 0)), (1, .int v1), (2, .int v2), (3, .int v3), (4, .int v4), (5, .int v5)] := hl
  refine lv_iload_n hx hb dX7_copy_0 rfl (lv_at hl 1 rfl) ?_
  obtain ⟨r1, q2, h⟩ := bd_o h
  refine r_callSi (rest := []) C B.2.2 hl (c_X7_isRow G v1 r1 q2) cs_X7_166 rfl rfl (Nat.le_of_ble_eq_true rfl) ⟨rfl, rfl, Nat.le_of_ble_eq_true rfl, Nat.le_of_ble_eq_true rfl⟩ dX7_copy_1 ?_
  refine lv_if_eq (tgt := 14) hx hb dX7_copy_4 (by decide) (fun q3 => ?_) (fun q3 => ?_)
  · have h := ip h q3
    refine lv_iconst (v := (-1 : Int32)) hx hb dX7_copy_14 rfl ?_
    obtain ⟨rfl, rfl⟩ := ret2 h
    exact r_iret C B hr rfl dX7_copy_15
  · have h := ig h q3
    refine lv_iload_n hx hb dX7_copy_7 rfl (lv_at hl 3 rfl) ?_
    obtain ⟨r4, q5, h⟩ := bd_o h
    refine r_callSi (rest := []) C B.2.2 hl (c_X7_isRow G v3 r4 q5) cs_X7_166 rfl rfl (Nat.le_of_ble_eq_true rfl) ⟨rfl, rfl, Nat.le_of_ble_eq_true rfl, Nat.le_of_ble_eq_true rfl⟩ dX7_copy_8 ?_
    refine lv_if_ne (tgt := 16) hx hb dX7_copy_11 (by decide) (fun q6 => ?_) (fun q6 => ?_)
    · have h := ig h q6
      refine lv_aload_n hx hb dX7_copy_16 rfl (lv_at hl 0 rfl) ?_
      refine r_get C B fo_X7_23 (cM_0 G s0) rfl dX7_copy_17 ?_
      refine lv_iload_n hx hb dX7_copy_20 rfl (lv_at hl 1 rfl) ?_
      obtain ⟨q7, h⟩ := gd_o h
      refine r_iald C B (cM_4 G s0) (inb_vp q7) dX7_copy_21 ?_
      refine lv_if_lt (tgt := 34) hx hb dX7_copy_22 (by decide) (fun q8 => ?_) (fun q8 => ?_)
      · have h := ip h q8
        refine lv_bipush (v := (-11 : Int32)) hx hb dX7_copy_34 rfl ?_
        obtain ⟨rfl, rfl⟩ := ret2 h
        exact r_iret C B hr rfl dX7_copy_36
      · have h := ig h q8
        refine lv_aload_n hx hb dX7_copy_25 rfl (lv_at hl 0 rfl) ?_
        refine r_get C B fo_X7_23 (cM_0 G s0) rfl dX7_copy_26 ?_
        refine lv_iload_n hx hb dX7_copy_29 rfl (lv_at hl 3 rfl) ?_
        obtain ⟨q9, h⟩ := gd_o h
        refine r_iald C B (cM_4 G s0) (inb_vp q9) dX7_copy_30 ?_
        refine lv_if_ge (tgt := 37) hx hb dX7_copy_31 (by decide) (fun q10 => ?_) (fun q10 => ?_)
        · have h := ip h q10
          refine lv_iload hx hb dX7_copy_37 (lv_at hl 5 rfl) ?_
          refine lv_if_lt (tgt := 86) hx hb dX7_copy_39 (by decide) (fun q11 => ?_) (fun q11 => ?_)
          · have h := ip h q11
            refine lv_bipush (v := (-13 : Int32)) hx hb dX7_copy_86 rfl ?_
            obtain ⟨rfl, rfl⟩ := ret2 h
            exact r_iret C B hr rfl dX7_copy_88
          · have h := ig h q11
            refine lv_iload_n hx hb dX7_copy_42 rfl (lv_at hl 2 rfl) ?_
            refine lv_if_lt (tgt := 86) hx hb dX7_copy_43 (by decide) (fun q12 => ?_) (fun q12 => ?_)
            · have h := ip h q12
              refine lv_bipush (v := (-13 : Int32)) hx hb dX7_copy_86 rfl ?_
              obtain ⟨rfl, rfl⟩ := ret2 h
              exact r_iret C B hr rfl dX7_copy_88
            · have h := ig h q12
              refine lv_iload hx hb dX7_copy_46 (lv_at hl 4 rfl) ?_
              refine lv_if_lt (tgt := 86) hx hb dX7_copy_48 (by decide) (fun q13 => ?_) (fun q13 => ?_)
              · have h := ip h q13
                refine lv_bipush (v := (-13 : Int32)) hx hb dX7_copy_86 rfl ?_
                obtain ⟨rfl, rfl⟩ := ret2 h
                exact r_iret C B hr rfl dX7_copy_88
              · have h := ig h q13
                refine lv_iload_n hx hb dX7_copy_51 rfl (lv_at hl 2 rfl) ?_
                refine lv_i2l hx hb dX7_copy_52 rfl ?_
                refine lv_iload hx hb dX7_copy_53 (lv_at hl 5 rfl) ?_
                refine lv_i2l hx hb dX7_copy_55 rfl ?_
                refine lv_ladd hx hb dX7_copy_56 ?_
                refine lv_aload_n hx hb dX7_copy_57 rfl (lv_at hl 0 rfl) ?_
                refine r_get C B fo_X7_23 (cM_0 G s0) rfl dX7_copy_58 ?_
                refine lv_iload_n hx hb dX7_copy_61 rfl (lv_at hl 1 rfl) ?_
                obtain ⟨q14, h⟩ := gd_o h
                refine r_iald C B (cM_4 G s0) (inb_vp q14) dX7_copy_62 ?_
                refine lv_i2l hx hb dX7_copy_63 rfl ?_
                refine W.lcmp hx hb dX7_copy_64 ?_
                refine lv_if_gt (tgt := 86) hx hb dX7_copy_65 (by decide) (fun q15 => ?_) (fun q15 => ?_)
                · have h := ip h q15
                  refine lv_bipush (v := (-13 : Int32)) hx hb dX7_copy_86 rfl ?_
                  obtain ⟨rfl, rfl⟩ := ret2 h
                  exact r_iret C B hr rfl dX7_copy_88
                · have h := ig h q15
                  refine lv_iload hx hb dX7_copy_68 (lv_at hl 4 rfl) ?_
                  refine lv_i2l hx hb dX7_copy_70 rfl ?_
                  refine lv_iload hx hb dX7_copy_71 (lv_at hl 5 rfl) ?_
                  refine lv_i2l hx hb dX7_copy_73 rfl ?_
                  refine lv_ladd hx hb dX7_copy_74 ?_
                  refine lv_aload_n hx hb dX7_copy_75 rfl (lv_at hl 0 rfl) ?_
                  refine r_get C B fo_X7_23 (cM_0 G s0) rfl dX7_copy_76 ?_
                  refine lv_iload_n hx hb dX7_copy_79 rfl (lv_at hl 3 rfl) ?_
                  obtain ⟨q16, h⟩ := gd_o h
                  refine r_iald C B (cM_4 G s0) (inb_vp q16) dX7_copy_80 ?_
                  refine lv_i2l hx hb dX7_copy_81 rfl ?_
                  refine W.lcmp hx hb dX7_copy_82 ?_
                  refine lv_if_le (tgt := 89) hx hb dX7_copy_83 (by decide) (fun q17 => ?_) (fun q17 => ?_)
                  · have h := ip h q17
                    refine lv_iconst (v := (0 : Int32)) hx hb dX7_copy_89 rfl ?_
                    refine lv_istore (lv' := [(6, .int (0 : Int32)), (0, .ref (gad G 0)), (1, .int v1), (2, .int v2), (3, .int v3), (4, .int v4), (5, .int v5)]) hx hb dX7_copy_90 hl (by decide) rfl (fun ls hl => ?_)
                    obtain ⟨e25, q26, h⟩ := bd_o h
                    refine l_X7_copy_L1 C hr v1 v2 v3 v4 v5 n (0 : Int32) s0 e25 q26 ?_ H locs ls B (lv_sub hl [1, 2, 3, 4, 5, 6, 0] rfl)
                    intro H locs ls B hl
                    refine lv_iconst (v := (0 : Int32)) hx hb dX7_copy_126 rfl ?_
                    refine lv_istore (lv' := [(6, .int (0 : Int32)), (0, .ref (gad G 0)), (3, .int v3), (4, .int v4), (5, .int v5)]) hx hb dX7_copy_127 hl (by decide) rfl (fun ls hl => ?_)
                    obtain ⟨e34, q35, h⟩ := bd_o h
                    refine l_X7_copy_L2 C hr v3 v4 v5 n (0 : Int32) e25 e34 q35 ?_ H locs ls B (lv_sub hl [1, 2, 3, 4, 0] rfl)
                    intro H locs ls B hl
                    refine lv_iload hx hb dX7_copy_164 (lv_at hl 0 rfl) ?_
                    obtain ⟨rfl, rfl⟩ := ret2 h
                    exact r_iret C B hr rfl dX7_copy_166
                  · have h := ig h q17
                    refine lv_bipush (v := (-13 : Int32)) hx hb dX7_copy_86 rfl ?_
                    obtain ⟨rfl, rfl⟩ := ret2 h
                    exact r_iret C B hr rfl dX7_copy_88
        · have h := ig h q10
          refine lv_bipush (v := (-11 : Int32)) hx hb dX7_copy_34 rfl ?_
          obtain ⟨rfl, rfl⟩ := ret2 h
          exact r_iret C B hr rfl dX7_copy_36
    · have h := ip h q6
      refine lv_iconst (v := (-1 : Int32)) hx hb dX7_copy_14 rfl ?_
      obtain ⟨rfl, rfl⟩ := ret2 h
      exact r_iret C B hr rfl dX7_copy_15
def rm_X7_film : Room := { frames := 5, cells := 0, slots := 0, locals := 112 }
set_option maxRecDepth 100000 in
set_option maxHeartbeats 4000000 in
theorem l_X7_film_L1 {G : GT} {p : Program} {e : Env} {s : State} {m : MethodId} {args : Array Value} {below : List Frame} {meth : Method} {c : Code} {Q : State → Prop} (C : CT G p s m meth c args cX7_film 6 RX7) (hr : meth.sig.returnType = (some .int)) (v1 : Int32) (v3 : Int32) : ∀ (k : Nat) (v5 : Int32) (s0 : ST) (e1 : ST), X7_film_L1 v1 v3 k v5 s0 = some e1 → Kn G p e rm_X7_film s m args below meth c Q 6 103 [(0, .ref (gad G 0)), (1, .int v1)] (wM G e1) → Kn G p e rm_X7_film s m args below meth c Q 6 65 [(0, .ref (gad G 0)), (1, .int v1), (3, .int v3), (5, .int v5)] (wM G s0) := by
  have hx := C.1
  have hb := C.2.1
  intro k
  induction k with
  | zero =>
    intro v5 s0 e1 h
    exact nso h
  | succ k ih =>
    intro v5 s0 e1 h hk H locs ls B hl
    have h : X7_film_L1_b v1 v3 (X7_film_L1 v1 v3 k) v5 s0 = some e1 := h
    unfold X7_film_L1_b at h
    refine lv_iload hx hb dX7_film_65 (lv_at hl 3 rfl) ?_
    refine lv_aload_n hx hb dX7_film_67 rfl (lv_at hl 0 rfl) ?_
    refine r_get C B fo_X7_23 (cM_0 G s0) rfl dX7_film_68 ?_
    refine lv_iload_n hx hb dX7_film_71 rfl (lv_at hl 1 rfl) ?_
    obtain ⟨q22, h⟩ := gd_o h
    refine r_iald C B (cM_4 G s0) (inb_vp q22) dX7_film_72 ?_
    refine lv_icmp_ge (tgt := 103) hx hb dX7_film_73 (by decide) (fun q23 => ?_) (fun q23 => ?_)
    · have h := ip h q23
      obtain rfl := ret1 h
      exact hk H locs ls B (lv_sub hl [0, 1] rfl)
    · have h := ig h q23
      refine lv_aload_n hx hb dX7_film_76 rfl (lv_at hl 0 rfl) ?_
      refine r_get C B fo_X7_26 (cM_0 G s0) rfl dX7_film_77 ?_
      refine lv_bipush (v := (40 : Int32)) hx hb dX7_film_80 rfl ?_
      refine lv_iload_n hx hb dX7_film_82 rfl (lv_at hl 1 rfl) ?_
      refine lv_imul hx hb dX7_film_83 ?_
      refine lv_iload hx hb dX7_film_84 (lv_at hl 3 rfl) ?_
      refine lv_iadd hx hb dX7_film_86 ?_
      refine lv_aload_n hx hb dX7_film_87 rfl (lv_at hl 0 rfl) ?_
      refine r_get C B fo_X7_45 (cM_0 G s0) rfl dX7_film_88 ?_
      refine lv_iload_n hx hb dX7_film_91 rfl (lv_at hl 2 rfl) ?_
      refine lv_iload hx hb dX7_film_92 (lv_at hl 3 rfl) ?_
      refine lv_iadd hx hb dX7_film_94 ?_
      obtain ⟨q24, h⟩ := gd_o h
      refine r_iald C B (cM_11 G s0) (inb_vp q24) dX7_film_95 ?_
      obtain ⟨q25, h⟩ := gd_o h
      obtain ⟨s26, q27, h⟩ := nm_o h
      refine r_iast C B (cM_5 G s0) (inb_vp q25) ((uMa_4 G s0 _).trans (congrArg (wM G) q27.symm)) dX7_film_96 (fun H locs B => ?_)
      obtain ⟨v5_28, q29, h⟩ := nm_o h
      refine lv_iinc (v := v5_28) (lv' := [(5, .int v5_28), (0, .ref (gad G 0)), (1, .int v1), (3, .int v3)]) hx hb dX7_film_97 hl (k := 3) rfl q29.symm (by decide) rfl (fun ls hl => ?_)
      refine lv_goto (tgt := 65) hx hb dX7_film_100 (by decide) ?_
      exact ih v5_28 s26 e1 h hk H locs ls B (lv_sub hl [1, 2, 3, 0] rfl)
set_option maxRecDepth 100000 in
set_option maxHeartbeats 4000000 in
theorem c_X7_film (G : GT) (n : Nat) (s0 : ST) (v1 : Int32) (v2 : Int32) (v3 : Int32) (v4 : Int32) (r : Int32) (s' : ST) (h : X7_film n s0 v1 v2 v3 v4 = some (r, s')) : Con G yX7_film cX7_film 6 (some .int) rm_X7_film [.ref (gad G 0), .int v1, .int v2, .int v3, .int v4] (wM G s0) (some (.int r)) (wM G s') := by
  unfold X7_film at h
  refine con_of (by decide +kernel) (Nat.le_of_ble_eq_true rfl) (fun {p e s m below meth c} C hr {H locs ls} B hl => ?_)
  have hx := C.1
  have hb := C.2.1
  have hl : lv_has ls 6 [(0, .ref (gad G 0)), (1, .int v1), (2, .int v2), (3, .int v3), (4, .int v4)] := hl
  refine lv_iload_n hx hb dX7_film_0 rfl (lv_at hl 1 rfl) ?_
  obtain ⟨r1, q2, h⟩ := bd_o h
  refine r_callSi (rest := []) C B.2.2 hl (c_X7_isRow G v1 r1 q2) cs_X7_166 rfl rfl (Nat.le_of_ble_eq_true rfl) ⟨rfl, rfl, Nat.le_of_ble_eq_true rfl, Nat.le_of_ble_eq_true rfl⟩ dX7_film_1 ?_
  refine lv_if_eq (tgt := 14) hx hb dX7_film_4 (by decide) (fun q3 => ?_) (fun q3 => ?_)
  · have h := ip h q3
    refine lv_iconst (v := (-1 : Int32)) hx hb dX7_film_14 rfl ?_
    obtain ⟨rfl, rfl⟩ := ret2 h
    exact r_iret C B hr rfl dX7_film_15
  · have h := ig h q3
    refine lv_iload_n hx hb dX7_film_7 rfl (lv_at hl 2 rfl) ?_
    obtain ⟨r4, q5, h⟩ := bd_o h
    refine r_callSi (rest := []) C B.2.2 hl (c_X7_isSide G v2 r4 q5) cs_X7_131 rfl rfl (Nat.le_of_ble_eq_true rfl) ⟨rfl, rfl, Nat.le_of_ble_eq_true rfl, Nat.le_of_ble_eq_true rfl⟩ dX7_film_8 ?_
    refine lv_if_ne (tgt := 16) hx hb dX7_film_11 (by decide) (fun q6 => ?_) (fun q6 => ?_)
    · have h := ig h q6
      refine lv_aload_n hx hb dX7_film_16 rfl (lv_at hl 0 rfl) ?_
      refine lv_iload_n hx hb dX7_film_17 rfl (lv_at hl 3 rfl) ?_
      obtain ⟨r8, q7, h⟩ := bd_o h
      refine r_callVi (rest := []) C B hl (c_X7_isSet G s0 v3 r8 q7) cs_X7_122 (cM_0 G s0) rfl rfl rfl (Nat.le_of_ble_eq_true rfl) ⟨rfl, rfl, Nat.le_of_ble_eq_true rfl, Nat.le_of_ble_eq_true rfl⟩ dX7_film_18 (fun H locs B => ?_)
      refine lv_if_eq (tgt := 35) hx hb dX7_film_21 (by decide) (fun q9 => ?_) (fun q9 => ?_)
      · have h := ip h q9
        refine lv_bipush (v := (-2 : Int32)) hx hb dX7_film_35 rfl ?_
        obtain ⟨rfl, rfl⟩ := ret2 h
        exact r_iret C B hr rfl dX7_film_37
      · have h := ig h q9
        refine lv_iload hx hb dX7_film_24 (lv_at hl 4 rfl) ?_
        refine lv_iconst (v := (0 : Int32)) hx hb dX7_film_26 rfl ?_
        refine lv_bipush (v := (40 : Int32)) hx hb dX7_film_27 rfl ?_
        obtain ⟨r10, q11, h⟩ := bd_o h
        refine r_callSi (rest := []) C B.2.2 hl (c_X7_in G v4 (0 : Int32) (40 : Int32) r10 q11) cs_X7_63 rfl rfl (Nat.le_of_ble_eq_true rfl) ⟨rfl, rfl, Nat.le_of_ble_eq_true rfl, Nat.le_of_ble_eq_true rfl⟩ dX7_film_29 ?_
        refine lv_if_ne (tgt := 38) hx hb dX7_film_32 (by decide) (fun q12 => ?_) (fun q12 => ?_)
        · have h := ig h q12
          refine lv_aload_n hx hb dX7_film_38 rfl (lv_at hl 0 rfl) ?_
          refine lv_iload_n hx hb dX7_film_39 rfl (lv_at hl 2 rfl) ?_
          obtain ⟨s14, q13, h⟩ := bd_o h
          refine r_callVv (rest := []) C B hl (c_X7_lay G n s0 v2 s14 q13) cs_X7_134 (cM_0 G s0) rfl rfl rfl (Nat.le_of_ble_eq_true rfl) ⟨rfl, rfl, Nat.le_of_ble_eq_true rfl, Nat.le_of_ble_eq_true rfl⟩ dX7_film_40 (fun H locs B => ?_)
          refine lv_aload_n hx hb dX7_film_43 rfl (lv_at hl 0 rfl) ?_
          refine r_get C B fo_X7_23 (cM_0 G s14) rfl dX7_film_44 ?_
          refine lv_iload_n hx hb dX7_film_47 rfl (lv_at hl 1 rfl) ?_
          refine lv_iload hx hb dX7_film_48 (lv_at hl 4 rfl) ?_
          refine lv_aload_n hx hb dX7_film_50 rfl (lv_at hl 0 rfl) ?_
          obtain ⟨r16, q15, h⟩ := bd_o h
          refine r_callVi (rest := [.int v4, .int v1, .ref (gad G 4)]) C B hl (c_X7_all G s14 r16 q15) cs_X7_67 (cM_0 G s14) rfl rfl rfl (Nat.le_of_ble_eq_true rfl) ⟨rfl, rfl, Nat.le_of_ble_eq_true rfl, Nat.le_of_ble_eq_true rfl⟩ dX7_film_51 (fun H locs B => ?_)
          refine lv_iload_n hx hb dX7_film_54 rfl (lv_at hl 3 rfl) ?_
          refine lv_isub hx hb dX7_film_55 ?_
          refine lv_iconst (v := (1 : Int32)) hx hb dX7_film_56 rfl ?_
          refine lv_iadd hx hb dX7_film_57 ?_
          obtain ⟨r17, q18, h⟩ := nm_o h
          refine va_mmin hx hb (C.2.2.1.trans hl.1.symm) C.2.2.2.1 (C.2.2.2.2.1 _ wm_1197) (C.2.2.2.2.1 _ wm_657) (C.2.2.2.2.1 _ wm_70) (C.2.2.2.2.1 _ wm_658) (Nat.le_of_ble_eq_true rfl) (Nat.le_of_ble_eq_true rfl) (Nat.zero_le _) (Nat.zero_le _) dX7_film_58 ?_
          refine r_nm q18 ?_
          obtain ⟨q19, h⟩ := gd_o h
          obtain ⟨s20, q21, h⟩ := nm_o h
          refine r_iast C B (cM_4 G s14) (inb_vp q19) ((uMa_3 G s14 _).trans (congrArg (wM G) q21.symm)) dX7_film_61 (fun H locs B => ?_)
          refine lv_iconst (v := (0 : Int32)) hx hb dX7_film_62 rfl ?_
          refine lv_istore (lv' := [(5, .int (0 : Int32)), (0, .ref (gad G 0)), (1, .int v1), (2, .int v2), (3, .int v3), (4, .int v4)]) hx hb dX7_film_63 hl (by decide) rfl (fun ls hl => ?_)
          obtain ⟨e30, q31, h⟩ := bd_o h
          refine l_X7_film_L1 C hr v1 v3 n (0 : Int32) s20 e30 q31 ?_ H locs ls B (lv_sub hl [1, 2, 4, 0] rfl)
          intro H locs ls B hl
          refine lv_aload_n hx hb dX7_film_103 rfl (lv_at hl 0 rfl) ?_
          refine r_get C B fo_X7_23 (cM_0 G e30) rfl dX7_film_104 ?_
          refine lv_iload_n hx hb dX7_film_107 rfl (lv_at hl 1 rfl) ?_
          obtain ⟨q32, h⟩ := gd_o h
          refine r_iald C B (cM_4 G e30) (inb_vp q32) dX7_film_108 ?_
          obtain ⟨rfl, rfl⟩ := ret2 h
          exact r_iret C B hr rfl dX7_film_109
        · have h := ip h q12
          refine lv_bipush (v := (-2 : Int32)) hx hb dX7_film_35 rfl ?_
          obtain ⟨rfl, rfl⟩ := ret2 h
          exact r_iret C B hr rfl dX7_film_37
    · have h := ip h q6
      refine lv_iconst (v := (-1 : Int32)) hx hb dX7_film_14 rfl ?_
      obtain ⟨rfl, rfl⟩ := ret2 h
      exact r_iret C B hr rfl dX7_film_15
def rm_X7_judge : Room := { frames := 5, cells := 0, slots := 0, locals := 112 }
set_option maxRecDepth 100000 in
set_option maxHeartbeats 4000000 in
theorem l_X7_judge_L1 {G : GT} {p : Program} {e : Env} {s : State} {m : MethodId} {args : Array Value} {below : List Frame} {meth : Method} {c : Code} {Q : State → Prop} (C : CT G p s m meth c args cX7_judge 5 RX7) (hr : meth.sig.returnType = (some .int)) (s0 : ST) (v1 : Int32) (v3 : Int32) : ∀ (k : Nat) (v4 : Int32) (e1 : (Int32 × ST) ⊕ (Unit)), X7_judge_L1 s0 v1 v3 k v4 = some e1 → (∀ rv, e1 = Sum.inl rv → Q = QR G below args s (some (.int rv.1)) (wM G rv.2)) → (∀ ex, e1 = Sum.inr ex → Kn G p e rm_X7_judge s m args below meth c Q 5 102 [(0, .ref (gad G 0)), (1, .int v1)] (wM G s0)) → Kn G p e rm_X7_judge s m args below meth c Q 5 47 [(0, .ref (gad G 0)), (1, .int v1), (3, .int v3), (4, .int v4)] (wM G s0) := by
  have hx := C.1
  have hb := C.2.1
  intro k
  induction k with
  | zero =>
    intro v4 e1 h
    exact nso h
  | succ k ih =>
    intro v4 e1 h hret hk H locs ls B hl
    have h : X7_judge_L1_b s0 v1 v3 (X7_judge_L1 s0 v1 v3 k) v4 = some e1 := h
    unfold X7_judge_L1_b at h
    refine lv_iload hx hb dX7_judge_47 (lv_at hl 3 rfl) ?_
    refine lv_aload_n hx hb dX7_judge_49 rfl (lv_at hl 0 rfl) ?_
    refine r_get C B fo_X7_23 (cM_0 G s0) rfl dX7_judge_50 ?_
    refine lv_iload_n hx hb dX7_judge_53 rfl (lv_at hl 1 rfl) ?_
    obtain ⟨q14, h⟩ := gd_o h
    refine r_iald C B (cM_4 G s0) (inb_vp q14) dX7_judge_54 ?_
    refine lv_icmp_ge (tgt := 102) hx hb dX7_judge_55 (by decide) (fun q15 => ?_) (fun q15 => ?_)
    · have h := ip h q15
      obtain rfl := ret1 h
      exact hk _ rfl H locs ls B (lv_sub hl [0, 1] rfl)
    · have h := ig h q15
      refine lv_iload_n hx hb dX7_judge_58 rfl (lv_at hl 2 rfl) ?_
      refine lv_iload hx hb dX7_judge_59 (lv_at hl 3 rfl) ?_
      refine lv_iadd hx hb dX7_judge_61 ?_
      refine lv_aload_n hx hb dX7_judge_62 rfl (lv_at hl 0 rfl) ?_
      obtain ⟨r17, q16, h⟩ := bd_o h
      refine r_callVi (rest := [.int (v3 + v4)]) C B hl (c_X7_all G s0 r17 q16) cs_X7_67 (cM_0 G s0) rfl rfl rfl (Nat.le_of_ble_eq_true rfl) ⟨rfl, rfl, Nat.le_of_ble_eq_true rfl, Nat.le_of_ble_eq_true rfl⟩ dX7_judge_63 (fun H locs B => ?_)
      refine lv_icmp_gt (tgt := 93) hx hb dX7_judge_66 (by decide) (fun q18 => ?_) (fun q18 => ?_)
      · have h := ip h q18
        refine lv_iload hx hb dX7_judge_93 (lv_at hl 3 rfl) ?_
        obtain rfl := ret1 h
        rw [hret _ rfl]
        exact r_iret C B hr rfl dX7_judge_95
      · have h := ig h q18
        refine lv_aload_n hx hb dX7_judge_69 rfl (lv_at hl 0 rfl) ?_
        refine r_get C B fo_X7_26 (cM_0 G s0) rfl dX7_judge_70 ?_
        refine lv_bipush (v := (40 : Int32)) hx hb dX7_judge_73 rfl ?_
        refine lv_iload_n hx hb dX7_judge_75 rfl (lv_at hl 1 rfl) ?_
        refine lv_imul hx hb dX7_judge_76 ?_
        refine lv_iload hx hb dX7_judge_77 (lv_at hl 3 rfl) ?_
        refine lv_iadd hx hb dX7_judge_79 ?_
        obtain ⟨q19, h⟩ := gd_o h
        refine r_iald C B (cM_5 G s0) (inb_vp q19) dX7_judge_80 ?_
        refine lv_aload_n hx hb dX7_judge_81 rfl (lv_at hl 0 rfl) ?_
        refine r_get C B fo_X7_45 (cM_0 G s0) rfl dX7_judge_82 ?_
        refine lv_iload_n hx hb dX7_judge_85 rfl (lv_at hl 2 rfl) ?_
        refine lv_iload hx hb dX7_judge_86 (lv_at hl 3 rfl) ?_
        refine lv_iadd hx hb dX7_judge_88 ?_
        obtain ⟨q20, h⟩ := gd_o h
        refine r_iald C B (cM_11 G s0) (inb_vp q20) dX7_judge_89 ?_
        refine lv_icmp_eq (tgt := 96) hx hb dX7_judge_90 (by decide) (fun q21 => ?_) (fun q21 => ?_)
        · have h := ip h q21
          obtain ⟨v4_22, q23, h⟩ := nm_o h
          refine lv_iinc (v := v4_22) (lv' := [(4, .int v4_22), (0, .ref (gad G 0)), (1, .int v1), (3, .int v3)]) hx hb dX7_judge_96 hl (k := 3) rfl q23.symm (by decide) rfl (fun ls hl => ?_)
          refine lv_goto (tgt := 47) hx hb dX7_judge_99 (by decide) ?_
          exact ih v4_22 e1 h hret hk H locs ls B (lv_sub hl [1, 2, 3, 0] rfl)
        · have h := ig h q21
          refine lv_iload hx hb dX7_judge_93 (lv_at hl 3 rfl) ?_
          obtain rfl := ret1 h
          rw [hret _ rfl]
          exact r_iret C B hr rfl dX7_judge_95
set_option maxRecDepth 100000 in
set_option maxHeartbeats 4000000 in
theorem c_X7_judge (G : GT) (n : Nat) (s0 : ST) (v1 : Int32) (v2 : Int32) (v3 : Int32) (r : Int32) (s' : ST) (h : X7_judge n s0 v1 v2 v3 = some (r, s')) : Con G yX7_judge cX7_judge 5 (some .int) rm_X7_judge [.ref (gad G 0), .int v1, .int v2, .int v3] (wM G s0) (some (.int r)) (wM G s') := by
  unfold X7_judge at h
  refine con_of (by decide +kernel) (Nat.le_of_ble_eq_true rfl) (fun {p e s m below meth c} C hr {H locs ls} B hl => ?_)
  have hx := C.1
  have hb := C.2.1
  have hl : lv_has ls 5 [(0, .ref (gad G 0)), (1, .int v1), (2, .int v2), (3, .int v3)] := hl
  refine lv_iload_n hx hb dX7_judge_0 rfl (lv_at hl 1 rfl) ?_
  obtain ⟨r1, q2, h⟩ := bd_o h
  refine r_callSi (rest := []) C B.2.2 hl (c_X7_isRow G v1 r1 q2) cs_X7_166 rfl rfl (Nat.le_of_ble_eq_true rfl) ⟨rfl, rfl, Nat.le_of_ble_eq_true rfl, Nat.le_of_ble_eq_true rfl⟩ dX7_judge_1 ?_
  refine lv_if_eq (tgt := 14) hx hb dX7_judge_4 (by decide) (fun q3 => ?_) (fun q3 => ?_)
  · have h := ip h q3
    refine lv_iconst (v := (-1 : Int32)) hx hb dX7_judge_14 rfl ?_
    obtain ⟨rfl, rfl⟩ := ret2 h
    exact r_iret C B hr rfl dX7_judge_15
  · have h := ig h q3
    refine lv_iload_n hx hb dX7_judge_7 rfl (lv_at hl 2 rfl) ?_
    obtain ⟨r4, q5, h⟩ := bd_o h
    refine r_callSi (rest := []) C B.2.2 hl (c_X7_isSide G v2 r4 q5) cs_X7_131 rfl rfl (Nat.le_of_ble_eq_true rfl) ⟨rfl, rfl, Nat.le_of_ble_eq_true rfl, Nat.le_of_ble_eq_true rfl⟩ dX7_judge_8 ?_
    refine lv_if_ne (tgt := 16) hx hb dX7_judge_11 (by decide) (fun q6 => ?_) (fun q6 => ?_)
    · have h := ig h q6
      refine lv_aload_n hx hb dX7_judge_16 rfl (lv_at hl 0 rfl) ?_
      refine lv_iload_n hx hb dX7_judge_17 rfl (lv_at hl 3 rfl) ?_
      obtain ⟨r8, q7, h⟩ := bd_o h
      refine r_callVi (rest := []) C B hl (c_X7_isSet G s0 v3 r8 q7) cs_X7_122 (cM_0 G s0) rfl rfl rfl (Nat.le_of_ble_eq_true rfl) ⟨rfl, rfl, Nat.le_of_ble_eq_true rfl, Nat.le_of_ble_eq_true rfl⟩ dX7_judge_18 (fun H locs B => ?_)
      refine lv_if_ne (tgt := 27) hx hb dX7_judge_21 (by decide) (fun q9 => ?_) (fun q9 => ?_)
      · have h := ig h q9
        refine lv_aload_n hx hb dX7_judge_27 rfl (lv_at hl 0 rfl) ?_
        refine r_get C B fo_X7_23 (cM_0 G s0) rfl dX7_judge_28 ?_
        refine lv_iload_n hx hb dX7_judge_31 rfl (lv_at hl 1 rfl) ?_
        obtain ⟨q10, h⟩ := gd_o h
        refine r_iald C B (cM_4 G s0) (inb_vp q10) dX7_judge_32 ?_
        refine lv_if_ge (tgt := 39) hx hb dX7_judge_33 (by decide) (fun q11 => ?_) (fun q11 => ?_)
        · have h := ip h q11
          refine lv_aload_n hx hb dX7_judge_39 rfl (lv_at hl 0 rfl) ?_
          refine lv_iload_n hx hb dX7_judge_40 rfl (lv_at hl 2 rfl) ?_
          obtain ⟨s13, q12, h⟩ := bd_o h
          refine r_callVv (rest := []) C B hl (c_X7_lay G n s0 v2 s13 q12) cs_X7_134 (cM_0 G s0) rfl rfl rfl (Nat.le_of_ble_eq_true rfl) ⟨rfl, rfl, Nat.le_of_ble_eq_true rfl, Nat.le_of_ble_eq_true rfl⟩ dX7_judge_41 (fun H locs B => ?_)
          refine lv_iconst (v := (0 : Int32)) hx hb dX7_judge_44 rfl ?_
          refine lv_istore (lv' := [(4, .int (0 : Int32)), (0, .ref (gad G 0)), (1, .int v1), (2, .int v2), (3, .int v3)]) hx hb dX7_judge_45 hl (by decide) rfl (fun ls hl => ?_)
          obtain ⟨e24, q25, h⟩ := bd_o h
          refine l_X7_judge_L1 C hr s13 v1 v3 n (0 : Int32) e24 q25 (fun rv q => by have h := sm_l h q; cases h; rfl) (fun e26 q27 => ?_) H locs ls B (lv_sub hl [1, 2, 4, 0] rfl)
          have h := sm_r h q27
          intro H locs ls B hl
          refine lv_bipush (v := (100 : Int32)) hx hb dX7_judge_102 rfl ?_
          refine lv_aload_n hx hb dX7_judge_104 rfl (lv_at hl 0 rfl) ?_
          refine r_get C B fo_X7_23 (cM_0 G s13) rfl dX7_judge_105 ?_
          refine lv_iload_n hx hb dX7_judge_108 rfl (lv_at hl 1 rfl) ?_
          obtain ⟨q28, h⟩ := gd_o h
          refine r_iald C B (cM_4 G s13) (inb_vp q28) dX7_judge_109 ?_
          refine lv_iadd hx hb dX7_judge_110 ?_
          obtain ⟨rfl, rfl⟩ := ret2 h
          exact r_iret C B hr rfl dX7_judge_111
        · have h := ig h q11
          refine lv_bipush (v := (-11 : Int32)) hx hb dX7_judge_36 rfl ?_
          obtain ⟨rfl, rfl⟩ := ret2 h
          exact r_iret C B hr rfl dX7_judge_38
      · have h := ip h q9
        refine lv_bipush (v := (-2 : Int32)) hx hb dX7_judge_24 rfl ?_
        obtain ⟨rfl, rfl⟩ := ret2 h
        exact r_iret C B hr rfl dX7_judge_26
    · have h := ip h q6
      refine lv_iconst (v := (-1 : Int32)) hx hb dX7_judge_14 rfl ?_
      obtain ⟨rfl, rfl⟩ := ret2 h
      exact r_iret C B hr rfl dX7_judge_15
def rm_X7_feed : Room := { frames := 1, cells := 0, slots := 0, locals := 22 }
set_option maxRecDepth 100000 in
set_option maxHeartbeats 4000000 in
theorem c_X7_feed (G : GT) (s0 : ST) (v1 : Int32) (r : Int32) (s' : ST) (h : X7_feed s0 v1 = some (r, s')) : Con G yX7_feed cX7_feed 2 (some .int) rm_X7_feed [.ref (gad G 0), .int v1] (wM G s0) (some (.int r)) (wM G s') := by
  unfold X7_feed at h
  refine con_of (by decide +kernel) (Nat.le_of_ble_eq_true rfl) (fun {p e s m below meth c} C hr {H locs ls} B hl => ?_)
  have hx := C.1
  have hb := C.2.1
  have hl : lv_has ls 2 [(0, .ref (gad G 0)), (1, .int v1)] := hl
  refine lv_iload_n hx hb dX7_feed_0 rfl (lv_at hl 1 rfl) ?_
  refine lv_bipush (v := (32 : Int32)) hx hb dX7_feed_1 rfl ?_
  refine lv_bipush (v := (126 : Int32)) hx hb dX7_feed_3 rfl ?_
  obtain ⟨r1, q2, h⟩ := bd_o h
  refine r_callSi (rest := []) C B.2.2 hl (c_X7_in G v1 (32 : Int32) (126 : Int32) r1 q2) cs_X7_63 rfl rfl (Nat.le_of_ble_eq_true rfl) ⟨rfl, rfl, Nat.le_of_ble_eq_true rfl, Nat.le_of_ble_eq_true rfl⟩ dX7_feed_5 ?_
  refine lv_if_ne (tgt := 14) hx hb dX7_feed_8 (by decide) (fun q3 => ?_) (fun q3 => ?_)
  · have h := ig h q3
    refine lv_aload_n hx hb dX7_feed_14 rfl (lv_at hl 0 rfl) ?_
    refine r_get C B fo_X7_176 (cM_0 G s0) rfl dX7_feed_15 ?_
    refine lv_bipush (v := (120 : Int32)) hx hb dX7_feed_18 rfl ?_
    refine lv_icmp_ne (tgt := 26) hx hb dX7_feed_20 (by decide) (fun q4 => ?_) (fun q4 => ?_)
    · have h := ig h q4
      refine lv_aload_n hx hb dX7_feed_26 rfl (lv_at hl 0 rfl) ?_
      refine r_get C B fo_X7_32 (cM_0 G s0) rfl dX7_feed_27 ?_
      refine lv_aload_n hx hb dX7_feed_30 rfl (lv_at hl 0 rfl) ?_
      refine r_get C B fo_X7_176 (cM_0 G s0) rfl dX7_feed_31 ?_
      refine lv_iload_n hx hb dX7_feed_34 rfl (lv_at hl 1 rfl) ?_
      obtain ⟨q5, h⟩ := gd_o h
      obtain ⟨s6, q7, h⟩ := nm_o h
      refine r_iast C B (cM_7 G s0) (inb_vp q5) ((uMa_6 G s0 _).trans (congrArg (wM G) q7.symm)) dX7_feed_35 (fun H locs B => ?_)
      refine lv_aload_n hx hb dX7_feed_36 rfl (lv_at hl 0 rfl) ?_
      refine lv_dup hx hb dX7_feed_37 rfl ?_
      refine r_get C B fo_X7_176 (cM_0 G s6) rfl dX7_feed_38 ?_
      refine lv_iconst (v := (1 : Int32)) hx hb dX7_feed_41 rfl ?_
      refine lv_iadd hx hb dX7_feed_42 ?_
      obtain ⟨s8, q9, h⟩ := nm_o h
      refine r_put C B fp_X7_176 (cM_0 G s6) (Nat.le_of_ble_eq_true rfl) rfl rfl ((uMs_3 G s6 _).trans (congrArg (wM G) q9.symm)) dX7_feed_43 (fun H locs B => ?_)
      refine lv_aload_n hx hb dX7_feed_46 rfl (lv_at hl 0 rfl) ?_
      refine r_get C B fo_X7_176 (cM_0 G s8) rfl dX7_feed_47 ?_
      obtain ⟨rfl, rfl⟩ := ret2 h
      exact r_iret C B hr rfl dX7_feed_50
    · have h := ip h q4
      refine lv_bipush (v := (-4 : Int32)) hx hb dX7_feed_23 rfl ?_
      obtain ⟨rfl, rfl⟩ := ret2 h
      exact r_iret C B hr rfl dX7_feed_25
  · have h := ip h q3
    refine lv_bipush (v := (-2 : Int32)) hx hb dX7_feed_11 rfl ?_
    obtain ⟨rfl, rfl⟩ := ret2 h
    exact r_iret C B hr rfl dX7_feed_13
def rm_X7_wipe : Room := { frames := 0, cells := 0, slots := 0, locals := 0 }
set_option maxRecDepth 100000 in
set_option maxHeartbeats 4000000 in
theorem c_X7_wipe (G : GT) (s0 : ST)  (r : Int32) (s' : ST) (h : X7_wipe s0  = some (r, s')) : Con G yX7_wipe cX7_wipe 2 (some .int) rm_X7_wipe [.ref (gad G 0)] (wM G s0) (some (.int r)) (wM G s') := by
  unfold X7_wipe at h
  refine con_of (by decide +kernel) (Nat.le_of_ble_eq_true rfl) (fun {p e s m below meth c} C hr {H locs ls} B hl => ?_)
  have hx := C.1
  have hb := C.2.1
  have hl : lv_has ls 2 [(0, .ref (gad G 0))] := hl
  refine lv_aload_n hx hb dX7_wipe_0 rfl (lv_at hl 0 rfl) ?_
  refine r_get C B fo_X7_176 (cM_0 G s0) rfl dX7_wipe_1 ?_
  obtain ⟨v1_1, q2, h⟩ := nm_o h
  refine r_nm q2 ?_
  refine lv_istore_n (lv' := [(1, .int v1_1), (0, .ref (gad G 0))]) hx hb dX7_wipe_4 rfl hl (by decide) rfl (fun ls hl => ?_)
  refine lv_aload_n hx hb dX7_wipe_5 rfl (lv_at hl 1 rfl) ?_
  refine lv_iconst (v := (0 : Int32)) hx hb dX7_wipe_6 rfl ?_
  obtain ⟨s3, q4, h⟩ := nm_o h
  refine r_put C B fp_X7_176 (cM_0 G s0) (Nat.le_of_ble_eq_true rfl) rfl rfl ((uMs_3 G s0 _).trans (congrArg (wM G) q4.symm)) dX7_wipe_7 (fun H locs B => ?_)
  refine lv_iload_n hx hb dX7_wipe_10 rfl (lv_at hl 0 rfl) ?_
  obtain ⟨rfl, rfl⟩ := ret2 h
  exact r_iret C B hr rfl dX7_wipe_11
def rm_X7_wordOf : Room := { frames := 0, cells := 0, slots := 0, locals := 0 }
set_option maxRecDepth 100000 in
set_option maxHeartbeats 4000000 in
theorem c_X7_wordOf (G : GT) (v0 : Int32) (r : Nat) (h : X7_wordOf v0 = some r) : ConP G yX7_wordOf cX7_wordOf 1 (some (.object "java/lang/String")) rm_X7_wordOf [.int v0] (some (.ref (gK G r))) := by
  unfold X7_wordOf at h
  refine conP_of (by decide +kernel) (Nat.le_of_ble_eq_true rfl) (fun {p e s m below meth c} C hr {ls} hl => ?_)
  have hx := C.1
  have hb := C.2.1
  have hl : lv_has ls 1 [(0, .int v0)] := hl
  refine lv_iload_n hx hb dX7_wordOf_0 rfl (lv_at hl 0 rfl) ?_
  by_cases q1 : v0 = (0 : Int32)
  · have h := ip h q1
    refine r_tab (off := 35) (tgt := 36) C q1 dX7_wordOf_1 (by decide) (by decide) ?_
    refine r_ldcs (k := 0) (tx := "posts") C (by decide +kernel) dX7_wordOf_36 ?_
    obtain rfl := ret1 h
    exact r_aretP C hr dX7_wordOf_38
  · have h := ig h q1
    by_cases q2 : v0 = (1 : Int32)
    · have h := ip h q2
      refine r_tab (off := 38) (tgt := 39) C q2 dX7_wordOf_1 (by decide) (by decide) ?_
      refine r_ldcs (k := 1) (tx := "road") C (by decide +kernel) dX7_wordOf_39 ?_
      obtain rfl := ret1 h
      exact r_aretP C hr dX7_wordOf_41
    · have h := ig h q2
      by_cases q3 : v0 = (2 : Int32)
      · have h := ip h q3
        refine r_tab (off := 41) (tgt := 42) C q3 dX7_wordOf_1 (by decide) (by decide) ?_
        refine r_ldcs (k := 2) (tx := "block") C (by decide +kernel) dX7_wordOf_42 ?_
        obtain rfl := ret1 h
        exact r_aretP C hr dX7_wordOf_44
      · have h := ig h q3
        by_cases q4 : v0 = (3 : Int32)
        · have h := ip h q4
          refine r_tab (off := 44) (tgt := 45) C q4 dX7_wordOf_1 (by decide) (by decide) ?_
          refine r_ldcs (k := 3) (tx := "to") C (by decide +kernel) dX7_wordOf_45 ?_
          obtain rfl := ret1 h
          exact r_aretP C hr dX7_wordOf_47
        · have h := ig h q4
          by_cases q5 : v0 = (4 : Int32)
          · have h := ip h q5
            refine r_tab (off := 47) (tgt := 48) C q5 dX7_wordOf_1 (by decide) (by decide) ?_
            refine r_ldcs (k := 4) (tx := "set") C (by decide +kernel) dX7_wordOf_48 ?_
            obtain rfl := ret1 h
            exact r_aretP C hr dX7_wordOf_50
          · have h := ig h q5
            refine lv_tableOut (tgt := 51) hx hb dX7_wordOf_1 (r_span (fun k h1 h2 => by have e : k = 0 ∨ k = 1 ∨ k = 2 ∨ k = 3 ∨ k = 4 := (by omega); rcases e with rfl | rfl | rfl | rfl | rfl; exact ne_toInt q1; exact ne_toInt q2; exact ne_toInt q3; exact ne_toInt q4; exact ne_toInt q5)) (by decide) ?_
            refine r_ldcs (k := 5) (tx := "weigh") C (by decide +kernel) dX7_wordOf_51 ?_
            obtain rfl := ret1 h
            exact r_aretP C hr dX7_wordOf_53
def rm_X7_isWordFrom : Room := { frames := 4, cells := 0, slots := 0, locals := 85 }
set_option maxRecDepth 100000 in
set_option maxHeartbeats 4000000 in
theorem l_X7_isWordFrom_L1 {G : GT} {p : Program} {e : Env} {s : State} {m : MethodId} {args : Array Value} {below : List Frame} {meth : Method} {c : Code} {Q : State → Prop} (C : CT G p s m meth c args cX7_isWordFrom 4 RX7) (hr : meth.sig.returnType = (some .boolean)) (s0 : ST) (v1 : Int32) (v2 : Nat) : ∀ (k : Nat) (v3 : Int32) (e1 : (Int32) ⊕ (Unit)), X7_isWordFrom_L1 s0 v1 v2 k v3 = some e1 → (∀ rv, e1 = Sum.inl rv → Q = QR G below args s (some (.int rv)) (wM G s0)) → (∀ ex, e1 = Sum.inr ex → Kn G p e rm_X7_isWordFrom s m args below meth c Q 4 49 [] (wM G s0)) → Kn G p e rm_X7_isWordFrom s m args below meth c Q 4 17 [(0, .ref (gad G 0)), (1, .int v1), (2, .ref (gK G v2)), (3, .int v3)] (wM G s0) := by
  have hx := C.1
  have hb := C.2.1
  intro k
  induction k with
  | zero =>
    intro v3 e1 h
    exact nso h
  | succ k ih =>
    intro v3 e1 h hret hk H locs ls B hl
    have h : X7_isWordFrom_L1_b s0 v1 v2 (X7_isWordFrom_L1 s0 v1 v2 k) v3 = some e1 := h
    unfold X7_isWordFrom_L1_b at h
    refine lv_iload_n hx hb dX7_isWordFrom_17 rfl (lv_at hl 3 rfl) ?_
    refine lv_aload_n hx hb dX7_isWordFrom_18 rfl (lv_at hl 2 rfl) ?_
    obtain ⟨r4, q5, h⟩ := bd_o h
    refine r_callTi (rest := [.int v3]) C B.2.2 hl (txok_length q5) rfl (c_Tlength G v2 r4 q5) cs_X7_193 rfl rfl (Nat.le_of_ble_eq_true rfl) ⟨rfl, rfl, Nat.le_of_ble_eq_true rfl, Nat.le_of_ble_eq_true rfl⟩ dX7_isWordFrom_19 ?_
    refine lv_icmp_ge (tgt := 49) hx hb dX7_isWordFrom_22 (by decide) (fun q6 => ?_) (fun q6 => ?_)
    · have h := ip h q6
      obtain rfl := ret1 h
      exact hk _ rfl H locs ls B (lv_sub hl [] rfl)
    · have h := ig h q6
      refine lv_aload_n hx hb dX7_isWordFrom_25 rfl (lv_at hl 0 rfl) ?_
      refine r_get C B fo_X7_32 (cM_0 G s0) rfl dX7_isWordFrom_26 ?_
      refine lv_iload_n hx hb dX7_isWordFrom_29 rfl (lv_at hl 1 rfl) ?_
      refine lv_iload_n hx hb dX7_isWordFrom_30 rfl (lv_at hl 3 rfl) ?_
      refine lv_iadd hx hb dX7_isWordFrom_31 ?_
      obtain ⟨q7, h⟩ := gd_o h
      refine r_iald C B (cM_7 G s0) (inb_vp q7) dX7_isWordFrom_32 ?_
      refine lv_aload_n hx hb dX7_isWordFrom_33 rfl (lv_at hl 2 rfl) ?_
      refine lv_iload_n hx hb dX7_isWordFrom_34 rfl (lv_at hl 3 rfl) ?_
      obtain ⟨r8, q9, h⟩ := bd_o h
      refine r_callTi (rest := [.int (s0.2.1 6 ((v1 + v3)).toNatClampNeg)]) C B.2.2 hl (txok_charAt q9) rfl (c_TcharAt G v2 v3 r8 q9) cs_X7_198 rfl rfl (Nat.le_of_ble_eq_true rfl) ⟨rfl, rfl, Nat.le_of_ble_eq_true rfl, Nat.le_of_ble_eq_true rfl⟩ dX7_isWordFrom_35 ?_
      refine lv_icmp_eq (tgt := 43) hx hb dX7_isWordFrom_38 (by decide) (fun q10 => ?_) (fun q10 => ?_)
      · have h := ip h q10
        obtain ⟨v3_11, q12, h⟩ := nm_o h
        refine lv_iinc (v := v3_11) (lv' := [(3, .int v3_11), (0, .ref (gad G 0)), (1, .int v1), (2, .ref (gK G v2))]) hx hb dX7_isWordFrom_43 hl (k := 3) rfl q12.symm (by decide) rfl (fun ls hl => ?_)
        refine lv_goto (tgt := 17) hx hb dX7_isWordFrom_46 (by decide) ?_
        exact ih v3_11 e1 h hret hk H locs ls B (lv_sub hl [1, 2, 3, 0] rfl)
      · have h := ig h q10
        refine lv_iconst (v := (0 : Int32)) hx hb dX7_isWordFrom_41 rfl ?_
        obtain rfl := ret1 h
        rw [hret _ rfl]
        exact r_iret C B hr nar_0 dX7_isWordFrom_42
set_option maxRecDepth 100000 in
set_option maxHeartbeats 4000000 in
theorem c_X7_isWordFrom (G : GT) (n : Nat) (s0 : ST) (v1 : Int32) (v2 : Nat) (r : Int32) (h : X7_isWordFrom n s0 v1 v2 = some r) : Con G yX7_isWordFrom cX7_isWordFrom 4 (some .boolean) rm_X7_isWordFrom [.ref (gad G 0), .int v1, .ref (gK G v2)] (wM G s0) (some (.int r)) (wM G s0) := by
  unfold X7_isWordFrom at h
  refine con_of (by decide +kernel) (Nat.le_of_ble_eq_true rfl) (fun {p e s m below meth c} C hr {H locs ls} B hl => ?_)
  have hx := C.1
  have hb := C.2.1
  have hl : lv_has ls 4 [(0, .ref (gad G 0)), (1, .int v1), (2, .ref (gK G v2))] := hl
  refine lv_aload_n hx hb dX7_isWordFrom_0 rfl (lv_at hl 0 rfl) ?_
  refine r_get C B fo_X7_190 (cM_0 G s0) rfl dX7_isWordFrom_1 ?_
  refine lv_iload_n hx hb dX7_isWordFrom_4 rfl (lv_at hl 1 rfl) ?_
  refine lv_isub hx hb dX7_isWordFrom_5 ?_
  refine lv_aload_n hx hb dX7_isWordFrom_6 rfl (lv_at hl 2 rfl) ?_
  obtain ⟨r1, q2, h⟩ := bd_o h
  refine r_callTi (rest := [.int ((s0.1 4) - v1)]) C B.2.2 hl (txok_length q2) rfl (c_Tlength G v2 r1 q2) cs_X7_193 rfl rfl (Nat.le_of_ble_eq_true rfl) ⟨rfl, rfl, Nat.le_of_ble_eq_true rfl, Nat.le_of_ble_eq_true rfl⟩ dX7_isWordFrom_7 ?_
  refine lv_icmp_eq (tgt := 15) hx hb dX7_isWordFrom_10 (by decide) (fun q3 => ?_) (fun q3 => ?_)
  · have h := ip h q3
    refine lv_iconst (v := (0 : Int32)) hx hb dX7_isWordFrom_15 rfl ?_
    refine lv_istore_n (lv' := [(3, .int (0 : Int32)), (0, .ref (gad G 0)), (1, .int v1), (2, .ref (gK G v2))]) hx hb dX7_isWordFrom_16 rfl hl (by decide) rfl (fun ls hl => ?_)
    obtain ⟨e13, q14, h⟩ := bd_o h
    refine l_X7_isWordFrom_L1 C hr s0 v1 v2 n (0 : Int32) e13 q14 (fun rv q => by have h := sm_l h q; cases h; rfl) (fun e15 q16 => ?_) H locs ls B (lv_sub hl [1, 2, 3, 0] rfl)
    have h := sm_r h q16
    intro H locs ls B hl
    refine lv_iconst (v := (1 : Int32)) hx hb dX7_isWordFrom_49 rfl ?_
    obtain rfl := ret1 h
    exact r_iret C B hr nar_1 dX7_isWordFrom_50
  · have h := ig h q3
    refine lv_iconst (v := (0 : Int32)) hx hb dX7_isWordFrom_13 rfl ?_
    obtain rfl := ret1 h
    exact r_iret C B hr nar_0 dX7_isWordFrom_14
def rm_X7_readWord : Room := { frames := 5, cells := 0, slots := 0, locals := 108 }
set_option maxRecDepth 100000 in
set_option maxHeartbeats 4000000 in
theorem l_X7_readWord_L1 {G : GT} {p : Program} {e : Env} {s : State} {m : MethodId} {args : Array Value} {below : List Frame} {meth : Method} {c : Code} {Q : State → Prop} (C : CT G p s m meth c args cX7_readWord 2 RX7) (hr : meth.sig.returnType = (some .boolean)) (v1 : Int32) : ∀ (k : Nat) (s0 : ST) (e1 : ST), X7_readWord_L1  k s0 = some e1 → Kn G p e rm_X7_readWord s m args below meth c Q 2 48 [(0, .ref (gad G 0)), (1, .int v1)] (wM G e1) → Kn G p e rm_X7_readWord s m args below meth c Q 2 5 [(0, .ref (gad G 0)), (1, .int v1)] (wM G s0) := by
  have hx := C.1
  have hb := C.2.1
  intro k
  induction k with
  | zero =>
    intro s0 e1 h
    exact nso h
  | succ k ih =>
    intro s0 e1 h hk H locs ls B hl
    have h : X7_readWord_L1_b  (X7_readWord_L1  k) s0 = some e1 := h
    unfold X7_readWord_L1_b at h
    refine lv_aload_n hx hb dX7_readWord_5 rfl (lv_at hl 0 rfl) ?_
    refine r_get C B fo_X7_190 (cM_0 G s0) rfl dX7_readWord_6 ?_
    refine lv_aload_n hx hb dX7_readWord_9 rfl (lv_at hl 0 rfl) ?_
    refine r_get C B fo_X7_176 (cM_0 G s0) rfl dX7_readWord_10 ?_
    refine lv_icmp_ge (tgt := 48) hx hb dX7_readWord_13 (by decide) (fun q3 => ?_) (fun q3 => ?_)
    · have h := ip h q3
      obtain rfl := ret1 h
      exact hk H locs ls B (lv_sub hl [0, 1] rfl)
    · have h := ig h q3
      refine lv_aload_n hx hb dX7_readWord_16 rfl (lv_at hl 0 rfl) ?_
      refine r_get C B fo_X7_32 (cM_0 G s0) rfl dX7_readWord_17 ?_
      refine lv_aload_n hx hb dX7_readWord_20 rfl (lv_at hl 0 rfl) ?_
      refine r_get C B fo_X7_190 (cM_0 G s0) rfl dX7_readWord_21 ?_
      obtain ⟨q4, h⟩ := gd_o h
      refine r_iald C B (cM_7 G s0) (inb_vp q4) dX7_readWord_24 ?_
      refine lv_bipush (v := (97 : Int32)) hx hb dX7_readWord_25 rfl ?_
      refine lv_bipush (v := (122 : Int32)) hx hb dX7_readWord_27 rfl ?_
      obtain ⟨r5, q6, h⟩ := bd_o h
      refine r_callSi (rest := []) C B.2.2 hl (c_X7_in G (s0.2.1 6 ((s0.1 4)).toNatClampNeg) (97 : Int32) (122 : Int32) r5 q6) cs_X7_63 rfl rfl (Nat.le_of_ble_eq_true rfl) ⟨rfl, rfl, Nat.le_of_ble_eq_true rfl, Nat.le_of_ble_eq_true rfl⟩ dX7_readWord_29 ?_
      refine lv_if_eq (tgt := 48) hx hb dX7_readWord_32 (by decide) (fun q7 => ?_) (fun q7 => ?_)
      · have h := ip h q7
        obtain rfl := ret1 h
        exact hk H locs ls B (lv_sub hl [0, 1] rfl)
      · have h := ig h q7
        refine lv_aload_n hx hb dX7_readWord_35 rfl (lv_at hl 0 rfl) ?_
        refine lv_dup hx hb dX7_readWord_36 rfl ?_
        refine r_get C B fo_X7_190 (cM_0 G s0) rfl dX7_readWord_37 ?_
        refine lv_iconst (v := (1 : Int32)) hx hb dX7_readWord_40 rfl ?_
        refine lv_iadd hx hb dX7_readWord_41 ?_
        obtain ⟨s8, q9, h⟩ := nm_o h
        refine r_put C B fp_X7_190 (cM_0 G s0) (Nat.le_of_ble_eq_true rfl) rfl rfl ((uMs_4 G s0 _).trans (congrArg (wM G) q9.symm)) dX7_readWord_42 (fun H locs B => ?_)
        refine lv_goto (tgt := 5) hx hb dX7_readWord_45 (by decide) ?_
        exact ih s8 e1 h hk H locs ls B (lv_sub hl [0, 1] rfl)
set_option maxRecDepth 100000 in
set_option maxHeartbeats 4000000 in
theorem l_X7_readWord_L2 {G : GT} {p : Program} {e : Env} {s : State} {m : MethodId} {args : Array Value} {below : List Frame} {meth : Method} {c : Code} {Q : State → Prop} (C : CT G p s m meth c args cX7_readWord 2 RX7) (hr : meth.sig.returnType = (some .boolean)) (n : Nat) (v1 : Int32) : ∀ (k : Nat) (s0 : ST) (e1 : (Int32 × ST) ⊕ (ST)), X7_readWord_L2 n v1 k s0 = some e1 → (∀ rv, e1 = Sum.inl rv → Q = QR G below args s (some (.int rv.1)) (wM G rv.2)) → (∀ ex, e1 = Sum.inr ex → Kn G p e rm_X7_readWord s m args below meth c Q 2 91 [(0, .ref (gad G 0)), (1, .int v1)] (wM G ex)) → Kn G p e rm_X7_readWord s m args below meth c Q 2 53 [(0, .ref (gad G 0)), (1, .int v1)] (wM G s0) := by
  have hx := C.1
  have hb := C.2.1
  intro k
  induction k with
  | zero =>
    intro s0 e1 h
    exact nso h
  | succ k ih =>
    intro s0 e1 h hret hk H locs ls B hl
    have h : X7_readWord_L2_b n v1 (X7_readWord_L2 n v1 k) s0 = some e1 := h
    unfold X7_readWord_L2_b at h
    refine lv_aload_n hx hb dX7_readWord_53 rfl (lv_at hl 0 rfl) ?_
    refine r_get C B fo_X7_202 (cM_0 G s0) rfl dX7_readWord_54 ?_
    refine lv_iconst (v := (5 : Int32)) hx hb dX7_readWord_57 rfl ?_
    refine lv_icmp_gt (tgt := 91) hx hb dX7_readWord_58 (by decide) (fun q14 => ?_) (fun q14 => ?_)
    · have h := ip h q14
      obtain rfl := ret1 h
      exact hk _ rfl H locs ls B (lv_sub hl [0, 1] rfl)
    · have h := ig h q14
      refine lv_aload_n hx hb dX7_readWord_61 rfl (lv_at hl 0 rfl) ?_
      refine lv_iload_n hx hb dX7_readWord_62 rfl (lv_at hl 1 rfl) ?_
      refine lv_aload_n hx hb dX7_readWord_63 rfl (lv_at hl 0 rfl) ?_
      refine r_get C B fo_X7_202 (cM_0 G s0) rfl dX7_readWord_64 ?_
      obtain ⟨r15, q16, h⟩ := bd_o h
      refine r_callSa (rest := [.int v1, .ref (gad G 0)]) C B.2.2 hl (c_X7_wordOf G (s0.1 6) r15 q16) cs_X7_205 rfl rfl (Nat.le_of_ble_eq_true rfl) ⟨rfl, rfl, Nat.le_of_ble_eq_true rfl, Nat.le_of_ble_eq_true rfl⟩ dX7_readWord_67 ?_
      obtain ⟨r18, q17, h⟩ := bd_o h
      refine r_callVi (rest := []) C B hl (c_X7_isWordFrom G n s0 v1 r15 r18 q17) cs_X7_209 (cM_0 G s0) rfl rfl rfl (Nat.le_of_ble_eq_true rfl) ⟨rfl, rfl, Nat.le_of_ble_eq_true rfl, Nat.le_of_ble_eq_true rfl⟩ dX7_readWord_70 (fun H locs B => ?_)
      refine lv_if_eq (tgt := 78) hx hb dX7_readWord_73 (by decide) (fun q19 => ?_) (fun q19 => ?_)
      · have h := ip h q19
        refine lv_aload_n hx hb dX7_readWord_78 rfl (lv_at hl 0 rfl) ?_
        refine lv_dup hx hb dX7_readWord_79 rfl ?_
        refine r_get C B fo_X7_202 (cM_0 G s0) rfl dX7_readWord_80 ?_
        refine lv_iconst (v := (1 : Int32)) hx hb dX7_readWord_83 rfl ?_
        refine lv_iadd hx hb dX7_readWord_84 ?_
        obtain ⟨s20, q21, h⟩ := nm_o h
        refine r_put C B fp_X7_202 (cM_0 G s0) (Nat.le_of_ble_eq_true rfl) rfl rfl ((uMs_6 G s0 _).trans (congrArg (wM G) q21.symm)) dX7_readWord_85 (fun H locs B => ?_)
        refine lv_goto (tgt := 53) hx hb dX7_readWord_88 (by decide) ?_
        exact ih s20 e1 h hret hk H locs ls B (lv_sub hl [0, 1] rfl)
      · have h := ig h q19
        refine lv_iconst (v := (1 : Int32)) hx hb dX7_readWord_76 rfl ?_
        obtain rfl := ret1 h
        rw [hret _ rfl]
        exact r_iret C B hr nar_1 dX7_readWord_77
set_option maxRecDepth 100000 in
set_option maxHeartbeats 4000000 in
theorem c_X7_readWord (G : GT) (n : Nat) (s0 : ST)  (r : Int32) (s' : ST) (h : X7_readWord n s0  = some (r, s')) : Con G yX7_readWord cX7_readWord 2 (some .boolean) rm_X7_readWord [.ref (gad G 0)] (wM G s0) (some (.int r)) (wM G s') := by
  unfold X7_readWord at h
  refine con_of (by decide +kernel) (Nat.le_of_ble_eq_true rfl) (fun {p e s m below meth c} C hr {H locs ls} B hl => ?_)
  have hx := C.1
  have hb := C.2.1
  have hl : lv_has ls 2 [(0, .ref (gad G 0))] := hl
  refine lv_aload_n hx hb dX7_readWord_0 rfl (lv_at hl 0 rfl) ?_
  refine r_get C B fo_X7_190 (cM_0 G s0) rfl dX7_readWord_1 ?_
  obtain ⟨v1_1, q2, h⟩ := nm_o h
  refine r_nm q2 ?_
  refine lv_istore_n (lv' := [(1, .int v1_1), (0, .ref (gad G 0))]) hx hb dX7_readWord_4 rfl hl (by decide) rfl (fun ls hl => ?_)
  obtain ⟨e10, q11, h⟩ := bd_o h
  refine l_X7_readWord_L1 C hr v1_1 n s0 e10 q11 ?_ H locs ls B (lv_sub hl [1, 0] rfl)
  intro H locs ls B hl
  refine lv_aload_n hx hb dX7_readWord_48 rfl (lv_at hl 0 rfl) ?_
  refine lv_iconst (v := (0 : Int32)) hx hb dX7_readWord_49 rfl ?_
  obtain ⟨s12, q13, h⟩ := nm_o h
  refine r_put C B fp_X7_202 (cM_0 G e10) (Nat.le_of_ble_eq_true rfl) rfl rfl ((uMs_6 G e10 _).trans (congrArg (wM G) q13.symm)) dX7_readWord_50 (fun H locs B => ?_)
  obtain ⟨e22, q23, h⟩ := bd_o h
  refine l_X7_readWord_L2 C hr n v1_1 n s12 e22 q23 (fun rv q => by have h := sm_l h q; cases h; rfl) (fun e24 q25 => ?_) H locs ls B (lv_sub hl [0, 1] rfl)
  have h := sm_r h q25
  intro H locs ls B hl
  refine lv_aload_n hx hb dX7_readWord_91 rfl (lv_at hl 0 rfl) ?_
  refine lv_iload_n hx hb dX7_readWord_92 rfl (lv_at hl 1 rfl) ?_
  obtain ⟨s26, q27, h⟩ := nm_o h
  refine r_put C B fp_X7_213 (cM_0 G e24) (Nat.le_of_ble_eq_true rfl) rfl rfl ((uMs_5 G e24 _).trans (congrArg (wM G) q27.symm)) dX7_readWord_93 (fun H locs B => ?_)
  refine lv_iconst (v := (0 : Int32)) hx hb dX7_readWord_96 rfl ?_
  obtain ⟨rfl, rfl⟩ := ret2 h
  exact r_iret C B hr nar_0 dX7_readWord_97
def rm_X7_isHere : Room := { frames := 0, cells := 0, slots := 0, locals := 0 }
set_option maxRecDepth 100000 in
set_option maxHeartbeats 4000000 in
theorem c_X7_isHere (G : GT) (s0 : ST) (v1 : Int32) (r : Int32) (h : X7_isHere s0 v1 = some r) : Con G yX7_isHere cX7_isHere 2 (some .boolean) rm_X7_isHere [.ref (gad G 0), .int v1] (wM G s0) (some (.int r)) (wM G s0) := by
  unfold X7_isHere at h
  refine con_of (by decide +kernel) (Nat.le_of_ble_eq_true rfl) (fun {p e s m below meth c} C hr {H locs ls} B hl => ?_)
  have hx := C.1
  have hb := C.2.1
  have hl : lv_has ls 2 [(0, .ref (gad G 0)), (1, .int v1)] := hl
  refine lv_aload_n hx hb dX7_isHere_0 rfl (lv_at hl 0 rfl) ?_
  refine r_get C B fo_X7_190 (cM_0 G s0) rfl dX7_isHere_1 ?_
  refine lv_aload_n hx hb dX7_isHere_4 rfl (lv_at hl 0 rfl) ?_
  refine r_get C B fo_X7_176 (cM_0 G s0) rfl dX7_isHere_5 ?_
  refine lv_icmp_ge (tgt := 28) hx hb dX7_isHere_8 (by decide) (fun q1 => ?_) (fun q1 => ?_)
  · have h := ip h q1
    refine lv_iconst (v := (0 : Int32)) hx hb dX7_isHere_28 rfl ?_
    obtain rfl := ret1 h
    exact r_iret C B hr nar_0 dX7_isHere_29
  · have h := ig h q1
    refine lv_aload_n hx hb dX7_isHere_11 rfl (lv_at hl 0 rfl) ?_
    refine r_get C B fo_X7_32 (cM_0 G s0) rfl dX7_isHere_12 ?_
    refine lv_aload_n hx hb dX7_isHere_15 rfl (lv_at hl 0 rfl) ?_
    refine r_get C B fo_X7_190 (cM_0 G s0) rfl dX7_isHere_16 ?_
    obtain ⟨q2, h⟩ := gd_o h
    refine r_iald C B (cM_7 G s0) (inb_vp q2) dX7_isHere_19 ?_
    refine lv_iload_n hx hb dX7_isHere_20 rfl (lv_at hl 1 rfl) ?_
    refine lv_icmp_ne (tgt := 28) hx hb dX7_isHere_21 (by decide) (fun q3 => ?_) (fun q3 => ?_)
    · have h := ig h q3
      refine lv_iconst (v := (0 : Int32)) hx hb dX7_isHere_28 rfl ?_
      obtain rfl := ret1 h
      exact r_iret C B hr nar_0 dX7_isHere_29
    · have h := ip h q3
      refine lv_iconst (v := (1 : Int32)) hx hb dX7_isHere_24 rfl ?_
      refine lv_goto (tgt := 29) hx hb dX7_isHere_25 (by decide) ?_
      obtain rfl := ret1 h
      exact r_iret C B hr nar_1 dX7_isHere_29
def rm_X7_isFigure : Room := { frames := 1, cells := 0, slots := 0, locals := 22 }
set_option maxRecDepth 100000 in
set_option maxHeartbeats 4000000 in
theorem c_X7_isFigure (G : GT) (s0 : ST)  (r : Int32) (h : X7_isFigure s0  = some r) : Con G yX7_isFigure cX7_isFigure 1 (some .boolean) rm_X7_isFigure [.ref (gad G 0)] (wM G s0) (some (.int r)) (wM G s0) := by
  unfold X7_isFigure at h
  refine con_of (by decide +kernel) (Nat.le_of_ble_eq_true rfl) (fun {p e s m below meth c} C hr {H locs ls} B hl => ?_)
  have hx := C.1
  have hb := C.2.1
  have hl : lv_has ls 1 [(0, .ref (gad G 0))] := hl
  refine lv_aload_n hx hb dX7_isFigure_0 rfl (lv_at hl 0 rfl) ?_
  refine r_get C B fo_X7_190 (cM_0 G s0) rfl dX7_isFigure_1 ?_
  refine lv_aload_n hx hb dX7_isFigure_4 rfl (lv_at hl 0 rfl) ?_
  refine r_get C B fo_X7_176 (cM_0 G s0) rfl dX7_isFigure_5 ?_
  refine lv_icmp_ge (tgt := 34) hx hb dX7_isFigure_8 (by decide) (fun q1 => ?_) (fun q1 => ?_)
  · have h := ip h q1
    refine lv_iconst (v := (0 : Int32)) hx hb dX7_isFigure_34 rfl ?_
    obtain rfl := ret1 h
    exact r_iret C B hr nar_0 dX7_isFigure_35
  · have h := ig h q1
    refine lv_aload_n hx hb dX7_isFigure_11 rfl (lv_at hl 0 rfl) ?_
    refine r_get C B fo_X7_32 (cM_0 G s0) rfl dX7_isFigure_12 ?_
    refine lv_aload_n hx hb dX7_isFigure_15 rfl (lv_at hl 0 rfl) ?_
    refine r_get C B fo_X7_190 (cM_0 G s0) rfl dX7_isFigure_16 ?_
    obtain ⟨q2, h⟩ := gd_o h
    refine r_iald C B (cM_7 G s0) (inb_vp q2) dX7_isFigure_19 ?_
    refine lv_bipush (v := (48 : Int32)) hx hb dX7_isFigure_20 rfl ?_
    refine lv_bipush (v := (57 : Int32)) hx hb dX7_isFigure_22 rfl ?_
    obtain ⟨r3, q4, h⟩ := bd_o h
    refine r_callSi (rest := []) C B.2.2 hl (c_X7_in G (s0.2.1 6 ((s0.1 4)).toNatClampNeg) (48 : Int32) (57 : Int32) r3 q4) cs_X7_63 rfl rfl (Nat.le_of_ble_eq_true rfl) ⟨rfl, rfl, Nat.le_of_ble_eq_true rfl, Nat.le_of_ble_eq_true rfl⟩ dX7_isFigure_24 ?_
    refine lv_if_eq (tgt := 34) hx hb dX7_isFigure_27 (by decide) (fun q5 => ?_) (fun q5 => ?_)
    · have h := ip h q5
      refine lv_iconst (v := (0 : Int32)) hx hb dX7_isFigure_34 rfl ?_
      obtain rfl := ret1 h
      exact r_iret C B hr nar_0 dX7_isFigure_35
    · have h := ig h q5
      refine lv_iconst (v := (1 : Int32)) hx hb dX7_isFigure_30 rfl ?_
      refine lv_goto (tgt := 35) hx hb dX7_isFigure_31 (by decide) ?_
      obtain rfl := ret1 h
      exact r_iret C B hr nar_1 dX7_isFigure_35
def rm_X7_readFigure : Room := { frames := 2, cells := 0, slots := 0, locals := 42 }
set_option maxRecDepth 100000 in
set_option maxHeartbeats 4000000 in
theorem c_X7_readFigure (G : GT) (s0 : ST)  (r : Int32) (s' : ST) (h : X7_readFigure s0  = some (r, s')) : Con G yX7_readFigure cX7_readFigure 1 (some .boolean) rm_X7_readFigure [.ref (gad G 0)] (wM G s0) (some (.int r)) (wM G s') := by
  unfold X7_readFigure at h
  refine con_of (by decide +kernel) (Nat.le_of_ble_eq_true rfl) (fun {p e s m below meth c} C hr {H locs ls} B hl => ?_)
  have hx := C.1
  have hb := C.2.1
  have hl : lv_has ls 1 [(0, .ref (gad G 0))] := hl
  refine lv_aload_n hx hb dX7_readFigure_0 rfl (lv_at hl 0 rfl) ?_
  refine lv_bipush (v := (32 : Int32)) hx hb dX7_readFigure_1 rfl ?_
  obtain ⟨r2, q1, h⟩ := bd_o h
  refine r_callVi (rest := []) C B hl (c_X7_isHere G s0 (32 : Int32) r2 q1) cs_X7_216 (cM_0 G s0) rfl rfl rfl (Nat.le_of_ble_eq_true rfl) ⟨rfl, rfl, Nat.le_of_ble_eq_true rfl, Nat.le_of_ble_eq_true rfl⟩ dX7_readFigure_3 (fun H locs B => ?_)
  refine lv_if_ne (tgt := 19) hx hb dX7_readFigure_6 (by decide) (fun q3 => ?_) (fun q3 => ?_)
  · have h := ig h q3
    refine lv_aload_n hx hb dX7_readFigure_19 rfl (lv_at hl 0 rfl) ?_
    refine lv_dup hx hb dX7_readFigure_20 rfl ?_
    refine r_get C B fo_X7_190 (cM_0 G s0) rfl dX7_readFigure_21 ?_
    refine lv_iconst (v := (1 : Int32)) hx hb dX7_readFigure_24 rfl ?_
    refine lv_iadd hx hb dX7_readFigure_25 ?_
    obtain ⟨s4, q5, h⟩ := nm_o h
    refine r_put C B fp_X7_190 (cM_0 G s0) (Nat.le_of_ble_eq_true rfl) rfl rfl ((uMs_4 G s0 _).trans (congrArg (wM G) q5.symm)) dX7_readFigure_26 (fun H locs B => ?_)
    refine lv_aload_n hx hb dX7_readFigure_29 rfl (lv_at hl 0 rfl) ?_
    obtain ⟨r7, q6, h⟩ := bd_o h
    refine r_callVi (rest := []) C B hl (c_X7_isFigure G s4 r7 q6) cs_X7_219 (cM_0 G s4) rfl rfl rfl (Nat.le_of_ble_eq_true rfl) ⟨rfl, rfl, Nat.le_of_ble_eq_true rfl, Nat.le_of_ble_eq_true rfl⟩ dX7_readFigure_30 (fun H locs B => ?_)
    refine lv_if_ne (tgt := 46) hx hb dX7_readFigure_33 (by decide) (fun q8 => ?_) (fun q8 => ?_)
    · have h := ig h q8
      refine lv_aload_n hx hb dX7_readFigure_46 rfl (lv_at hl 0 rfl) ?_
      refine lv_aload_n hx hb dX7_readFigure_47 rfl (lv_at hl 0 rfl) ?_
      refine r_get C B fo_X7_32 (cM_0 G s4) rfl dX7_readFigure_48 ?_
      refine lv_aload_n hx hb dX7_readFigure_51 rfl (lv_at hl 0 rfl) ?_
      refine r_get C B fo_X7_190 (cM_0 G s4) rfl dX7_readFigure_52 ?_
      obtain ⟨q9, h⟩ := gd_o h
      refine r_iald C B (cM_7 G s4) (inb_vp q9) dX7_readFigure_55 ?_
      refine lv_bipush (v := (48 : Int32)) hx hb dX7_readFigure_56 rfl ?_
      refine lv_isub hx hb dX7_readFigure_58 ?_
      obtain ⟨s10, q11, h⟩ := nm_o h
      refine r_put C B fp_X7_222 (cM_0 G s4) (Nat.le_of_ble_eq_true rfl) rfl rfl ((uMs_7 G s4 _).trans (congrArg (wM G) q11.symm)) dX7_readFigure_59 (fun H locs B => ?_)
      refine lv_aload_n hx hb dX7_readFigure_62 rfl (lv_at hl 0 rfl) ?_
      refine lv_dup hx hb dX7_readFigure_63 rfl ?_
      refine r_get C B fo_X7_190 (cM_0 G s10) rfl dX7_readFigure_64 ?_
      refine lv_iconst (v := (1 : Int32)) hx hb dX7_readFigure_67 rfl ?_
      refine lv_iadd hx hb dX7_readFigure_68 ?_
      obtain ⟨s12, q13, h⟩ := nm_o h
      refine r_put C B fp_X7_190 (cM_0 G s10) (Nat.le_of_ble_eq_true rfl) rfl rfl ((uMs_4 G s10 _).trans (congrArg (wM G) q13.symm)) dX7_readFigure_69 (fun H locs B => ?_)
      refine lv_iconst (v := (1 : Int32)) hx hb dX7_readFigure_72 rfl ?_
      obtain ⟨rfl, rfl⟩ := ret2 h
      exact r_iret C B hr nar_1 dX7_readFigure_73
    · have h := ip h q8
      refine lv_aload_n hx hb dX7_readFigure_36 rfl (lv_at hl 0 rfl) ?_
      refine lv_aload_n hx hb dX7_readFigure_37 rfl (lv_at hl 0 rfl) ?_
      refine r_get C B fo_X7_190 (cM_0 G s4) rfl dX7_readFigure_38 ?_
      obtain ⟨s14, q15, h⟩ := nm_o h
      refine r_put C B fp_X7_213 (cM_0 G s4) (Nat.le_of_ble_eq_true rfl) rfl rfl ((uMs_5 G s4 _).trans (congrArg (wM G) q15.symm)) dX7_readFigure_41 (fun H locs B => ?_)
      refine lv_iconst (v := (0 : Int32)) hx hb dX7_readFigure_44 rfl ?_
      obtain ⟨rfl, rfl⟩ := ret2 h
      exact r_iret C B hr nar_0 dX7_readFigure_45
  · have h := ip h q3
    refine lv_aload_n hx hb dX7_readFigure_9 rfl (lv_at hl 0 rfl) ?_
    refine lv_aload_n hx hb dX7_readFigure_10 rfl (lv_at hl 0 rfl) ?_
    refine r_get C B fo_X7_190 (cM_0 G s0) rfl dX7_readFigure_11 ?_
    obtain ⟨s16, q17, h⟩ := nm_o h
    refine r_put C B fp_X7_213 (cM_0 G s0) (Nat.le_of_ble_eq_true rfl) rfl rfl ((uMs_5 G s0 _).trans (congrArg (wM G) q17.symm)) dX7_readFigure_14 (fun H locs B => ?_)
    refine lv_iconst (v := (0 : Int32)) hx hb dX7_readFigure_17 rfl ?_
    obtain ⟨rfl, rfl⟩ := ret2 h
    exact r_iret C B hr nar_0 dX7_readFigure_18
def rm_X7_readSet : Room := { frames := 3, cells := 0, slots := 0, locals := 62 }
set_option maxRecDepth 100000 in
set_option maxHeartbeats 4000000 in
theorem l_X7_readSet_L1 {G : GT} {p : Program} {e : Env} {s : State} {m : MethodId} {args : Array Value} {below : List Frame} {meth : Method} {c : Code} {Q : State → Prop} (C : CT G p s m meth c args cX7_readSet 1 RX7) (hr : meth.sig.returnType = (some .boolean)) : ∀ (k : Nat) (s0 : ST) (e1 : (Int32 × ST) ⊕ (ST)), X7_readSet_L1  k s0 = some e1 → (∀ rv, e1 = Sum.inl rv → Q = QR G below args s (some (.int rv.1)) (wM G rv.2)) → (∀ ex, e1 = Sum.inr ex → Kn G p e rm_X7_readSet s m args below meth c Q 1 41 [] (wM G ex)) → Kn G p e rm_X7_readSet s m args below meth c Q 1 5 [(0, .ref (gad G 0))] (wM G s0) := by
  have hx := C.1
  have hb := C.2.1
  intro k
  induction k with
  | zero =>
    intro s0 e1 h
    exact nso h
  | succ k ih =>
    intro s0 e1 h hret hk H locs ls B hl
    have h : X7_readSet_L1_b  (X7_readSet_L1  k) s0 = some e1 := h
    unfold X7_readSet_L1_b at h
    refine lv_aload_n hx hb dX7_readSet_5 rfl (lv_at hl 0 rfl) ?_
    refine lv_bipush (v := (32 : Int32)) hx hb dX7_readSet_6 rfl ?_
    obtain ⟨r4, q3, h⟩ := bd_o h
    refine r_callVi (rest := []) C B hl (c_X7_isHere G s0 (32 : Int32) r4 q3) cs_X7_216 (cM_0 G s0) rfl rfl rfl (Nat.le_of_ble_eq_true rfl) ⟨rfl, rfl, Nat.le_of_ble_eq_true rfl, Nat.le_of_ble_eq_true rfl⟩ dX7_readSet_8 (fun H locs B => ?_)
    refine lv_if_eq (tgt := 41) hx hb dX7_readSet_11 (by decide) (fun q5 => ?_) (fun q5 => ?_)
    · have h := ip h q5
      obtain rfl := ret1 h
      exact hk _ rfl H locs ls B (lv_sub hl [] rfl)
    · have h := ig h q5
      refine lv_aload_n hx hb dX7_readSet_14 rfl (lv_at hl 0 rfl) ?_
      obtain ⟨r8, s7, q6, h⟩ := bd2_o h
      refine r_callVi (rest := []) C B hl (c_X7_readFigure G s0 r8 s7 q6) cs_X7_228 (cM_0 G s0) rfl rfl rfl (Nat.le_of_ble_eq_true rfl) ⟨rfl, rfl, Nat.le_of_ble_eq_true rfl, Nat.le_of_ble_eq_true rfl⟩ dX7_readSet_15 (fun H locs B => ?_)
      refine lv_if_ne (tgt := 23) hx hb dX7_readSet_18 (by decide) (fun q9 => ?_) (fun q9 => ?_)
      · have h := ig h q9
        refine lv_aload_n hx hb dX7_readSet_23 rfl (lv_at hl 0 rfl) ?_
        refine lv_dup hx hb dX7_readSet_24 rfl ?_
        refine r_get C B fo_X7_225 (cM_0 G s7) rfl dX7_readSet_25 ?_
        refine lv_iconst (v := (1 : Int32)) hx hb dX7_readSet_28 rfl ?_
        refine lv_aload_n hx hb dX7_readSet_29 rfl (lv_at hl 0 rfl) ?_
        refine r_get C B fo_X7_222 (cM_0 G s7) rfl dX7_readSet_30 ?_
        refine lv_ishl hx hb dX7_readSet_33 ?_
        refine lv_ior hx hb dX7_readSet_34 ?_
        obtain ⟨s10, q11, h⟩ := nm_o h
        refine r_put C B fp_X7_225 (cM_0 G s7) (Nat.le_of_ble_eq_true rfl) rfl rfl ((uMs_10 G s7 _).trans (congrArg (wM G) q11.symm)) dX7_readSet_35 (fun H locs B => ?_)
        refine lv_goto (tgt := 5) hx hb dX7_readSet_38 (by decide) ?_
        exact ih s10 e1 h hret hk H locs ls B (lv_sub hl [0] rfl)
      · have h := ip h q9
        refine lv_iconst (v := (0 : Int32)) hx hb dX7_readSet_21 rfl ?_
        obtain rfl := ret1 h
        rw [hret _ rfl]
        exact r_iret C B hr nar_0 dX7_readSet_22
set_option maxRecDepth 100000 in
set_option maxHeartbeats 4000000 in
theorem c_X7_readSet (G : GT) (n : Nat) (s0 : ST)  (r : Int32) (s' : ST) (h : X7_readSet n s0  = some (r, s')) : Con G yX7_readSet cX7_readSet 1 (some .boolean) rm_X7_readSet [.ref (gad G 0)] (wM G s0) (some (.int r)) (wM G s') := by
  unfold X7_readSet at h
  refine con_of (by decide +kernel) (Nat.le_of_ble_eq_true rfl) (fun {p e s m below meth c} C hr {H locs ls} B hl => ?_)
  have hx := C.1
  have hb := C.2.1
  have hl : lv_has ls 1 [(0, .ref (gad G 0))] := hl
  refine lv_aload_n hx hb dX7_readSet_0 rfl (lv_at hl 0 rfl) ?_
  refine lv_iconst (v := (0 : Int32)) hx hb dX7_readSet_1 rfl ?_
  obtain ⟨s1, q2, h⟩ := nm_o h
  refine r_put C B fp_X7_225 (cM_0 G s0) (Nat.le_of_ble_eq_true rfl) rfl rfl ((uMs_10 G s0 _).trans (congrArg (wM G) q2.symm)) dX7_readSet_2 (fun H locs B => ?_)
  obtain ⟨e12, q13, h⟩ := bd_o h
  refine l_X7_readSet_L1 C hr  n s1 e12 q13 (fun rv q => by have h := sm_l h q; cases h; rfl) (fun e14 q15 => ?_) H locs ls B (lv_sub hl [0] rfl)
  have h := sm_r h q15
  intro H locs ls B hl
  refine lv_iconst (v := (1 : Int32)) hx hb dX7_readSet_41 rfl ?_
  obtain ⟨rfl, rfl⟩ := ret2 h
  exact r_iret C B hr nar_1 dX7_readSet_42
def rm_X7_readStatement : Room := { frames := 6, cells := 0, slots := 0, locals := 129 }
set_option maxRecDepth 100000 in
set_option maxHeartbeats 4000000 in
theorem c_X7_readStatement (G : GT) (n : Nat) (s0 : ST)  (r : Int32) (s' : ST) (h : X7_readStatement n s0  = some (r, s')) : Con G yX7_readStatement cX7_readStatement 1 (some .boolean) rm_X7_readStatement [.ref (gad G 0)] (wM G s0) (some (.int r)) (wM G s') := by
  unfold X7_readStatement at h
  refine con_of (by decide +kernel) (Nat.le_of_ble_eq_true rfl) (fun {p e s m below meth c} C hr {H locs ls} B hl => ?_)
  have hx := C.1
  have hb := C.2.1
  have hl : lv_has ls 1 [(0, .ref (gad G 0))] := hl
  refine lv_aload_n hx hb dX7_readStatement_0 rfl (lv_at hl 0 rfl) ?_
  obtain ⟨r3, s2, q1, h⟩ := bd2_o h
  refine r_callVi (rest := []) C B hl (c_X7_readWord G n s0 r3 s2 q1) cs_X7_231 (cM_0 G s0) rfl rfl rfl (Nat.le_of_ble_eq_true rfl) ⟨rfl, rfl, Nat.le_of_ble_eq_true rfl, Nat.le_of_ble_eq_true rfl⟩ dX7_readStatement_1 (fun H locs B => ?_)
  refine lv_if_ne (tgt := 9) hx hb dX7_readStatement_4 (by decide) (fun q4 => ?_) (fun q4 => ?_)
  · have h := ig h q4
    refine lv_aload_n hx hb dX7_readStatement_9 rfl (lv_at hl 0 rfl) ?_
    refine r_get C B fo_X7_202 (cM_0 G s2) rfl dX7_readStatement_10 ?_
    refine lv_iconst (v := (4 : Int32)) hx hb dX7_readStatement_13 rfl ?_
    refine lv_icmp_ne (tgt := 22) hx hb dX7_readStatement_14 (by decide) (fun q5 => ?_) (fun q5 => ?_)
    · have h := ig h q5
      refine lv_aload_n hx hb dX7_readStatement_22 rfl (lv_at hl 0 rfl) ?_
      obtain ⟨r8, s7, q6, h⟩ := bd2_o h
      refine r_callVi (rest := []) C B hl (c_X7_readFigure G s2 r8 s7 q6) cs_X7_228 (cM_0 G s2) rfl rfl rfl (Nat.le_of_ble_eq_true rfl) ⟨rfl, rfl, Nat.le_of_ble_eq_true rfl, Nat.le_of_ble_eq_true rfl⟩ dX7_readStatement_23 (fun H locs B => ?_)
      refine lv_if_ne (tgt := 31) hx hb dX7_readStatement_26 (by decide) (fun q9 => ?_) (fun q9 => ?_)
      · have h := ig h q9
        refine lv_aload_n hx hb dX7_readStatement_31 rfl (lv_at hl 0 rfl) ?_
        refine lv_aload_n hx hb dX7_readStatement_32 rfl (lv_at hl 0 rfl) ?_
        refine r_get C B fo_X7_222 (cM_0 G s7) rfl dX7_readStatement_33 ?_
        obtain ⟨s10, q11, h⟩ := nm_o h
        refine r_put C B fp_X7_237 (cM_0 G s7) (Nat.le_of_ble_eq_true rfl) rfl rfl ((uMs_8 G s7 _).trans (congrArg (wM G) q11.symm)) dX7_readStatement_36 (fun H locs B => ?_)
        refine lv_aload_n hx hb dX7_readStatement_39 rfl (lv_at hl 0 rfl) ?_
        refine r_get C B fo_X7_202 (cM_0 G s10) rfl dX7_readStatement_40 ?_
        refine lv_if_eq (tgt := 54) hx hb dX7_readStatement_43 (by decide) (fun q12 => ?_) (fun q12 => ?_)
        · have h := ip h q12
          refine lv_iconst (v := (1 : Int32)) hx hb dX7_readStatement_54 rfl ?_
          obtain ⟨rfl, rfl⟩ := ret2 h
          exact r_iret C B hr nar_1 dX7_readStatement_55
        · have h := ig h q12
          refine lv_aload_n hx hb dX7_readStatement_46 rfl (lv_at hl 0 rfl) ?_
          refine r_get C B fo_X7_202 (cM_0 G s10) rfl dX7_readStatement_47 ?_
          refine lv_iconst (v := (3 : Int32)) hx hb dX7_readStatement_50 rfl ?_
          refine lv_icmp_ne (tgt := 56) hx hb dX7_readStatement_51 (by decide) (fun q13 => ?_) (fun q13 => ?_)
          · have h := ig h q13
            refine lv_aload_n hx hb dX7_readStatement_56 rfl (lv_at hl 0 rfl) ?_
            obtain ⟨r16, s15, q14, h⟩ := bd2_o h
            refine r_callVi (rest := []) C B hl (c_X7_readFigure G s10 r16 s15 q14) cs_X7_228 (cM_0 G s10) rfl rfl rfl (Nat.le_of_ble_eq_true rfl) ⟨rfl, rfl, Nat.le_of_ble_eq_true rfl, Nat.le_of_ble_eq_true rfl⟩ dX7_readStatement_57 (fun H locs B => ?_)
            refine lv_if_ne (tgt := 65) hx hb dX7_readStatement_60 (by decide) (fun q17 => ?_) (fun q17 => ?_)
            · have h := ig h q17
              refine lv_aload_n hx hb dX7_readStatement_65 rfl (lv_at hl 0 rfl) ?_
              refine lv_aload_n hx hb dX7_readStatement_66 rfl (lv_at hl 0 rfl) ?_
              refine r_get C B fo_X7_222 (cM_0 G s15) rfl dX7_readStatement_67 ?_
              obtain ⟨s18, q19, h⟩ := nm_o h
              refine r_put C B fp_X7_240 (cM_0 G s15) (Nat.le_of_ble_eq_true rfl) rfl rfl ((uMs_9 G s15 _).trans (congrArg (wM G) q19.symm)) dX7_readStatement_70 (fun H locs B => ?_)
              refine lv_aload_n hx hb dX7_readStatement_73 rfl (lv_at hl 0 rfl) ?_
              refine r_get C B fo_X7_202 (cM_0 G s18) rfl dX7_readStatement_74 ?_
              refine lv_iconst (v := (5 : Int32)) hx hb dX7_readStatement_77 rfl ?_
              refine lv_icmp_ne (tgt := 122) hx hb dX7_readStatement_78 (by decide) (fun q20 => ?_) (fun q20 => ?_)
              · have h := ig h q20
                refine lv_iconst (v := (1 : Int32)) hx hb dX7_readStatement_122 rfl ?_
                obtain ⟨rfl, rfl⟩ := ret2 h
                exact r_iret C B hr nar_1 dX7_readStatement_123
              · have h := ip h q20
                refine lv_aload_n hx hb dX7_readStatement_81 rfl (lv_at hl 0 rfl) ?_
                obtain ⟨r22, q21, h⟩ := bd_o h
                refine r_callVi (rest := []) C B hl (c_X7_isFigure G s18 r22 q21) cs_X7_219 (cM_0 G s18) rfl rfl rfl (Nat.le_of_ble_eq_true rfl) ⟨rfl, rfl, Nat.le_of_ble_eq_true rfl, Nat.le_of_ble_eq_true rfl⟩ dX7_readStatement_82 (fun H locs B => ?_)
                refine lv_if_eq (tgt := 122) hx hb dX7_readStatement_85 (by decide) (fun q23 => ?_) (fun q23 => ?_)
                · have h := ip h q23
                  refine lv_iconst (v := (1 : Int32)) hx hb dX7_readStatement_122 rfl ?_
                  obtain ⟨rfl, rfl⟩ := ret2 h
                  exact r_iret C B hr nar_1 dX7_readStatement_123
                · have h := ig h q23
                  refine lv_aload_n hx hb dX7_readStatement_88 rfl (lv_at hl 0 rfl) ?_
                  refine lv_bipush (v := (10 : Int32)) hx hb dX7_readStatement_89 rfl ?_
                  refine lv_aload_n hx hb dX7_readStatement_91 rfl (lv_at hl 0 rfl) ?_
                  refine r_get C B fo_X7_240 (cM_0 G s18) rfl dX7_readStatement_92 ?_
                  refine lv_imul hx hb dX7_readStatement_95 ?_
                  refine lv_aload_n hx hb dX7_readStatement_96 rfl (lv_at hl 0 rfl) ?_
                  refine r_get C B fo_X7_32 (cM_0 G s18) rfl dX7_readStatement_97 ?_
                  refine lv_aload_n hx hb dX7_readStatement_100 rfl (lv_at hl 0 rfl) ?_
                  refine r_get C B fo_X7_190 (cM_0 G s18) rfl dX7_readStatement_101 ?_
                  obtain ⟨q24, h⟩ := gd_o h
                  refine r_iald C B (cM_7 G s18) (inb_vp q24) dX7_readStatement_104 ?_
                  refine lv_iadd hx hb dX7_readStatement_105 ?_
                  refine lv_bipush (v := (48 : Int32)) hx hb dX7_readStatement_106 rfl ?_
                  refine lv_isub hx hb dX7_readStatement_108 ?_
                  obtain ⟨s25, q26, h⟩ := nm_o h
                  refine r_put C B fp_X7_240 (cM_0 G s18) (Nat.le_of_ble_eq_true rfl) rfl rfl ((uMs_9 G s18 _).trans (congrArg (wM G) q26.symm)) dX7_readStatement_109 (fun H locs B => ?_)
                  refine lv_aload_n hx hb dX7_readStatement_112 rfl (lv_at hl 0 rfl) ?_
                  refine lv_dup hx hb dX7_readStatement_113 rfl ?_
                  refine r_get C B fo_X7_190 (cM_0 G s25) rfl dX7_readStatement_114 ?_
                  refine lv_iconst (v := (1 : Int32)) hx hb dX7_readStatement_117 rfl ?_
                  refine lv_iadd hx hb dX7_readStatement_118 ?_
                  obtain ⟨s27, q28, h⟩ := nm_o h
                  refine r_put C B fp_X7_190 (cM_0 G s25) (Nat.le_of_ble_eq_true rfl) rfl rfl ((uMs_4 G s25 _).trans (congrArg (wM G) q28.symm)) dX7_readStatement_119 (fun H locs B => ?_)
                  refine lv_iconst (v := (1 : Int32)) hx hb dX7_readStatement_122 rfl ?_
                  obtain ⟨rfl, rfl⟩ := ret2 h
                  exact r_iret C B hr nar_1 dX7_readStatement_123
            · have h := ip h q17
              refine lv_iconst (v := (0 : Int32)) hx hb dX7_readStatement_63 rfl ?_
              obtain ⟨rfl, rfl⟩ := ret2 h
              exact r_iret C B hr nar_0 dX7_readStatement_64
          · have h := ip h q13
            refine lv_iconst (v := (1 : Int32)) hx hb dX7_readStatement_54 rfl ?_
            obtain ⟨rfl, rfl⟩ := ret2 h
            exact r_iret C B hr nar_1 dX7_readStatement_55
      · have h := ip h q9
        refine lv_iconst (v := (0 : Int32)) hx hb dX7_readStatement_29 rfl ?_
        obtain ⟨rfl, rfl⟩ := ret2 h
        exact r_iret C B hr nar_0 dX7_readStatement_30
    · have h := ip h q5
      refine lv_aload_n hx hb dX7_readStatement_17 rfl (lv_at hl 0 rfl) ?_
      obtain ⟨r31, s30, q29, h⟩ := bd2_o h
      refine r_callVi (rest := []) C B hl (c_X7_readSet G n s2 r31 s30 q29) cs_X7_234 (cM_0 G s2) rfl rfl rfl (Nat.le_of_ble_eq_true rfl) ⟨rfl, rfl, Nat.le_of_ble_eq_true rfl, Nat.le_of_ble_eq_true rfl⟩ dX7_readStatement_18 (fun H locs B => ?_)
      obtain ⟨q32, h⟩ := gd_o h
      obtain ⟨rfl, rfl⟩ := ret2 h
      exact r_iret C B hr (bz_nar q32) dX7_readStatement_21
  · have h := ip h q4
    refine lv_iconst (v := (0 : Int32)) hx hb dX7_readStatement_7 rfl ?_
    obtain ⟨rfl, rfl⟩ := ret2 h
    exact r_iret C B hr nar_0 dX7_readStatement_8
