/-! WALKS (M 3): each method comes back with what its plain function says -/
set_option maxRecDepth 100000 in
set_option maxHeartbeats 4000000 in
theorem c_X7_weightOf (G : GT) (n : Nat) (s0 : ST) (v1 : Int32) (r : Int32) (h : X7_weightOf n s0 v1 = some r) : Con G yX7_weightOf cX7_weightOf 4 (some .int) rm_X7_weightOf [.ref (gad G 0), .int v1] (wM G s0) (some (.int r)) (wM G s0) := by
  unfold X7_weightOf at h
  refine con_of (by decide +kernel) (Nat.le_of_ble_eq_true rfl) (fun {p e s m below meth c} C hr {H locs ls} B hl => ?_)
  have hx := C.1
  have hb := C.2.1
  have hl : lv_has ls 4 [(0, .ref (gad G 0)), (1, .int v1)] := hl
  refine lv_iconst (v := (0 : Int32)) hx hb dX7_weightOf_0 rfl ?_
  refine lv_istore_n (lv' := [(2, .int (0 : Int32)), (0, .ref (gad G 0)), (1, .int v1)]) hx hb dX7_weightOf_1 rfl hl (by decide) rfl (fun ls hl => ?_)
  refine lv_iconst (v := (0 : Int32)) hx hb dX7_weightOf_2 rfl ?_
  refine lv_istore_n (lv' := [(3, .int (0 : Int32)), (2, .int (0 : Int32)), (0, .ref (gad G 0)), (1, .int v1)]) hx hb dX7_weightOf_3 rfl hl (by decide) rfl (fun ls hl => ?_)
  obtain ⟨e14, q15, h⟩ := bd_o h
  refine l_X7_weightOf_L1 C hr s0 v1 n (0 : Int32) (0 : Int32) e14 q15 ?_ H locs ls B (lv_sub hl [2, 3, 0, 1] rfl)
  intro H locs ls B hl
  refine lv_iload_n hx hb dX7_weightOf_39 rfl (lv_at hl 0 rfl) ?_
  obtain rfl := ret1 h
  exact r_iret C B hr rfl dX7_weightOf_40
def rm_X7_heaviest : Room := { frames := 5, cells := 0, slots := 0, locals := 112 }
set_option maxRecDepth 100000 in
set_option maxHeartbeats 4000000 in
theorem l_X7_heaviest_L1 {G : GT} {p : Program} {e : Env} {s : State} {m : MethodId} {args : Array Value} {below : List Frame} {meth : Method} {c : Code} {Q : State → Prop} (C : CT G p s m meth c args cX7_heaviest 5 RX7) (hr : meth.sig.returnType = (some .int)) (n : Nat) (s0 : ST) (v2 : Int32) : ∀ (k : Nat) (v4 : Int32) (v3 : Int32) (e1 : Int32), X7_heaviest_L1 n s0 k v4 v3 = some e1 → Kn G p e rm_X7_heaviest s m args below meth c Q 5 74 [(0, .ref (gad G 0)), (2, .int v2), (3, .int e1)] (wM G s0) → Kn G p e rm_X7_heaviest s m args below meth c Q 5 28 [(0, .ref (gad G 0)), (2, .int v2), (4, .int v4), (3, .int v3)] (wM G s0) := by
  have hx := C.1
  have hb := C.2.1
  intro k
  induction k with
  | zero =>
    intro v4 v3 e1 h
    exact nso h
  | succ k ih =>
    intro v4 v3 e1 h hk H locs ls B hl
    have h : X7_heaviest_L1_b n s0 (X7_heaviest_L1 n s0 k) v4 v3 = some e1 := h
    unfold X7_heaviest_L1_b at h
    refine lv_iload hx hb dX7_heaviest_28 (lv_at hl 2 rfl) ?_
    refine lv_aload_n hx hb dX7_heaviest_30 rfl (lv_at hl 0 rfl) ?_
    obtain ⟨r10, q9, h⟩ := bd_o h
    refine r_callVi (rest := [.int v4]) C B hl (c_X7_all G s0 r10 q9) cs_X7_67 (cM_0 G s0) rfl rfl rfl (Nat.le_of_ble_eq_true rfl) ⟨rfl, rfl, Nat.le_of_ble_eq_true rfl, Nat.le_of_ble_eq_true rfl⟩ dX7_heaviest_31 (fun H locs B => ?_)
    refine lv_icmp_gt (tgt := 74) hx hb dX7_heaviest_34 (by decide) (fun q11 => ?_) (fun q11 => ?_)
    · have h := ip h q11
      obtain rfl := ret1 h
      exact hk H locs ls B (lv_sub hl [0, 1, 3] rfl)
    · have h := ig h q11
      refine lv_aload_n hx hb dX7_heaviest_37 rfl (lv_at hl 0 rfl) ?_
      refine r_get C B fo_X7_42 (cM_0 G s0) rfl dX7_heaviest_38 ?_
      refine lv_iload hx hb dX7_heaviest_41 (lv_at hl 2 rfl) ?_
      obtain ⟨q12, h⟩ := gd_o h
      refine r_zald C B (cM_10 G s0) (inb_vp q12) dX7_heaviest_43 ?_
      refine lv_if_eq (tgt := 68) hx hb dX7_heaviest_44 (by decide) (fun q13 => ?_) (fun q13 => ?_)
      · have h := ip h q13
        obtain ⟨v4_14, q15, h⟩ := nm_o h
        refine lv_iinc (v := v4_14) (lv' := [(4, .int v4_14), (0, .ref (gad G 0)), (2, .int v2), (3, .int v3)]) hx hb dX7_heaviest_68 hl (k := 2) rfl q15.symm (by decide) rfl (fun ls hl => ?_)
        refine lv_goto (tgt := 28) hx hb dX7_heaviest_71 (by decide) ?_
        exact ih v4_14 v3 e1 h hk H locs ls B (lv_sub hl [1, 2, 0, 3] rfl)
      · have h := ig h q13
        refine lv_iload_n hx hb dX7_heaviest_47 rfl (lv_at hl 3 rfl) ?_
        refine lv_if_lt (tgt := 65) hx hb dX7_heaviest_48 (by decide) (fun q16 => ?_) (fun q16 => ?_)
        · have h := ip h q16
          refine lv_iload hx hb dX7_heaviest_65 (lv_at hl 2 rfl) ?_
          refine lv_istore_n (lv' := [(3, .int v4), (0, .ref (gad G 0)), (2, .int v2), (4, .int v4)]) hx hb dX7_heaviest_67 rfl hl (by decide) rfl (fun ls hl => ?_)
          obtain ⟨v4_17, q18, h⟩ := nm_o h
          refine lv_iinc (v := v4_17) (lv' := [(4, .int v4_17), (3, .int v4), (0, .ref (gad G 0)), (2, .int v2)]) hx hb dX7_heaviest_68 hl (k := 3) rfl q18.symm (by decide) rfl (fun ls hl => ?_)
          refine lv_goto (tgt := 28) hx hb dX7_heaviest_71 (by decide) ?_
          exact ih v4_17 v4 e1 h hk H locs ls B (lv_sub hl [2, 3, 0, 1] rfl)
        · have h := ig h q16
          refine lv_aload_n hx hb dX7_heaviest_51 rfl (lv_at hl 0 rfl) ?_
          refine lv_iload hx hb dX7_heaviest_52 (lv_at hl 2 rfl) ?_
          obtain ⟨r20, q19, h⟩ := bd_o h
          refine r_callVi (rest := []) C B hl (c_X7_weightOf G n s0 v4 r20 q19) cs_X7_147 (cM_0 G s0) rfl rfl rfl (Nat.le_of_ble_eq_true rfl) ⟨rfl, rfl, Nat.le_of_ble_eq_true rfl, Nat.le_of_ble_eq_true rfl⟩ dX7_heaviest_54 (fun H locs B => ?_)
          refine lv_aload_n hx hb dX7_heaviest_57 rfl (lv_at hl 0 rfl) ?_
          refine lv_iload_n hx hb dX7_heaviest_58 rfl (lv_at hl 3 rfl) ?_
          obtain ⟨r22, q21, h⟩ := bd_o h
          refine r_callVi (rest := [.int r20]) C B hl (c_X7_weightOf G n s0 v3 r22 q21) cs_X7_147 (cM_0 G s0) rfl rfl rfl (Nat.le_of_ble_eq_true rfl) ⟨rfl, rfl, Nat.le_of_ble_eq_true rfl, Nat.le_of_ble_eq_true rfl⟩ dX7_heaviest_59 (fun H locs B => ?_)
          refine lv_icmp_le (tgt := 68) hx hb dX7_heaviest_62 (by decide) (fun q23 => ?_) (fun q23 => ?_)
          · have h := ip h q23
            obtain ⟨v4_24, q25, h⟩ := nm_o h
            refine lv_iinc (v := v4_24) (lv' := [(4, .int v4_24), (0, .ref (gad G 0)), (2, .int v2), (3, .int v3)]) hx hb dX7_heaviest_68 hl (k := 2) rfl q25.symm (by decide) rfl (fun ls hl => ?_)
            refine lv_goto (tgt := 28) hx hb dX7_heaviest_71 (by decide) ?_
            exact ih v4_24 v3 e1 h hk H locs ls B (lv_sub hl [1, 2, 0, 3] rfl)
          · have h := ig h q23
            refine lv_iload hx hb dX7_heaviest_65 (lv_at hl 2 rfl) ?_
            refine lv_istore_n (lv' := [(3, .int v4), (0, .ref (gad G 0)), (2, .int v2), (4, .int v4)]) hx hb dX7_heaviest_67 rfl hl (by decide) rfl (fun ls hl => ?_)
            obtain ⟨v4_26, q27, h⟩ := nm_o h
            refine lv_iinc (v := v4_26) (lv' := [(4, .int v4_26), (3, .int v4), (0, .ref (gad G 0)), (2, .int v2)]) hx hb dX7_heaviest_68 hl (k := 3) rfl q27.symm (by decide) rfl (fun ls hl => ?_)
            refine lv_goto (tgt := 28) hx hb dX7_heaviest_71 (by decide) ?_
            exact ih v4_26 v4 e1 h hk H locs ls B (lv_sub hl [2, 3, 0, 1] rfl)
set_option maxRecDepth 100000 in
set_option maxHeartbeats 4000000 in
theorem c_X7_heaviest (G : GT) (n : Nat) (s0 : ST) (v1 : Int32) (v2 : Int32) (r : Int32) (s' : ST) (h : X7_heaviest n s0 v1 v2 = some (r, s')) : Con G yX7_heaviest cX7_heaviest 5 (some .int) rm_X7_heaviest [.ref (gad G 0), .int v1, .int v2] (wM G s0) (some (.int r)) (wM G s') := by
  unfold X7_heaviest at h
  refine con_of (by decide +kernel) (Nat.le_of_ble_eq_true rfl) (fun {p e s m below meth c} C hr {H locs ls} B hl => ?_)
  have hx := C.1
  have hb := C.2.1
  have hl : lv_has ls 5 [(0, .ref (gad G 0)), (1, .int v1), (2, .int v2)] := hl
  refine lv_iload_n hx hb dX7_heaviest_0 rfl (lv_at hl 1 rfl) ?_
  obtain ⟨r1, q2, h⟩ := bd_o h
  refine r_callSi (rest := []) C B.2.2 hl (c_X7_isSide G v1 r1 q2) cs_X7_131 rfl rfl (Nat.le_of_ble_eq_true rfl) ⟨rfl, rfl, Nat.le_of_ble_eq_true rfl, Nat.le_of_ble_eq_true rfl⟩ dX7_heaviest_1 ?_
  refine lv_if_eq (tgt := 16) hx hb dX7_heaviest_4 (by decide) (fun q3 => ?_) (fun q3 => ?_)
  · have h := ip h q3
    refine lv_iconst (v := (-1 : Int32)) hx hb dX7_heaviest_16 rfl ?_
    obtain ⟨rfl, rfl⟩ := ret2 h
    exact r_iret C B hr rfl dX7_heaviest_17
  · have h := ig h q3
    refine lv_iload_n hx hb dX7_heaviest_7 rfl (lv_at hl 2 rfl) ?_
    refine lv_iconst (v := (0 : Int32)) hx hb dX7_heaviest_8 rfl ?_
    refine lv_iconst (v := (1 : Int32)) hx hb dX7_heaviest_9 rfl ?_
    obtain ⟨r4, q5, h⟩ := bd_o h
    refine r_callSi (rest := []) C B.2.2 hl (c_X7_in G v2 (0 : Int32) (1 : Int32) r4 q5) cs_X7_63 rfl rfl (Nat.le_of_ble_eq_true rfl) ⟨rfl, rfl, Nat.le_of_ble_eq_true rfl, Nat.le_of_ble_eq_true rfl⟩ dX7_heaviest_10 ?_
    refine lv_if_ne (tgt := 18) hx hb dX7_heaviest_13 (by decide) (fun q6 => ?_) (fun q6 => ?_)
    · have h := ig h q6
      refine lv_aload_n hx hb dX7_heaviest_18 rfl (lv_at hl 0 rfl) ?_
      refine lv_iload_n hx hb dX7_heaviest_19 rfl (lv_at hl 1 rfl) ?_
      obtain ⟨s8, q7, h⟩ := bd_o h
      refine r_callVv (rest := []) C B hl (c_X7_lay G n s0 v1 s8 q7) cs_X7_134 (cM_0 G s0) rfl rfl rfl (Nat.le_of_ble_eq_true rfl) ⟨rfl, rfl, Nat.le_of_ble_eq_true rfl, Nat.le_of_ble_eq_true rfl⟩ dX7_heaviest_20 (fun H locs B => ?_)
      refine lv_iconst (v := (-1 : Int32)) hx hb dX7_heaviest_23 rfl ?_
      refine lv_istore_n (lv' := [(3, .int (-1 : Int32)), (0, .ref (gad G 0)), (1, .int v1), (2, .int v2)]) hx hb dX7_heaviest_24 rfl hl (by decide) rfl (fun ls hl => ?_)
      refine lv_iconst (v := (0 : Int32)) hx hb dX7_heaviest_25 rfl ?_
      refine lv_istore (lv' := [(4, .int (0 : Int32)), (3, .int (-1 : Int32)), (0, .ref (gad G 0)), (1, .int v1), (2, .int v2)]) hx hb dX7_heaviest_26 hl (by decide) rfl (fun ls hl => ?_)
      obtain ⟨e28, q29, h⟩ := bd_o h
      refine l_X7_heaviest_L1 C hr n s8 v2 n (0 : Int32) (-1 : Int32) e28 q29 ?_ H locs ls B (lv_sub hl [2, 4, 0, 1] rfl)
      intro H locs ls B hl
      refine lv_iload_n hx hb dX7_heaviest_74 rfl (lv_at hl 1 rfl) ?_
      refine lv_if_ne (tgt := 82) hx hb dX7_heaviest_75 (by decide) (fun q30 => ?_) (fun q30 => ?_)
      · have h := ig h q30
        refine lv_aload_n hx hb dX7_heaviest_82 rfl (lv_at hl 0 rfl) ?_
        refine lv_iload_n hx hb dX7_heaviest_83 rfl (lv_at hl 2 rfl) ?_
        obtain ⟨r32, q31, h⟩ := bd_o h
        refine r_callVi (rest := []) C B hl (c_X7_weightOf G n s8 e28 r32 q31) cs_X7_147 (cM_0 G s8) rfl rfl rfl (Nat.le_of_ble_eq_true rfl) ⟨rfl, rfl, Nat.le_of_ble_eq_true rfl, Nat.le_of_ble_eq_true rfl⟩ dX7_heaviest_84 (fun H locs B => ?_)
        obtain ⟨rfl, rfl⟩ := ret2 h
        exact r_iret C B hr rfl dX7_heaviest_87
      · have h := ip h q30
        refine lv_iload_n hx hb dX7_heaviest_78 rfl (lv_at hl 2 rfl) ?_
        refine lv_goto (tgt := 87) hx hb dX7_heaviest_79 (by decide) ?_
        obtain ⟨rfl, rfl⟩ := ret2 h
        exact r_iret C B hr rfl dX7_heaviest_87
    · have h := ip h q6
      refine lv_iconst (v := (-1 : Int32)) hx hb dX7_heaviest_16 rfl ?_
      obtain ⟨rfl, rfl⟩ := ret2 h
      exact r_iret C B hr rfl dX7_heaviest_17
def rm_X7_alike : Room := { frames := 5, cells := 0, slots := 0, locals := 112 }
set_option maxRecDepth 100000 in
set_option maxHeartbeats 4000000 in
theorem l_X7_alike_L1 {G : GT} {p : Program} {e : Env} {s : State} {m : MethodId} {args : Array Value} {below : List Frame} {meth : Method} {c : Code} {Q : State → Prop} (C : CT G p s m meth c args cX7_alike 4 RX7) (hr : meth.sig.returnType = (some .int)) (v2 : Int32) : ∀ (k : Nat) (v3 : Int32) (s0 : ST) (e1 : ST), X7_alike_L1  k v3 s0 = some e1 → Kn G p e rm_X7_alike s m args below meth c Q 4 49 [(0, .ref (gad G 0)), (2, .int v2)] (wM G e1) → Kn G p e rm_X7_alike s m args below meth c Q 4 23 [(0, .ref (gad G 0)), (2, .int v2), (3, .int v3)] (wM G s0) := by
  have hx := C.1
  have hb := C.2.1
  intro k
  induction k with
  | zero =>
    intro v3 s0 e1 h
    exact nso h
  | succ k ih =>
    intro v3 s0 e1 h hk H locs ls B hl
    have h : X7_alike_L1_b  (X7_alike_L1  k) v3 s0 = some e1 := h
    unfold X7_alike_L1_b at h
    refine lv_iload_n hx hb dX7_alike_23 rfl (lv_at hl 2 rfl) ?_
    refine lv_aload_n hx hb dX7_alike_24 rfl (lv_at hl 0 rfl) ?_
    obtain ⟨r10, q9, h⟩ := bd_o h
    refine r_callVi (rest := [.int v3]) C B hl (c_X7_all G s0 r10 q9) cs_X7_67 (cM_0 G s0) rfl rfl rfl (Nat.le_of_ble_eq_true rfl) ⟨rfl, rfl, Nat.le_of_ble_eq_true rfl, Nat.le_of_ble_eq_true rfl⟩ dX7_alike_25 (fun H locs B => ?_)
    refine lv_icmp_gt (tgt := 49) hx hb dX7_alike_28 (by decide) (fun q11 => ?_) (fun q11 => ?_)
    · have h := ip h q11
      obtain rfl := ret1 h
      exact hk H locs ls B (lv_sub hl [0, 1] rfl)
    · have h := ig h q11
      refine lv_aload_n hx hb dX7_alike_31 rfl (lv_at hl 0 rfl) ?_
      refine r_get C B fo_X7_48 (cM_0 G s0) rfl dX7_alike_32 ?_
      refine lv_iload_n hx hb dX7_alike_35 rfl (lv_at hl 2 rfl) ?_
      refine lv_aload_n hx hb dX7_alike_36 rfl (lv_at hl 0 rfl) ?_
      refine r_get C B fo_X7_45 (cM_0 G s0) rfl dX7_alike_37 ?_
      refine lv_iload_n hx hb dX7_alike_40 rfl (lv_at hl 2 rfl) ?_
      obtain ⟨q12, h⟩ := gd_o h
      refine r_iald C B (cM_11 G s0) (inb_vp q12) dX7_alike_41 ?_
      obtain ⟨q13, h⟩ := gd_o h
      obtain ⟨s14, q15, h⟩ := nm_o h
      refine r_iast C B (cM_12 G s0) (inb_vp q13) ((uMa_11 G s0 _).trans (congrArg (wM G) q15.symm)) dX7_alike_42 (fun H locs B => ?_)
      obtain ⟨v3_16, q17, h⟩ := nm_o h
      refine lv_iinc (v := v3_16) (lv' := [(3, .int v3_16), (0, .ref (gad G 0)), (2, .int v2)]) hx hb dX7_alike_43 hl (k := 2) rfl q17.symm (by decide) rfl (fun ls hl => ?_)
      refine lv_goto (tgt := 23) hx hb dX7_alike_46 (by decide) ?_
      exact ih v3_16 s14 e1 h hk H locs ls B (lv_sub hl [1, 2, 0] rfl)
set_option maxRecDepth 100000 in
set_option maxHeartbeats 4000000 in
theorem l_X7_alike_L2 {G : GT} {p : Program} {e : Env} {s : State} {m : MethodId} {args : Array Value} {below : List Frame} {meth : Method} {c : Code} {Q : State → Prop} (C : CT G p s m meth c args cX7_alike 4 RX7) (hr : meth.sig.returnType = (some .int)) (s0 : ST) : ∀ (k : Nat) (v3 : Int32) (e1 : (Int32 × ST) ⊕ (Unit)), X7_alike_L2 s0 k v3 = some e1 → (∀ rv, e1 = Sum.inl rv → Q = QR G below args s (some (.int rv.1)) (wM G rv.2)) → (∀ ex, e1 = Sum.inr ex → Kn G p e rm_X7_alike s m args below meth c Q 4 87 [] (wM G s0)) → Kn G p e rm_X7_alike s m args below meth c Q 4 56 [(0, .ref (gad G 0)), (3, .int v3)] (wM G s0) := by
  have hx := C.1
  have hb := C.2.1
  intro k
  induction k with
  | zero =>
    intro v3 e1 h
    exact nso h
  | succ k ih =>
    intro v3 e1 h hret hk H locs ls B hl
    have h : X7_alike_L2_b s0 (X7_alike_L2 s0 k) v3 = some e1 := h
    unfold X7_alike_L2_b at h
    refine lv_iload_n hx hb dX7_alike_56 rfl (lv_at hl 1 rfl) ?_
    refine lv_aload_n hx hb dX7_alike_57 rfl (lv_at hl 0 rfl) ?_
    obtain ⟨r23, q22, h⟩ := bd_o h
    refine r_callVi (rest := [.int v3]) C B hl (c_X7_all G s0 r23 q22) cs_X7_67 (cM_0 G s0) rfl rfl rfl (Nat.le_of_ble_eq_true rfl) ⟨rfl, rfl, Nat.le_of_ble_eq_true rfl, Nat.le_of_ble_eq_true rfl⟩ dX7_alike_58 (fun H locs B => ?_)
    refine lv_icmp_gt (tgt := 87) hx hb dX7_alike_61 (by decide) (fun q24 => ?_) (fun q24 => ?_)
    · have h := ip h q24
      obtain rfl := ret1 h
      exact hk _ rfl H locs ls B (lv_sub hl [] rfl)
    · have h := ig h q24
      refine lv_aload_n hx hb dX7_alike_64 rfl (lv_at hl 0 rfl) ?_
      refine r_get C B fo_X7_45 (cM_0 G s0) rfl dX7_alike_65 ?_
      refine lv_iload_n hx hb dX7_alike_68 rfl (lv_at hl 1 rfl) ?_
      obtain ⟨q25, h⟩ := gd_o h
      refine r_iald C B (cM_11 G s0) (inb_vp q25) dX7_alike_69 ?_
      refine lv_aload_n hx hb dX7_alike_70 rfl (lv_at hl 0 rfl) ?_
      refine r_get C B fo_X7_48 (cM_0 G s0) rfl dX7_alike_71 ?_
      refine lv_iload_n hx hb dX7_alike_74 rfl (lv_at hl 1 rfl) ?_
      obtain ⟨q26, h⟩ := gd_o h
      refine r_iald C B (cM_12 G s0) (inb_vp q26) dX7_alike_75 ?_
      refine lv_icmp_eq (tgt := 81) hx hb dX7_alike_76 (by decide) (fun q27 => ?_) (fun q27 => ?_)
      · have h := ip h q27
        obtain ⟨v3_28, q29, h⟩ := nm_o h
        refine lv_iinc (v := v3_28) (lv' := [(3, .int v3_28), (0, .ref (gad G 0))]) hx hb dX7_alike_81 hl (k := 1) rfl q29.symm (by decide) rfl (fun ls hl => ?_)
        refine lv_goto (tgt := 56) hx hb dX7_alike_84 (by decide) ?_
        exact ih v3_28 e1 h hret hk H locs ls B (lv_sub hl [1, 0] rfl)
      · have h := ig h q27
        refine lv_iload_n hx hb dX7_alike_79 rfl (lv_at hl 1 rfl) ?_
        obtain rfl := ret1 h
        rw [hret _ rfl]
        exact r_iret C B hr rfl dX7_alike_80
set_option maxRecDepth 100000 in
set_option maxHeartbeats 4000000 in
theorem c_X7_alike (G : GT) (n : Nat) (s0 : ST) (v1 : Int32) (v2 : Int32) (r : Int32) (s' : ST) (h : X7_alike n s0 v1 v2 = some (r, s')) : Con G yX7_alike cX7_alike 4 (some .int) rm_X7_alike [.ref (gad G 0), .int v1, .int v2] (wM G s0) (some (.int r)) (wM G s') := by
  unfold X7_alike at h
  refine con_of (by decide +kernel) (Nat.le_of_ble_eq_true rfl) (fun {p e s m below meth c} C hr {H locs ls} B hl => ?_)
  have hx := C.1
  have hb := C.2.1
  have hl : lv_has ls 4 [(0, .ref (gad G 0)), (1, .int v1), (2, .int v2)] := hl
  refine lv_iload_n hx hb dX7_alike_0 rfl (lv_at hl 1 rfl) ?_
  obtain ⟨r1, q2, h⟩ := bd_o h
  refine r_callSi (rest := []) C B.2.2 hl (c_X7_isSide G v1 r1 q2) cs_X7_131 rfl rfl (Nat.le_of_ble_eq_true rfl) ⟨rfl, rfl, Nat.le_of_ble_eq_true rfl, Nat.le_of_ble_eq_true rfl⟩ dX7_alike_1 ?_
  refine lv_if_eq (tgt := 14) hx hb dX7_alike_4 (by decide) (fun q3 => ?_) (fun q3 => ?_)
  · have h := ip h q3
    refine lv_iconst (v := (-1 : Int32)) hx hb dX7_alike_14 rfl ?_
    obtain ⟨rfl, rfl⟩ := ret2 h
    exact r_iret C B hr rfl dX7_alike_15
  · have h := ig h q3
    refine lv_iload_n hx hb dX7_alike_7 rfl (lv_at hl 2 rfl) ?_
    obtain ⟨r4, q5, h⟩ := bd_o h
    refine r_callSi (rest := []) C B.2.2 hl (c_X7_isSide G v2 r4 q5) cs_X7_131 rfl rfl (Nat.le_of_ble_eq_true rfl) ⟨rfl, rfl, Nat.le_of_ble_eq_true rfl, Nat.le_of_ble_eq_true rfl⟩ dX7_alike_8 ?_
    refine lv_if_ne (tgt := 16) hx hb dX7_alike_11 (by decide) (fun q6 => ?_) (fun q6 => ?_)
    · have h := ig h q6
      refine lv_aload_n hx hb dX7_alike_16 rfl (lv_at hl 0 rfl) ?_
      refine lv_iload_n hx hb dX7_alike_17 rfl (lv_at hl 1 rfl) ?_
      obtain ⟨s8, q7, h⟩ := bd_o h
      refine r_callVv (rest := []) C B hl (c_X7_lay G n s0 v1 s8 q7) cs_X7_134 (cM_0 G s0) rfl rfl rfl (Nat.le_of_ble_eq_true rfl) ⟨rfl, rfl, Nat.le_of_ble_eq_true rfl, Nat.le_of_ble_eq_true rfl⟩ dX7_alike_18 (fun H locs B => ?_)
      refine lv_iconst (v := (0 : Int32)) hx hb dX7_alike_21 rfl ?_
      refine lv_istore_n (lv' := [(3, .int (0 : Int32)), (0, .ref (gad G 0)), (1, .int v1), (2, .int v2)]) hx hb dX7_alike_22 rfl hl (by decide) rfl (fun ls hl => ?_)
      obtain ⟨e18, q19, h⟩ := bd_o h
      refine l_X7_alike_L1 C hr v2 n (0 : Int32) s8 e18 q19 ?_ H locs ls B (lv_sub hl [1, 3, 0] rfl)
      intro H locs ls B hl
      refine lv_aload_n hx hb dX7_alike_49 rfl (lv_at hl 0 rfl) ?_
      refine lv_iload_n hx hb dX7_alike_50 rfl (lv_at hl 1 rfl) ?_
      obtain ⟨s21, q20, h⟩ := bd_o h
      refine r_callVv (rest := []) C B hl (c_X7_lay G n e18 v2 s21 q20) cs_X7_134 (cM_0 G e18) rfl rfl rfl (Nat.le_of_ble_eq_true rfl) ⟨rfl, rfl, Nat.le_of_ble_eq_true rfl, Nat.le_of_ble_eq_true rfl⟩ dX7_alike_51 (fun H locs B => ?_)
      refine lv_iconst (v := (0 : Int32)) hx hb dX7_alike_54 rfl ?_
      refine lv_istore_n (lv' := [(3, .int (0 : Int32)), (0, .ref (gad G 0)), (2, .int v2)]) hx hb dX7_alike_55 rfl hl (by decide) rfl (fun ls hl => ?_)
      obtain ⟨e30, q31, h⟩ := bd_o h
      refine l_X7_alike_L2 C hr s21 n (0 : Int32) e30 q31 (fun rv q => by have h := sm_l h q; cases h; rfl) (fun e32 q33 => ?_) H locs ls B (lv_sub hl [1, 0] rfl)
      have h := sm_r h q33
      intro H locs ls B hl
      refine lv_bipush (v := (-5 : Int32)) hx hb dX7_alike_87 rfl ?_
      obtain ⟨rfl, rfl⟩ := ret2 h
      exact r_iret C B hr rfl dX7_alike_89
    · have h := ip h q6
      refine lv_iconst (v := (-1 : Int32)) hx hb dX7_alike_14 rfl ?_
      obtain ⟨rfl, rfl⟩ := ret2 h
      exact r_iret C B hr rfl dX7_alike_15
def rm_X7_cut : Room := { frames := 3, cells := 0, slots := 0, locals := 66 }
set_option maxRecDepth 100000 in
set_option maxHeartbeats 4000000 in
theorem c_X7_cut (G : GT) (n : Nat) (s0 : ST) (v1 : Int32) (r : Int32) (s' : ST) (h : X7_cut n s0 v1 = some (r, s')) : Con G yX7_cut cX7_cut 2 (some .int) rm_X7_cut [.ref (gad G 0), .int v1] (wM G s0) (some (.int r)) (wM G s') := by
  unfold X7_cut at h
  refine con_of (by decide +kernel) (Nat.le_of_ble_eq_true rfl) (fun {p e s m below meth c} C hr {H locs ls} B hl => ?_)
  have hx := C.1
  have hb := C.2.1
  have hl : lv_has ls 2 [(0, .ref (gad G 0)), (1, .int v1)] := hl
  refine lv_aload_n hx hb dX7_cut_0 rfl (lv_at hl 0 rfl) ?_
  refine lv_iload_n hx hb dX7_cut_1 rfl (lv_at hl 1 rfl) ?_
  obtain ⟨r2, q1, h⟩ := bd_o h
  refine r_callVi (rest := []) C B hl (c_X7_isSet G s0 v1 r2 q1) cs_X7_122 (cM_0 G s0) rfl rfl rfl (Nat.le_of_ble_eq_true rfl) ⟨rfl, rfl, Nat.le_of_ble_eq_true rfl, Nat.le_of_ble_eq_true rfl⟩ dX7_cut_2 (fun H locs B => ?_)
  refine lv_if_ne (tgt := 11) hx hb dX7_cut_5 (by decide) (fun q3 => ?_) (fun q3 => ?_)
  · have h := ig h q3
    refine lv_aload_n hx hb dX7_cut_11 rfl (lv_at hl 0 rfl) ?_
    obtain ⟨s5, q4, h⟩ := bd_o h
    refine r_callVv (rest := []) C B hl (c_X7_layCuts G n s0 s5 q4) cs_X7_90 (cM_0 G s0) rfl rfl rfl (Nat.le_of_ble_eq_true rfl) ⟨rfl, rfl, Nat.le_of_ble_eq_true rfl, Nat.le_of_ble_eq_true rfl⟩ dX7_cut_12 (fun H locs B => ?_)
    refine lv_aload_n hx hb dX7_cut_15 rfl (lv_at hl 0 rfl) ?_
    refine lv_iload_n hx hb dX7_cut_16 rfl (lv_at hl 1 rfl) ?_
    obtain ⟨r7, q6, h⟩ := bd_o h
    refine r_callVi (rest := []) C B hl (c_X7_cutOf G n s5 v1 r7 q6) cs_X7_93 (cM_0 G s5) rfl rfl rfl (Nat.le_of_ble_eq_true rfl) ⟨rfl, rfl, Nat.le_of_ble_eq_true rfl, Nat.le_of_ble_eq_true rfl⟩ dX7_cut_17 (fun H locs B => ?_)
    obtain ⟨rfl, rfl⟩ := ret2 h
    exact r_iret C B hr rfl dX7_cut_20
  · have h := ip h q3
    refine lv_bipush (v := (-2 : Int32)) hx hb dX7_cut_8 rfl ?_
    obtain ⟨rfl, rfl⟩ := ret2 h
    exact r_iret C B hr rfl dX7_cut_10
def rm_X7_reach : Room := { frames := 2, cells := 0, slots := 0, locals := 43 }
set_option maxRecDepth 100000 in
set_option maxHeartbeats 4000000 in
theorem l_X7_reach_L2 {G : GT} {p : Program} {e : Env} {s : State} {m : MethodId} {args : Array Value} {below : List Frame} {meth : Method} {c : Code} {Q : State → Prop} (C : CT G p s m meth c args cX7_reach 5 RX7) (hr : meth.sig.returnType = (some .int)) (s0 : ST) (v3 : Int32) : ∀ (k : Nat) (v4 : Int32) (v2 : Int32) (e1 : Int32), X7_reach_L2 s0 k v4 v2 = some e1 → Kn G p e rm_X7_reach s m args below meth c Q 5 63 [(0, .ref (gad G 0)), (3, .int v3), (2, .int e1)] (wM G s0) → Kn G p e rm_X7_reach s m args below meth c Q 5 25 [(0, .ref (gad G 0)), (3, .int v3), (4, .int v4), (2, .int v2)] (wM G s0) := by
  have hx := C.1
  have hb := C.2.1
  intro k
  induction k with
  | zero =>
    intro v4 v2 e1 h
    exact nso h
  | succ k ih =>
    intro v4 v2 e1 h hk H locs ls B hl
    have h : X7_reach_L2_b s0 (X7_reach_L2 s0 k) v4 v2 = some e1 := h
    unfold X7_reach_L2_b at h
    refine lv_iload hx hb dX7_reach_25 (lv_at hl 2 rfl) ?_
    refine lv_aload_n hx hb dX7_reach_27 rfl (lv_at hl 0 rfl) ?_
    refine r_get C B fo_X7_7 (cM_0 G s0) rfl dX7_reach_28 ?_
    refine lv_icmp_ge (tgt := 63) hx hb dX7_reach_31 (by decide) (fun q5 => ?_) (fun q5 => ?_)
    · have h := ip h q5
      obtain rfl := ret1 h
      exact hk H locs ls B (lv_sub hl [0, 1, 3] rfl)
    · have h := ig h q5
      refine lv_iload_n hx hb dX7_reach_34 rfl (lv_at hl 3 rfl) ?_
      refine lv_iload_n hx hb dX7_reach_35 rfl (lv_at hl 3 rfl) ?_
      refine lv_iload hx hb dX7_reach_36 (lv_at hl 2 rfl) ?_
      obtain ⟨r6, q7, h⟩ := bd_o h
      refine r_callSi (rest := [.int v2]) C B.2.2 hl (c_X7_has G v2 v4 r6 q7) cs_X7_77 rfl rfl (Nat.le_of_ble_eq_true rfl) ⟨rfl, rfl, Nat.le_of_ble_eq_true rfl, Nat.le_of_ble_eq_true rfl⟩ dX7_reach_38 ?_
      refine lv_if_eq (tgt := 54) hx hb dX7_reach_41 (by decide) (fun q8 => ?_) (fun q8 => ?_)
      · have h := ip h q8
        refine lv_iconst (v := (0 : Int32)) hx hb dX7_reach_54 rfl ?_
        refine lv_ior hx hb dX7_reach_55 ?_
        obtain ⟨v2_9, q10, h⟩ := nm_o h
        refine r_nm q10 ?_
        refine lv_istore_n (lv' := [(2, .int v2_9), (0, .ref (gad G 0)), (3, .int v3), (4, .int v4)]) hx hb dX7_reach_56 rfl hl (by decide) rfl (fun ls hl => ?_)
        obtain ⟨v4_11, q12, h⟩ := nm_o h
        refine lv_iinc (v := v4_11) (lv' := [(4, .int v4_11), (2, .int v2_9), (0, .ref (gad G 0)), (3, .int v3)]) hx hb dX7_reach_57 hl (k := 3) rfl q12.symm (by decide) rfl (fun ls hl => ?_)
        refine lv_goto (tgt := 25) hx hb dX7_reach_60 (by decide) ?_
        exact ih v4_11 v2_9 e1 h hk H locs ls B (lv_sub hl [2, 3, 0, 1] rfl)
      · have h := ig h q8
        refine lv_aload_n hx hb dX7_reach_44 rfl (lv_at hl 0 rfl) ?_
        refine r_get C B fo_X7_13 (cM_0 G s0) rfl dX7_reach_45 ?_
        refine lv_iload hx hb dX7_reach_48 (lv_at hl 2 rfl) ?_
        obtain ⟨q13, h⟩ := gd_o h
        refine r_iald C B (cM_1 G s0) (inb_vp q13) dX7_reach_50 ?_
        refine lv_goto (tgt := 55) hx hb dX7_reach_51 (by decide) ?_
        refine lv_ior hx hb dX7_reach_55 ?_
        obtain ⟨v2_14, q15, h⟩ := nm_o h
        refine r_nm q15 ?_
        refine lv_istore_n (lv' := [(2, .int v2_14), (0, .ref (gad G 0)), (3, .int v3), (4, .int v4)]) hx hb dX7_reach_56 rfl hl (by decide) rfl (fun ls hl => ?_)
        obtain ⟨v4_16, q17, h⟩ := nm_o h
        refine lv_iinc (v := v4_16) (lv' := [(4, .int v4_16), (2, .int v2_14), (0, .ref (gad G 0)), (3, .int v3)]) hx hb dX7_reach_57 hl (k := 3) rfl q17.symm (by decide) rfl (fun ls hl => ?_)
        refine lv_goto (tgt := 25) hx hb dX7_reach_60 (by decide) ?_
        exact ih v4_16 v2_14 e1 h hk H locs ls B (lv_sub hl [2, 3, 0, 1] rfl)
set_option maxRecDepth 100000 in
set_option maxHeartbeats 4000000 in
theorem l_X7_reach_L1 {G : GT} {p : Program} {e : Env} {s : State} {m : MethodId} {args : Array Value} {below : List Frame} {meth : Method} {c : Code} {Q : State → Prop} (C : CT G p s m meth c args cX7_reach 5 RX7) (hr : meth.sig.returnType = (some .int)) (n : Nat) (s0 : ST) : ∀ (k : Nat) (v3 : Int32) (v2 : Int32) (e1 : Int32), X7_reach_L1 n s0 k v3 v2 = some e1 → Kn G p e rm_X7_reach s m args below meth c Q 5 66 [(2, .int e1)] (wM G s0) → Kn G p e rm_X7_reach s m args below meth c Q 5 15 [(0, .ref (gad G 0)), (3, .int v3), (2, .int v2)] (wM G s0) := by
  have hx := C.1
  have hb := C.2.1
  intro k
  induction k with
  | zero =>
    intro v3 v2 e1 h
    exact nso h
  | succ k ih =>
    intro v3 v2 e1 h hk H locs ls B hl
    have h : X7_reach_L1_b n s0 (X7_reach_L1 n s0 k) v3 v2 = some e1 := h
    unfold X7_reach_L1_b at h
    refine lv_iload_n hx hb dX7_reach_15 rfl (lv_at hl 2 rfl) ?_
    refine lv_iload_n hx hb dX7_reach_16 rfl (lv_at hl 1 rfl) ?_
    refine lv_icmp_eq (tgt := 66) hx hb dX7_reach_17 (by decide) (fun q4 => ?_) (fun q4 => ?_)
    · have h := ip h q4
      obtain rfl := ret1 h
      exact hk H locs ls B (lv_sub hl [2] rfl)
    · have h := ig h q4
      refine lv_iload_n hx hb dX7_reach_20 rfl (lv_at hl 2 rfl) ?_
      refine lv_istore_n (lv' := [(3, .int v2), (0, .ref (gad G 0)), (2, .int v2)]) hx hb dX7_reach_21 rfl hl (by decide) rfl (fun ls hl => ?_)
      refine lv_iconst (v := (0 : Int32)) hx hb dX7_reach_22 rfl ?_
      refine lv_istore (lv' := [(4, .int (0 : Int32)), (3, .int v2), (0, .ref (gad G 0)), (2, .int v2)]) hx hb dX7_reach_23 hl (by decide) rfl (fun ls hl => ?_)
      obtain ⟨e18, q19, h⟩ := bd_o h
      refine l_X7_reach_L2 C hr s0 v2 n (0 : Int32) v2 e18 q19 ?_ H locs ls B (lv_sub hl [2, 1, 0, 3] rfl)
      intro H locs ls B hl
      refine lv_goto (tgt := 15) hx hb dX7_reach_63 (by decide) ?_
      exact ih v2 e18 e1 h hk H locs ls B (lv_sub hl [0, 1, 2] rfl)
set_option maxRecDepth 100000 in
set_option maxHeartbeats 4000000 in
theorem c_X7_reach (G : GT) (n : Nat) (s0 : ST) (v1 : Int32) (r : Int32) (h : X7_reach n s0 v1 = some r) : Con G yX7_reach cX7_reach 5 (some .int) rm_X7_reach [.ref (gad G 0), .int v1] (wM G s0) (some (.int r)) (wM G s0) := by
  unfold X7_reach at h
  refine con_of (by decide +kernel) (Nat.le_of_ble_eq_true rfl) (fun {p e s m below meth c} C hr {H locs ls} B hl => ?_)
  have hx := C.1
  have hb := C.2.1
  have hl : lv_has ls 5 [(0, .ref (gad G 0)), (1, .int v1)] := hl
  refine lv_aload_n hx hb dX7_reach_0 rfl (lv_at hl 0 rfl) ?_
  refine lv_iload_n hx hb dX7_reach_1 rfl (lv_at hl 1 rfl) ?_
  obtain ⟨r2, q1, h⟩ := bd_o h
  refine r_callVi (rest := []) C B hl (c_X7_isSet G s0 v1 r2 q1) cs_X7_122 (cM_0 G s0) rfl rfl rfl (Nat.le_of_ble_eq_true rfl) ⟨rfl, rfl, Nat.le_of_ble_eq_true rfl, Nat.le_of_ble_eq_true rfl⟩ dX7_reach_2 (fun H locs B => ?_)
  refine lv_if_ne (tgt := 11) hx hb dX7_reach_5 (by decide) (fun q3 => ?_) (fun q3 => ?_)
  · have h := ig h q3
    refine lv_iload_n hx hb dX7_reach_11 rfl (lv_at hl 1 rfl) ?_
    refine lv_istore_n (lv' := [(2, .int v1), (0, .ref (gad G 0)), (1, .int v1)]) hx hb dX7_reach_12 rfl hl (by decide) rfl (fun ls hl => ?_)
    refine lv_iconst (v := (0 : Int32)) hx hb dX7_reach_13 rfl ?_
    refine lv_istore_n (lv' := [(3, .int (0 : Int32)), (2, .int v1), (0, .ref (gad G 0)), (1, .int v1)]) hx hb dX7_reach_14 rfl hl (by decide) rfl (fun ls hl => ?_)
    obtain ⟨e20, q21, h⟩ := bd_o h
    refine l_X7_reach_L1 C hr n s0 n (0 : Int32) v1 e20 q21 ?_ H locs ls B (lv_sub hl [2, 0, 1] rfl)
    intro H locs ls B hl
    refine lv_iload_n hx hb dX7_reach_66 rfl (lv_at hl 0 rfl) ?_
    obtain rfl := ret1 h
    exact r_iret C B hr rfl dX7_reach_67
  · have h := ip h q3
    refine lv_bipush (v := (-2 : Int32)) hx hb dX7_reach_8 rfl ?_
    obtain rfl := ret1 h
    exact r_iret C B hr rfl dX7_reach_10
def rm_X7_canHave : Room := { frames := 2, cells := 0, slots := 0, locals := 45 }
set_option maxRecDepth 100000 in
set_option maxHeartbeats 4000000 in
theorem l_X7_canHave_L1 {G : GT} {p : Program} {e : Env} {s : State} {m : MethodId} {args : Array Value} {below : List Frame} {meth : Method} {c : Code} {Q : State → Prop} (C : CT G p s m meth c args cX7_canHave 4 RX7) (hr : meth.sig.returnType = (some .boolean)) (n : Nat) (s0 : ST) (v1 : Int32) (v2 : Int32) : ∀ (k : Nat) (v3 : Int32) (e1 : (Int32) ⊕ (Unit)), X7_canHave_L1 n s0 v1 v2 k v3 = some e1 → (∀ rv, e1 = Sum.inl rv → Q = QR G below args s (some (.int rv)) (wM G s0)) → (∀ ex, e1 = Sum.inr ex → Kn G p e rm_X7_canHave s m args below meth c Q 4 39 [] (wM G s0)) → Kn G p e rm_X7_canHave s m args below meth c Q 4 2 [(0, .ref (gad G 0)), (1, .int v1), (2, .int v2), (3, .int v3)] (wM G s0) := by
  have hx := C.1
  have hb := C.2.1
  intro k
  induction k with
  | zero =>
    intro v3 e1 h
    exact nso h
  | succ k ih =>
    intro v3 e1 h hret hk H locs ls B hl
    have h : X7_canHave_L1_b n s0 v1 v2 (X7_canHave_L1 n s0 v1 v2 k) v3 = some e1 := h
    unfold X7_canHave_L1_b at h
    refine lv_iload_n hx hb dX7_canHave_2 rfl (lv_at hl 3 rfl) ?_
    refine lv_aload_n hx hb dX7_canHave_3 rfl (lv_at hl 0 rfl) ?_
    obtain ⟨r2, q1, h⟩ := bd_o h
    refine r_callVi (rest := [.int v3]) C B hl (c_X7_all G s0 r2 q1) cs_X7_67 (cM_0 G s0) rfl rfl rfl (Nat.le_of_ble_eq_true rfl) ⟨rfl, rfl, Nat.le_of_ble_eq_true rfl, Nat.le_of_ble_eq_true rfl⟩ dX7_canHave_4 (fun H locs B => ?_)
    refine lv_icmp_gt (tgt := 39) hx hb dX7_canHave_7 (by decide) (fun q3 => ?_) (fun q3 => ?_)
    · have h := ip h q3
      obtain rfl := ret1 h
      exact hk _ rfl H locs ls B (lv_sub hl [] rfl)
    · have h := ig h q3
      refine lv_iload_n hx hb dX7_canHave_10 rfl (lv_at hl 3 rfl) ?_
      refine lv_iload_n hx hb dX7_canHave_11 rfl (lv_at hl 1 rfl) ?_
      refine lv_iconst (v := (-1 : Int32)) hx hb dX7_canHave_12 rfl ?_
      refine lv_ixor hx hb dX7_canHave_13 ?_
      refine lv_iand hx hb dX7_canHave_14 ?_
      refine lv_if_ne (tgt := 33) hx hb dX7_canHave_15 (by decide) (fun q4 => ?_) (fun q4 => ?_)
      · have h := ig h q4
        obtain ⟨v3_5, q6, h⟩ := nm_o h
        refine lv_iinc (v := v3_5) (lv' := [(3, .int v3_5), (0, .ref (gad G 0)), (1, .int v1), (2, .int v2)]) hx hb dX7_canHave_33 hl (k := 3) rfl q6.symm (by decide) rfl (fun ls hl => ?_)
        refine lv_goto (tgt := 2) hx hb dX7_canHave_36 (by decide) ?_
        exact ih v3_5 e1 h hret hk H locs ls B (lv_sub hl [1, 2, 3, 0] rfl)
      · have h := ip h q4
        refine lv_aload_n hx hb dX7_canHave_18 rfl (lv_at hl 0 rfl) ?_
        refine lv_iload_n hx hb dX7_canHave_19 rfl (lv_at hl 3 rfl) ?_
        refine lv_iload_n hx hb dX7_canHave_20 rfl (lv_at hl 2 rfl) ?_
        obtain ⟨r8, q7, h⟩ := bd_o h
        refine r_callVi (rest := []) C B hl (c_X7_meeting G n s0 v3 v2 r8 q7) cs_X7_96 (cM_0 G s0) rfl rfl rfl (Nat.le_of_ble_eq_true rfl) ⟨rfl, rfl, Nat.le_of_ble_eq_true rfl, Nat.le_of_ble_eq_true rfl⟩ dX7_canHave_21 (fun H locs B => ?_)
        refine lv_iload_n hx hb dX7_canHave_24 rfl (lv_at hl 3 rfl) ?_
        obtain ⟨r9, q10, h⟩ := bd_o h
        refine r_callSi (rest := [.int r8]) C B.2.2 hl (c_J6_bitCount G v3 r9 q10) cs_X7_81 rfl rfl (Nat.le_of_ble_eq_true rfl) ⟨rfl, rfl, Nat.le_of_ble_eq_true rfl, Nat.le_of_ble_eq_true rfl⟩ dX7_canHave_25 ?_
        refine lv_icmp_ge (tgt := 33) hx hb dX7_canHave_28 (by decide) (fun q11 => ?_) (fun q11 => ?_)
        · have h := ip h q11
          obtain ⟨v3_12, q13, h⟩ := nm_o h
          refine lv_iinc (v := v3_12) (lv' := [(3, .int v3_12), (0, .ref (gad G 0)), (1, .int v1), (2, .int v2)]) hx hb dX7_canHave_33 hl (k := 3) rfl q13.symm (by decide) rfl (fun ls hl => ?_)
          refine lv_goto (tgt := 2) hx hb dX7_canHave_36 (by decide) ?_
          exact ih v3_12 e1 h hret hk H locs ls B (lv_sub hl [1, 2, 3, 0] rfl)
        · have h := ig h q11
          refine lv_iconst (v := (0 : Int32)) hx hb dX7_canHave_31 rfl ?_
          obtain rfl := ret1 h
          rw [hret _ rfl]
          exact r_iret C B hr nar_0 dX7_canHave_32
set_option maxRecDepth 100000 in
set_option maxHeartbeats 4000000 in
theorem c_X7_canHave (G : GT) (n : Nat) (s0 : ST) (v1 : Int32) (v2 : Int32) (r : Int32) (h : X7_canHave n s0 v1 v2 = some r) : Con G yX7_canHave cX7_canHave 4 (some .boolean) rm_X7_canHave [.ref (gad G 0), .int v1, .int v2] (wM G s0) (some (.int r)) (wM G s0) := by
  unfold X7_canHave at h
  refine con_of (by decide +kernel) (Nat.le_of_ble_eq_true rfl) (fun {p e s m below meth c} C hr {H locs ls} B hl => ?_)
  have hx := C.1
  have hb := C.2.1
  have hl : lv_has ls 4 [(0, .ref (gad G 0)), (1, .int v1), (2, .int v2)] := hl
  refine lv_iconst (v := (0 : Int32)) hx hb dX7_canHave_0 rfl ?_
  refine lv_istore_n (lv' := [(3, .int (0 : Int32)), (0, .ref (gad G 0)), (1, .int v1), (2, .int v2)]) hx hb dX7_canHave_1 rfl hl (by decide) rfl (fun ls hl => ?_)
  obtain ⟨e14, q15, h⟩ := bd_o h
  refine l_X7_canHave_L1 C hr n s0 v1 v2 n (0 : Int32) e14 q15 (fun rv q => by have h := sm_l h q; cases h; rfl) (fun e16 q17 => ?_) H locs ls B (lv_sub hl [1, 2, 3, 0] rfl)
  have h := sm_r h q17
  intro H locs ls B hl
  refine lv_iconst (v := (1 : Int32)) hx hb dX7_canHave_39 rfl ?_
  obtain rfl := ret1 h
  exact r_iret C B hr nar_1 dX7_canHave_40
def rm_X7_partners : Room := { frames := 3, cells := 0, slots := 0, locals := 68 }
set_option maxRecDepth 100000 in
set_option maxHeartbeats 4000000 in
theorem l_X7_partners_L2 {G : GT} {p : Program} {e : Env} {s : State} {m : MethodId} {args : Array Value} {below : List Frame} {meth : Method} {c : Code} {Q : State → Prop} (C : CT G p s m meth c args cX7_partners 7 RX7) (hr : meth.sig.returnType = (some .int)) (n : Nat) (s0 : ST) (v4 : Int32) (v1 : Int32) (v5 : Int32) (v3 : Int32) (v2 : Int32) : ∀ (k : Nat) (v6 : Int32) (e1 : Int32), X7_partners_L2 n s0 v4 v5 v3 k v6 = some e1 → Kn G p e rm_X7_partners s m args below meth c Q 7 113 [(0, .ref (gad G 0)), (4, .int v4), (1, .int v1), (5, .int v5), (3, .int v3), (2, .int v2), (6, .int e1)] (wM G s0) → Kn G p e rm_X7_partners s m args below meth c Q 7 68 [(0, .ref (gad G 0)), (4, .int v4), (1, .int v1), (5, .int v5), (3, .int v3), (2, .int v2), (6, .int v6)] (wM G s0) := by
  have hx := C.1
  have hb := C.2.1
  intro k
  induction k with
  | zero =>
    intro v6 e1 h
    exact nso h
  | succ k ih =>
    intro v6 e1 h hk H locs ls B hl
    have h : X7_partners_L2_b n s0 v4 v5 v3 (X7_partners_L2 n s0 v4 v5 v3 k) v6 = some e1 := h
    unfold X7_partners_L2_b at h
    refine lv_iload_n hx hb dX7_partners_68 rfl (lv_at hl 4 rfl) ?_
    refine lv_iload hx hb dX7_partners_69 (lv_at hl 6 rfl) ?_
    obtain ⟨r13, q14, h⟩ := bd_o h
    refine r_callSi (rest := []) C B.2.2 hl (c_X7_has G v3 v6 r13 q14) cs_X7_77 rfl rfl (Nat.le_of_ble_eq_true rfl) ⟨rfl, rfl, Nat.le_of_ble_eq_true rfl, Nat.le_of_ble_eq_true rfl⟩ dX7_partners_71 ?_
    refine lv_if_ne (tgt := 107) hx hb dX7_partners_74 (by decide) (fun q15 => ?_) (fun q15 => ?_)
    · have h := ig h q15
      obtain ⟨v6_16, q17, h⟩ := nm_o h
      refine lv_iinc (v := v6_16) (lv' := [(6, .int v6_16), (0, .ref (gad G 0)), (4, .int v4), (1, .int v1), (5, .int v5), (3, .int v3), (2, .int v2)]) hx hb dX7_partners_107 hl (k := 6) rfl q17.symm (by decide) rfl (fun ls hl => ?_)
      refine lv_goto (tgt := 68) hx hb dX7_partners_110 (by decide) ?_
      exact ih v6_16 e1 h hk H locs ls B (lv_sub hl [1, 2, 3, 4, 5, 6, 0] rfl)
    · have h := ip h q15
      refine lv_aload_n hx hb dX7_partners_77 rfl (lv_at hl 0 rfl) ?_
      refine r_get C B fo_X7_20 (cM_0 G s0) rfl dX7_partners_78 ?_
      refine lv_iload hx hb dX7_partners_81 (lv_at hl 6 rfl) ?_
      obtain ⟨q18, h⟩ := gd_o h
      refine r_iald C B (cM_3 G s0) (inb_vp q18) dX7_partners_83 ?_
      refine lv_iload hx hb dX7_partners_84 (lv_at hl 3 rfl) ?_
      obtain ⟨r19, q20, h⟩ := bd_o h
      refine r_callSi (rest := []) C B.2.2 hl (c_X7_has G (s0.2.1 2 (v6).toNatClampNeg) v5 r19 q20) cs_X7_77 rfl rfl (Nat.le_of_ble_eq_true rfl) ⟨rfl, rfl, Nat.le_of_ble_eq_true rfl, Nat.le_of_ble_eq_true rfl⟩ dX7_partners_86 ?_
      refine lv_if_eq (tgt := 107) hx hb dX7_partners_89 (by decide) (fun q21 => ?_) (fun q21 => ?_)
      · have h := ip h q21
        obtain ⟨v6_22, q23, h⟩ := nm_o h
        refine lv_iinc (v := v6_22) (lv' := [(6, .int v6_22), (0, .ref (gad G 0)), (4, .int v4), (1, .int v1), (5, .int v5), (3, .int v3), (2, .int v2)]) hx hb dX7_partners_107 hl (k := 6) rfl q23.symm (by decide) rfl (fun ls hl => ?_)
        refine lv_goto (tgt := 68) hx hb dX7_partners_110 (by decide) ?_
        exact ih v6_22 e1 h hk H locs ls B (lv_sub hl [1, 2, 3, 4, 5, 6, 0] rfl)
      · have h := ig h q21
        refine lv_aload_n hx hb dX7_partners_92 rfl (lv_at hl 0 rfl) ?_
        refine lv_iload hx hb dX7_partners_93 (lv_at hl 1 rfl) ?_
        refine lv_iload_n hx hb dX7_partners_95 rfl (lv_at hl 4 rfl) ?_
        refine lv_iconst (v := (1 : Int32)) hx hb dX7_partners_96 rfl ?_
        refine lv_iload hx hb dX7_partners_97 (lv_at hl 6 rfl) ?_
        refine lv_ishl hx hb dX7_partners_99 ?_
        refine lv_ior hx hb dX7_partners_100 ?_
        obtain ⟨r25, q24, h⟩ := bd_o h
        refine r_callVi (rest := []) C B hl (c_X7_canHave G n s0 v4 (v3 ||| ((1 : Int32) <<< (v6 &&& 31))) r25 q24) cs_X7_150 (cM_0 G s0) rfl rfl rfl (Nat.le_of_ble_eq_true rfl) ⟨rfl, rfl, Nat.le_of_ble_eq_true rfl, Nat.le_of_ble_eq_true rfl⟩ dX7_partners_101 (fun H locs B => ?_)
        refine lv_if_ne (tgt := 113) hx hb dX7_partners_104 (by decide) (fun q26 => ?_) (fun q26 => ?_)
        · have h := ig h q26
          obtain rfl := ret1 h
          exact hk H locs ls B (lv_sub hl [0, 1, 2, 3, 4, 5, 6] rfl)
        · have h := ip h q26
          obtain ⟨v6_27, q28, h⟩ := nm_o h
          refine lv_iinc (v := v6_27) (lv' := [(6, .int v6_27), (0, .ref (gad G 0)), (4, .int v4), (1, .int v1), (5, .int v5), (3, .int v3), (2, .int v2)]) hx hb dX7_partners_107 hl (k := 6) rfl q28.symm (by decide) rfl (fun ls hl => ?_)
          refine lv_goto (tgt := 68) hx hb dX7_partners_110 (by decide) ?_
          exact ih v6_27 e1 h hk H locs ls B (lv_sub hl [1, 2, 3, 4, 5, 6, 0] rfl)
set_option maxRecDepth 100000 in
set_option maxHeartbeats 4000000 in
theorem l_X7_partners_L1 {G : GT} {p : Program} {e : Env} {s : State} {m : MethodId} {args : Array Value} {below : List Frame} {meth : Method} {c : Code} {Q : State → Prop} (C : CT G p s m meth c args cX7_partners 7 RX7) (hr : meth.sig.returnType = (some .int)) (n : Nat) (s0 : ST) (v1 : Int32) : ∀ (k : Nat) (v5 : Int32) (v4 : Int32) (v3 : Int32) (v2 : Int32) (e1 : Int32), X7_partners_L1 n s0 v1 k v5 v4 v3 v2 = some e1 → Kn G p e rm_X7_partners s m args below meth c Q 7 136 [(2, .int e1)] (wM G s0) → Kn G p e rm_X7_partners s m args below meth c Q 7 33 [(0, .ref (gad G 0)), (1, .int v1), (5, .int v5), (4, .int v4), (3, .int v3), (2, .int v2)] (wM G s0) := by
  have hx := C.1
  have hb := C.2.1
  intro k
  induction k with
  | zero =>
    intro v5 v4 v3 v2 e1 h
    exact nso h
  | succ k ih =>
    intro v5 v4 v3 v2 e1 h hk H locs ls B hl
    have h : X7_partners_L1_b n s0 v1 (X7_partners_L1 n s0 v1 k) v5 v4 v3 v2 = some e1 := h
    unfold X7_partners_L1_b at h
    refine lv_iload hx hb dX7_partners_33 (lv_at hl 2 rfl) ?_
    refine lv_aload_n hx hb dX7_partners_35 rfl (lv_at hl 0 rfl) ?_
    refine r_get C B fo_X7_7 (cM_0 G s0) rfl dX7_partners_36 ?_
    refine lv_icmp_ge (tgt := 136) hx hb dX7_partners_39 (by decide) (fun q7 => ?_) (fun q7 => ?_)
    · have h := ip h q7
      obtain rfl := ret1 h
      exact hk H locs ls B (lv_sub hl [5] rfl)
    · have h := ig h q7
      refine lv_iload_n hx hb dX7_partners_42 rfl (lv_at hl 1 rfl) ?_
      refine lv_iload hx hb dX7_partners_43 (lv_at hl 2 rfl) ?_
      obtain ⟨r8, q9, h⟩ := bd_o h
      refine r_callSi (rest := []) C B.2.2 hl (c_X7_has G v1 v5 r8 q9) cs_X7_77 rfl rfl (Nat.le_of_ble_eq_true rfl) ⟨rfl, rfl, Nat.le_of_ble_eq_true rfl, Nat.le_of_ble_eq_true rfl⟩ dX7_partners_45 ?_
      refine lv_if_ne (tgt := 54) hx hb dX7_partners_48 (by decide) (fun q10 => ?_) (fun q10 => ?_)
      · have h := ig h q10
        refine lv_iload hx hb dX7_partners_54 (lv_at hl 3 rfl) ?_
        refine lv_iconst (v := (1 : Int32)) hx hb dX7_partners_56 rfl ?_
        refine lv_iload hx hb dX7_partners_57 (lv_at hl 2 rfl) ?_
        refine lv_ishl hx hb dX7_partners_59 ?_
        refine lv_iconst (v := (-1 : Int32)) hx hb dX7_partners_60 rfl ?_
        refine lv_ixor hx hb dX7_partners_61 ?_
        refine lv_iand hx hb dX7_partners_62 ?_
        obtain ⟨v4_11, q12, h⟩ := nm_o h
        refine r_nm q12 ?_
        refine lv_istore (lv' := [(4, .int v4_11), (0, .ref (gad G 0)), (1, .int v1), (5, .int v5), (3, .int v3), (2, .int v2)]) hx hb dX7_partners_63 hl (by decide) rfl (fun ls hl => ?_)
        refine lv_iconst (v := (0 : Int32)) hx hb dX7_partners_65 rfl ?_
        refine lv_istore (lv' := [(6, .int (0 : Int32)), (4, .int v4_11), (0, .ref (gad G 0)), (1, .int v1), (5, .int v5), (3, .int v3), (2, .int v2)]) hx hb dX7_partners_66 hl (by decide) rfl (fun ls hl => ?_)
        obtain ⟨e29, q30, h⟩ := bd_o h
        refine l_X7_partners_L2 C hr n s0 v4_11 v1 v5 v3 v2 n (0 : Int32) e29 q30 ?_ H locs ls B (lv_sub hl [2, 1, 3, 4, 5, 6, 0] rfl)
        intro H locs ls B hl
        refine lv_iload_n hx hb dX7_partners_113 rfl (lv_at hl 4 rfl) ?_
        refine lv_iconst (v := (1 : Int32)) hx hb dX7_partners_114 rfl ?_
        refine lv_iload hx hb dX7_partners_115 (lv_at hl 6 rfl) ?_
        refine lv_ishl hx hb dX7_partners_117 ?_
        refine lv_ior hx hb dX7_partners_118 ?_
        obtain ⟨v3_31, q32, h⟩ := nm_o h
        refine r_nm q32 ?_
        refine lv_istore_n (lv' := [(3, .int v3_31), (0, .ref (gad G 0)), (4, .int v4_11), (1, .int v1), (5, .int v5), (2, .int v2), (6, .int e29)]) hx hb dX7_partners_119 rfl hl (by decide) rfl (fun ls hl => ?_)
        refine lv_bipush (v := (10 : Int32)) hx hb dX7_partners_120 rfl ?_
        refine lv_iload_n hx hb dX7_partners_122 rfl (lv_at hl 5 rfl) ?_
        refine lv_imul hx hb dX7_partners_123 ?_
        refine lv_iload hx hb dX7_partners_124 (lv_at hl 6 rfl) ?_
        refine lv_iadd hx hb dX7_partners_126 ?_
        refine lv_iconst (v := (1 : Int32)) hx hb dX7_partners_127 rfl ?_
        refine lv_iadd hx hb dX7_partners_128 ?_
        obtain ⟨v2_33, q34, h⟩ := nm_o h
        refine r_nm q34 ?_
        refine lv_istore_n (lv' := [(2, .int v2_33), (3, .int v3_31), (0, .ref (gad G 0)), (4, .int v4_11), (1, .int v1), (5, .int v5), (6, .int e29)]) hx hb dX7_partners_129 rfl hl (by decide) rfl (fun ls hl => ?_)
        obtain ⟨v5_35, q36, h⟩ := nm_o h
        refine lv_iinc (v := v5_35) (lv' := [(5, .int v5_35), (2, .int v2_33), (3, .int v3_31), (0, .ref (gad G 0)), (4, .int v4_11), (1, .int v1), (6, .int e29)]) hx hb dX7_partners_130 hl (k := 5) rfl q36.symm (by decide) rfl (fun ls hl => ?_)
        refine lv_goto (tgt := 33) hx hb dX7_partners_133 (by decide) ?_
        exact ih v5_35 v4_11 v3_31 v2_33 e1 h hk H locs ls B (lv_sub hl [3, 5, 0, 4, 2, 1] rfl)
      · have h := ip h q10
        refine lv_goto (tgt := 130) hx hb dX7_partners_51 (by decide) ?_
        obtain ⟨v5_37, q38, h⟩ := nm_o h
        refine lv_iinc (v := v5_37) (lv' := [(5, .int v5_37), (0, .ref (gad G 0)), (1, .int v1), (4, .int v4), (3, .int v3), (2, .int v2)]) hx hb dX7_partners_130 hl (k := 2) rfl q38.symm (by decide) rfl (fun ls hl => ?_)
        refine lv_goto (tgt := 33) hx hb dX7_partners_133 (by decide) ?_
        exact ih v5_37 v4 v3 v2 e1 h hk H locs ls B (lv_sub hl [1, 2, 0, 3, 4, 5] rfl)
set_option maxRecDepth 100000 in
set_option maxHeartbeats 4000000 in
theorem c_X7_partners (G : GT) (n : Nat) (s0 : ST) (v1 : Int32) (r : Int32) (h : X7_partners n s0 v1 = some r) : Con G yX7_partners cX7_partners 7 (some .int) rm_X7_partners [.ref (gad G 0), .int v1] (wM G s0) (some (.int r)) (wM G s0) := by
  unfold X7_partners at h
  refine con_of (by decide +kernel) (Nat.le_of_ble_eq_true rfl) (fun {p e s m below meth c} C hr {H locs ls} B hl => ?_)
  have hx := C.1
  have hb := C.2.1
  have hl : lv_has ls 7 [(0, .ref (gad G 0)), (1, .int v1)] := hl
  refine lv_aload_n hx hb dX7_partners_0 rfl (lv_at hl 0 rfl) ?_
  refine lv_iload_n hx hb dX7_partners_1 rfl (lv_at hl 1 rfl) ?_
  obtain ⟨r2, q1, h⟩ := bd_o h
  refine r_callVi (rest := []) C B hl (c_X7_isSet G s0 v1 r2 q1) cs_X7_122 (cM_0 G s0) rfl rfl rfl (Nat.le_of_ble_eq_true rfl) ⟨rfl, rfl, Nat.le_of_ble_eq_true rfl, Nat.le_of_ble_eq_true rfl⟩ dX7_partners_2 (fun H locs B => ?_)
  refine lv_if_ne (tgt := 11) hx hb dX7_partners_5 (by decide) (fun q3 => ?_) (fun q3 => ?_)
  · have h := ig h q3
    refine lv_aload_n hx hb dX7_partners_11 rfl (lv_at hl 0 rfl) ?_
    refine lv_iload_n hx hb dX7_partners_12 rfl (lv_at hl 1 rfl) ?_
    refine lv_iconst (v := (0 : Int32)) hx hb dX7_partners_13 rfl ?_
    obtain ⟨r5, q4, h⟩ := bd_o h
    refine r_callVi (rest := []) C B hl (c_X7_canHave G n s0 v1 (0 : Int32) r5 q4) cs_X7_150 (cM_0 G s0) rfl rfl rfl (Nat.le_of_ble_eq_true rfl) ⟨rfl, rfl, Nat.le_of_ble_eq_true rfl, Nat.le_of_ble_eq_true rfl⟩ dX7_partners_14 (fun H locs B => ?_)
    refine lv_if_ne (tgt := 23) hx hb dX7_partners_17 (by decide) (fun q6 => ?_) (fun q6 => ?_)
    · have h := ig h q6
      refine lv_iconst (v := (0 : Int32)) hx hb dX7_partners_23 rfl ?_
      refine lv_istore_n (lv' := [(2, .int (0 : Int32)), (0, .ref (gad G 0)), (1, .int v1)]) hx hb dX7_partners_24 rfl hl (by decide) rfl (fun ls hl => ?_)
      refine lv_iconst (v := (0 : Int32)) hx hb dX7_partners_25 rfl ?_
      refine lv_istore_n (lv' := [(3, .int (0 : Int32)), (2, .int (0 : Int32)), (0, .ref (gad G 0)), (1, .int v1)]) hx hb dX7_partners_26 rfl hl (by decide) rfl (fun ls hl => ?_)
      refine lv_iload_n hx hb dX7_partners_27 rfl (lv_at hl 3 rfl) ?_
      refine lv_istore (lv' := [(4, .int v1), (3, .int (0 : Int32)), (2, .int (0 : Int32)), (0, .ref (gad G 0)), (1, .int v1)]) hx hb dX7_partners_28 hl (by decide) rfl (fun ls hl => ?_)
      refine lv_iconst (v := (0 : Int32)) hx hb dX7_partners_30 rfl ?_
      refine lv_istore (lv' := [(5, .int (0 : Int32)), (4, .int v1), (3, .int (0 : Int32)), (2, .int (0 : Int32)), (0, .ref (gad G 0)), (1, .int v1)]) hx hb dX7_partners_31 hl (by decide) rfl (fun ls hl => ?_)
      obtain ⟨e39, q40, h⟩ := bd_o h
      refine l_X7_partners_L1 C hr n s0 v1 n (0 : Int32) v1 (0 : Int32) (0 : Int32) e39 q40 ?_ H locs ls B (lv_sub hl [4, 5, 0, 1, 2, 3] rfl)
      intro H locs ls B hl
      refine lv_iload_n hx hb dX7_partners_136 rfl (lv_at hl 0 rfl) ?_
      obtain rfl := ret1 h
      exact r_iret C B hr rfl dX7_partners_137
    · have h := ip h q6
      refine lv_bipush (v := (-5 : Int32)) hx hb dX7_partners_20 rfl ?_
      obtain rfl := ret1 h
      exact r_iret C B hr rfl dX7_partners_22
  · have h := ip h q3
    refine lv_bipush (v := (-2 : Int32)) hx hb dX7_partners_8 rfl ?_
    obtain rfl := ret1 h
    exact r_iret C B hr rfl dX7_partners_10
def rm_X7_turned : Room := { frames := 1, cells := 0, slots := 0, locals := 21 }
set_option maxRecDepth 100000 in
set_option maxHeartbeats 4000000 in
theorem l_X7_turned_L1 {G : GT} {p : Program} {e : Env} {s : State} {m : MethodId} {args : Array Value} {below : List Frame} {meth : Method} {c : Code} {Q : State → Prop} (C : CT G p s m meth c args cX7_turned 2 RX7) (hr : meth.sig.returnType = (some .int)) : ∀ (k : Nat) (v1 : Int32) (s0 : ST) (e1 : ST), X7_turned_L1  k v1 s0 = some e1 → Kn G p e rm_X7_turned s m args below meth c Q 2 61 [(0, .ref (gad G 0))] (wM G e1) → Kn G p e rm_X7_turned s m args below meth c Q 2 7 [(0, .ref (gad G 0)), (1, .int v1)] (wM G s0) := by
  have hx := C.1
  have hb := C.2.1
  intro k
  induction k with
  | zero =>
    intro v1 s0 e1 h
    exact nso h
  | succ k ih =>
    intro v1 s0 e1 h hk H locs ls B hl
    have h : X7_turned_L1_b  (X7_turned_L1  k) v1 s0 = some e1 := h
    unfold X7_turned_L1_b at h
    refine lv_iload_n hx hb dX7_turned_7 rfl (lv_at hl 1 rfl) ?_
    refine lv_aload_n hx hb dX7_turned_8 rfl (lv_at hl 0 rfl) ?_
    refine r_get C B fo_X7_7 (cM_0 G s0) rfl dX7_turned_9 ?_
    refine lv_icmp_ge (tgt := 61) hx hb dX7_turned_12 (by decide) (fun q3 => ?_) (fun q3 => ?_)
    · have h := ip h q3
      obtain rfl := ret1 h
      exact hk H locs ls B (lv_sub hl [0] rfl)
    · have h := ig h q3
      refine lv_aload_n hx hb dX7_turned_15 rfl (lv_at hl 0 rfl) ?_
      refine r_get C B fo_X7_74 (cM_0 G s0) rfl dX7_turned_16 ?_
      refine lv_iload_n hx hb dX7_turned_19 rfl (lv_at hl 1 rfl) ?_
      obtain ⟨r4, q5, h⟩ := bd_o h
      refine r_callSi (rest := []) C B.2.2 hl (c_X7_has G (s0.1 1) v1 r4 q5) cs_X7_77 rfl rfl (Nat.le_of_ble_eq_true rfl) ⟨rfl, rfl, Nat.le_of_ble_eq_true rfl, Nat.le_of_ble_eq_true rfl⟩ dX7_turned_20 ?_
      refine lv_if_ne (tgt := 55) hx hb dX7_turned_23 (by decide) (fun q6 => ?_) (fun q6 => ?_)
      · have h := ig h q6
        obtain ⟨v1_7, q8, h⟩ := nm_o h
        refine lv_iinc (v := v1_7) (lv' := [(1, .int v1_7), (0, .ref (gad G 0))]) hx hb dX7_turned_55 hl (k := 1) rfl q8.symm (by decide) rfl (fun ls hl => ?_)
        refine lv_goto (tgt := 7) hx hb dX7_turned_58 (by decide) ?_
        exact ih v1_7 s0 e1 h hk H locs ls B (lv_sub hl [1, 0] rfl)
      · have h := ip h q6
        refine lv_aload_n hx hb dX7_turned_26 rfl (lv_at hl 0 rfl) ?_
        refine r_get C B fo_X7_20 (cM_0 G s0) rfl dX7_turned_27 ?_
        refine lv_aload_n hx hb dX7_turned_30 rfl (lv_at hl 0 rfl) ?_
        refine r_get C B fo_X7_71 (cM_0 G s0) rfl dX7_turned_31 ?_
        refine lv_iconst (v := (1 : Int32)) hx hb dX7_turned_34 rfl ?_
        refine lv_iload_n hx hb dX7_turned_35 rfl (lv_at hl 1 rfl) ?_
        refine lv_ishl hx hb dX7_turned_36 ?_
        refine lv_aload_n hx hb dX7_turned_37 rfl (lv_at hl 0 rfl) ?_
        refine r_get C B fo_X7_13 (cM_0 G s0) rfl dX7_turned_38 ?_
        refine lv_iload_n hx hb dX7_turned_41 rfl (lv_at hl 1 rfl) ?_
        obtain ⟨q9, h⟩ := gd_o h
        refine r_iald C B (cM_1 G s0) (inb_vp q9) dX7_turned_42 ?_
        refine lv_ior hx hb dX7_turned_43 ?_
        obtain ⟨q10, h⟩ := gd_o h
        obtain ⟨s11, q12, h⟩ := nm_o h
        refine r_iast C B (cM_3 G s0) (inb_vp q10) ((uMa_2 G s0 _).trans (congrArg (wM G) q12.symm)) dX7_turned_44 (fun H locs B => ?_)
        refine lv_aload_n hx hb dX7_turned_45 rfl (lv_at hl 0 rfl) ?_
        refine lv_dup hx hb dX7_turned_46 rfl ?_
        refine r_get C B fo_X7_71 (cM_0 G s11) rfl dX7_turned_47 ?_
        refine lv_iconst (v := (1 : Int32)) hx hb dX7_turned_50 rfl ?_
        refine lv_iadd hx hb dX7_turned_51 ?_
        obtain ⟨s13, q14, h⟩ := nm_o h
        refine r_put C B fp_X7_71 (cM_0 G s11) (Nat.le_of_ble_eq_true rfl) rfl rfl ((uMs_2 G s11 _).trans (congrArg (wM G) q14.symm)) dX7_turned_52 (fun H locs B => ?_)
        obtain ⟨v1_15, q16, h⟩ := nm_o h
        refine lv_iinc (v := v1_15) (lv' := [(1, .int v1_15), (0, .ref (gad G 0))]) hx hb dX7_turned_55 hl (k := 1) rfl q16.symm (by decide) rfl (fun ls hl => ?_)
        refine lv_goto (tgt := 7) hx hb dX7_turned_58 (by decide) ?_
        exact ih v1_15 s13 e1 h hk H locs ls B (lv_sub hl [1, 0] rfl)
set_option maxRecDepth 100000 in
set_option maxHeartbeats 4000000 in
theorem c_X7_turned (G : GT) (n : Nat) (s0 : ST)  (r : Int32) (s' : ST) (h : X7_turned n s0  = some (r, s')) : Con G yX7_turned cX7_turned 2 (some .int) rm_X7_turned [.ref (gad G 0)] (wM G s0) (some (.int r)) (wM G s') := by
  unfold X7_turned at h
  refine con_of (by decide +kernel) (Nat.le_of_ble_eq_true rfl) (fun {p e s m below meth c} C hr {H locs ls} B hl => ?_)
  have hx := C.1
  have hb := C.2.1
  have hl : lv_has ls 2 [(0, .ref (gad G 0))] := hl
  refine lv_aload_n hx hb dX7_turned_0 rfl (lv_at hl 0 rfl) ?_
  refine lv_iconst (v := (0 : Int32)) hx hb dX7_turned_1 rfl ?_
  obtain ⟨s1, q2, h⟩ := nm_o h
  refine r_put C B fp_X7_71 (cM_0 G s0) (Nat.le_of_ble_eq_true rfl) rfl rfl ((uMs_2 G s0 _).trans (congrArg (wM G) q2.symm)) dX7_turned_2 (fun H locs B => ?_)
  refine lv_iconst (v := (0 : Int32)) hx hb dX7_turned_5 rfl ?_
  refine lv_istore_n (lv' := [(1, .int (0 : Int32)), (0, .ref (gad G 0))]) hx hb dX7_turned_6 rfl hl (by decide) rfl (fun ls hl => ?_)
  obtain ⟨e17, q18, h⟩ := bd_o h
  refine l_X7_turned_L1 C hr  n (0 : Int32) s1 e17 q18 ?_ H locs ls B (lv_sub hl [1, 0] rfl)
  intro H locs ls B hl
  refine lv_aload_n hx hb dX7_turned_61 rfl (lv_at hl 0 rfl) ?_
  refine r_get C B fo_X7_71 (cM_0 G e17) rfl dX7_turned_62 ?_
  obtain ⟨rfl, rfl⟩ := ret2 h
  exact r_iret C B hr rfl dX7_turned_65
def rm_X7_canTake : Room := { frames := 1, cells := 0, slots := 0, locals := 21 }
set_option maxRecDepth 100000 in
set_option maxHeartbeats 4000000 in
theorem l_X7_canTake_L2 {G : GT} {p : Program} {e : Env} {s : State} {m : MethodId} {args : Array Value} {below : List Frame} {meth : Method} {c : Code} {Q : State → Prop} (C : CT G p s m meth c args cX7_canTake 6 RX7) (hr : meth.sig.returnType = (some .boolean)) (s0 : ST) (v1 : Int32) (v2 : Int32) (v3 : Int32) : ∀ (k : Nat) (v5 : Int32) (v4 : Int32) (e1 : Int32), X7_canTake_L2 s0 v3 k v5 v4 = some e1 → Kn G p e rm_X7_canTake s m args below meth c Q 6 58 [(0, .ref (gad G 0)), (1, .int v1), (2, .int v2), (3, .int v3), (4, .int e1)] (wM G s0) → Kn G p e rm_X7_canTake s m args below meth c Q 6 18 [(0, .ref (gad G 0)), (1, .int v1), (2, .int v2), (3, .int v3), (5, .int v5), (4, .int v4)] (wM G s0) := by
  have hx := C.1
  have hb := C.2.1
  intro k
  induction k with
  | zero =>
    intro v5 v4 e1 h
    exact nso h
  | succ k ih =>
    intro v5 v4 e1 h hk H locs ls B hl
    have h : X7_canTake_L2_b s0 v3 (X7_canTake_L2 s0 v3 k) v5 v4 = some e1 := h
    unfold X7_canTake_L2_b at h
    refine lv_iload hx hb dX7_canTake_18 (lv_at hl 4 rfl) ?_
    refine lv_aload_n hx hb dX7_canTake_20 rfl (lv_at hl 0 rfl) ?_
    refine r_get C B fo_X7_71 (cM_0 G s0) rfl dX7_canTake_21 ?_
    refine lv_icmp_ge (tgt := 58) hx hb dX7_canTake_24 (by decide) (fun q2 => ?_) (fun q2 => ?_)
    · have h := ip h q2
      obtain rfl := ret1 h
      exact hk H locs ls B (lv_sub hl [0, 1, 2, 3, 5] rfl)
    · have h := ig h q2
      refine lv_iload hx hb dX7_canTake_27 (lv_at hl 5 rfl) ?_
      refine lv_iload_n hx hb dX7_canTake_29 rfl (lv_at hl 3 rfl) ?_
      refine lv_iload hx hb dX7_canTake_30 (lv_at hl 4 rfl) ?_
      obtain ⟨r3, q4, h⟩ := bd_o h
      refine r_callSi (rest := [.int v4]) C B.2.2 hl (c_X7_has G v3 v5 r3 q4) cs_X7_77 rfl rfl (Nat.le_of_ble_eq_true rfl) ⟨rfl, rfl, Nat.le_of_ble_eq_true rfl, Nat.le_of_ble_eq_true rfl⟩ dX7_canTake_32 ?_
      refine lv_if_eq (tgt := 48) hx hb dX7_canTake_35 (by decide) (fun q5 => ?_) (fun q5 => ?_)
      · have h := ip h q5
        refine lv_iconst (v := (0 : Int32)) hx hb dX7_canTake_48 rfl ?_
        refine lv_ior hx hb dX7_canTake_49 ?_
        obtain ⟨v4_6, q7, h⟩ := nm_o h
        refine r_nm q7 ?_
        refine lv_istore (lv' := [(4, .int v4_6), (0, .ref (gad G 0)), (1, .int v1), (2, .int v2), (3, .int v3), (5, .int v5)]) hx hb dX7_canTake_50 hl (by decide) rfl (fun ls hl => ?_)
        obtain ⟨v5_8, q9, h⟩ := nm_o h
        refine lv_iinc (v := v5_8) (lv' := [(5, .int v5_8), (4, .int v4_6), (0, .ref (gad G 0)), (1, .int v1), (2, .int v2), (3, .int v3)]) hx hb dX7_canTake_52 hl (k := 5) rfl q9.symm (by decide) rfl (fun ls hl => ?_)
        refine lv_goto (tgt := 18) hx hb dX7_canTake_55 (by decide) ?_
        exact ih v5_8 v4_6 e1 h hk H locs ls B (lv_sub hl [2, 3, 4, 5, 0, 1] rfl)
      · have h := ig h q5
        refine lv_aload_n hx hb dX7_canTake_38 rfl (lv_at hl 0 rfl) ?_
        refine r_get C B fo_X7_20 (cM_0 G s0) rfl dX7_canTake_39 ?_
        refine lv_iload hx hb dX7_canTake_42 (lv_at hl 4 rfl) ?_
        obtain ⟨q10, h⟩ := gd_o h
        refine r_iald C B (cM_3 G s0) (inb_vp q10) dX7_canTake_44 ?_
        refine lv_goto (tgt := 49) hx hb dX7_canTake_45 (by decide) ?_
        refine lv_ior hx hb dX7_canTake_49 ?_
        obtain ⟨v4_11, q12, h⟩ := nm_o h
        refine r_nm q12 ?_
        refine lv_istore (lv' := [(4, .int v4_11), (0, .ref (gad G 0)), (1, .int v1), (2, .int v2), (3, .int v3), (5, .int v5)]) hx hb dX7_canTake_50 hl (by decide) rfl (fun ls hl => ?_)
        obtain ⟨v5_13, q14, h⟩ := nm_o h
        refine lv_iinc (v := v5_13) (lv' := [(5, .int v5_13), (4, .int v4_11), (0, .ref (gad G 0)), (1, .int v1), (2, .int v2), (3, .int v3)]) hx hb dX7_canTake_52 hl (k := 5) rfl q14.symm (by decide) rfl (fun ls hl => ?_)
        refine lv_goto (tgt := 18) hx hb dX7_canTake_55 (by decide) ?_
        exact ih v5_13 v4_11 e1 h hk H locs ls B (lv_sub hl [2, 3, 4, 5, 0, 1] rfl)
set_option maxRecDepth 100000 in
set_option maxHeartbeats 4000000 in
theorem l_X7_canTake_L1 {G : GT} {p : Program} {e : Env} {s : State} {m : MethodId} {args : Array Value} {below : List Frame} {meth : Method} {c : Code} {Q : State → Prop} (C : CT G p s m meth c args cX7_canTake 6 RX7) (hr : meth.sig.returnType = (some .boolean)) (n : Nat) (s0 : ST) (v1 : Int32) (v2 : Int32) : ∀ (k : Nat) (v3 : Int32) (e1 : (Int32) ⊕ (Unit)), X7_canTake_L1 n s0 v1 v2 k v3 = some e1 → (∀ rv, e1 = Sum.inl rv → Q = QR G below args s (some (.int rv)) (wM G s0)) → (∀ ex, e1 = Sum.inr ex → Kn G p e rm_X7_canTake s m args below meth c Q 6 91 [] (wM G s0)) → Kn G p e rm_X7_canTake s m args below meth c Q 6 2 [(0, .ref (gad G 0)), (1, .int v1), (2, .int v2), (3, .int v3)] (wM G s0) := by
  have hx := C.1
  have hb := C.2.1
  intro k
  induction k with
  | zero =>
    intro v3 e1 h
    exact nso h
  | succ k ih =>
    intro v3 e1 h hret hk H locs ls B hl
    have h : X7_canTake_L1_b n s0 v1 v2 (X7_canTake_L1 n s0 v1 v2 k) v3 = some e1 := h
    unfold X7_canTake_L1_b at h
    refine lv_iload_n hx hb dX7_canTake_2 rfl (lv_at hl 3 rfl) ?_
    refine lv_iconst (v := (1 : Int32)) hx hb dX7_canTake_3 rfl ?_
    refine lv_aload_n hx hb dX7_canTake_4 rfl (lv_at hl 0 rfl) ?_
    refine r_get C B fo_X7_71 (cM_0 G s0) rfl dX7_canTake_5 ?_
    refine lv_ishl hx hb dX7_canTake_8 ?_
    refine lv_icmp_ge (tgt := 91) hx hb dX7_canTake_9 (by decide) (fun q1 => ?_) (fun q1 => ?_)
    · have h := ip h q1
      obtain rfl := ret1 h
      exact hk _ rfl H locs ls B (lv_sub hl [] rfl)
    · have h := ig h q1
      refine lv_iconst (v := (0 : Int32)) hx hb dX7_canTake_12 rfl ?_
      refine lv_istore (lv' := [(4, .int (0 : Int32)), (0, .ref (gad G 0)), (1, .int v1), (2, .int v2), (3, .int v3)]) hx hb dX7_canTake_13 hl (by decide) rfl (fun ls hl => ?_)
      refine lv_iconst (v := (0 : Int32)) hx hb dX7_canTake_15 rfl ?_
      refine lv_istore (lv' := [(5, .int (0 : Int32)), (4, .int (0 : Int32)), (0, .ref (gad G 0)), (1, .int v1), (2, .int v2), (3, .int v3)]) hx hb dX7_canTake_16 hl (by decide) rfl (fun ls hl => ?_)
      obtain ⟨e15, q16, h⟩ := bd_o h
      refine l_X7_canTake_L2 C hr s0 v1 v2 v3 n (0 : Int32) (0 : Int32) e15 q16 ?_ H locs ls B (lv_sub hl [2, 3, 4, 5, 0, 1] rfl)
      intro H locs ls B hl
      refine lv_iload_n hx hb dX7_canTake_58 rfl (lv_at hl 3 rfl) ?_
      refine lv_iload_n hx hb dX7_canTake_59 rfl (lv_at hl 1 rfl) ?_
      refine lv_ishr hx hb dX7_canTake_60 ?_
      refine lv_iload_n hx hb dX7_canTake_61 rfl (lv_at hl 1 rfl) ?_
      refine lv_ishl hx hb dX7_canTake_62 ?_
      refine lv_iload_n hx hb dX7_canTake_63 rfl (lv_at hl 3 rfl) ?_
      refine lv_icmp_ne (tgt := 85) hx hb dX7_canTake_64 (by decide) (fun q17 => ?_) (fun q17 => ?_)
      · have h := ig h q17
        obtain ⟨v3_18, q19, h⟩ := nm_o h
        refine lv_iinc (v := v3_18) (lv' := [(3, .int v3_18), (0, .ref (gad G 0)), (1, .int v1), (2, .int v2), (4, .int e15)]) hx hb dX7_canTake_85 hl (k := 3) rfl q19.symm (by decide) rfl (fun ls hl => ?_)
        refine lv_goto (tgt := 2) hx hb dX7_canTake_88 (by decide) ?_
        exact ih v3_18 e1 h hret hk H locs ls B (lv_sub hl [1, 2, 3, 0] rfl)
      · have h := ip h q17
        refine lv_iload hx hb dX7_canTake_67 (lv_at hl 4 rfl) ?_
        refine lv_iload_n hx hb dX7_canTake_69 rfl (lv_at hl 2 rfl) ?_
        refine lv_iconst (v := (-1 : Int32)) hx hb dX7_canTake_70 rfl ?_
        refine lv_ixor hx hb dX7_canTake_71 ?_
        refine lv_iand hx hb dX7_canTake_72 ?_
        obtain ⟨r20, q21, h⟩ := bd_o h
        refine r_callSi (rest := []) C B.2.2 hl (c_J6_bitCount G (e15 &&& (v2 ^^^ (-1 : Int32))) r20 q21) cs_X7_81 rfl rfl (Nat.le_of_ble_eq_true rfl) ⟨rfl, rfl, Nat.le_of_ble_eq_true rfl, Nat.le_of_ble_eq_true rfl⟩ dX7_canTake_73 ?_
        refine lv_iload_n hx hb dX7_canTake_76 rfl (lv_at hl 3 rfl) ?_
        obtain ⟨r22, q23, h⟩ := bd_o h
        refine r_callSi (rest := [.int r20]) C B.2.2 hl (c_J6_bitCount G v3 r22 q23) cs_X7_81 rfl rfl (Nat.le_of_ble_eq_true rfl) ⟨rfl, rfl, Nat.le_of_ble_eq_true rfl, Nat.le_of_ble_eq_true rfl⟩ dX7_canTake_77 ?_
        refine lv_icmp_ge (tgt := 85) hx hb dX7_canTake_80 (by decide) (fun q24 => ?_) (fun q24 => ?_)
        · have h := ip h q24
          obtain ⟨v3_25, q26, h⟩ := nm_o h
          refine lv_iinc (v := v3_25) (lv' := [(3, .int v3_25), (0, .ref (gad G 0)), (1, .int v1), (2, .int v2), (4, .int e15)]) hx hb dX7_canTake_85 hl (k := 3) rfl q26.symm (by decide) rfl (fun ls hl => ?_)
          refine lv_goto (tgt := 2) hx hb dX7_canTake_88 (by decide) ?_
          exact ih v3_25 e1 h hret hk H locs ls B (lv_sub hl [1, 2, 3, 0] rfl)
        · have h := ig h q24
          refine lv_iconst (v := (0 : Int32)) hx hb dX7_canTake_83 rfl ?_
          obtain rfl := ret1 h
          rw [hret _ rfl]
          exact r_iret C B hr nar_0 dX7_canTake_84
set_option maxRecDepth 100000 in
set_option maxHeartbeats 4000000 in
theorem c_X7_canTake (G : GT) (n : Nat) (s0 : ST) (v1 : Int32) (v2 : Int32) (r : Int32) (h : X7_canTake n s0 v1 v2 = some r) : Con G yX7_canTake cX7_canTake 6 (some .boolean) rm_X7_canTake [.ref (gad G 0), .int v1, .int v2] (wM G s0) (some (.int r)) (wM G s0) := by
  unfold X7_canTake at h
  refine con_of (by decide +kernel) (Nat.le_of_ble_eq_true rfl) (fun {p e s m below meth c} C hr {H locs ls} B hl => ?_)
  have hx := C.1
  have hb := C.2.1
  have hl : lv_has ls 6 [(0, .ref (gad G 0)), (1, .int v1), (2, .int v2)] := hl
  refine lv_iconst (v := (0 : Int32)) hx hb dX7_canTake_0 rfl ?_
  refine lv_istore_n (lv' := [(3, .int (0 : Int32)), (0, .ref (gad G 0)), (1, .int v1), (2, .int v2)]) hx hb dX7_canTake_1 rfl hl (by decide) rfl (fun ls hl => ?_)
  obtain ⟨e27, q28, h⟩ := bd_o h
  refine l_X7_canTake_L1 C hr n s0 v1 v2 n (0 : Int32) e27 q28 (fun rv q => by have h := sm_l h q; cases h; rfl) (fun e29 q30 => ?_) H locs ls B (lv_sub hl [1, 2, 3, 0] rfl)
  have h := sm_r h q30
  intro H locs ls B hl
  refine lv_iconst (v := (1 : Int32)) hx hb dX7_canTake_91 rfl ?_
  obtain rfl := ret1 h
  exact r_iret C B hr nar_1 dX7_canTake_92
def rm_X7_strict : Room := { frames := 2, cells := 0, slots := 0, locals := 46 }
set_option maxRecDepth 100000 in
set_option maxHeartbeats 4000000 in
theorem l_X7_strict_L2 {G : GT} {p : Program} {e : Env} {s : State} {m : MethodId} {args : Array Value} {below : List Frame} {meth : Method} {c : Code} {Q : State → Prop} (C : CT G p s m meth c args cX7_strict 4 RX7) (hr : meth.sig.returnType = (some .int)) (n : Nat) (s0 : ST) (v2 : Int32) (v1 : Int32) : ∀ (k : Nat) (v3 : Int32) (e1 : Int32), X7_strict_L2 n s0 v2 v1 k v3 = some e1 → Kn G p e rm_X7_strict s m args below meth c Q 4 68 [(0, .ref (gad G 0)), (2, .int v2), (1, .int v1), (3, .int e1)] (wM G s0) → Kn G p e rm_X7_strict s m args below meth c Q 4 26 [(0, .ref (gad G 0)), (2, .int v2), (1, .int v1), (3, .int v3)] (wM G s0) := by
  have hx := C.1
  have hb := C.2.1
  intro k
  induction k with
  | zero =>
    intro v3 e1 h
    exact nso h
  | succ k ih =>
    intro v3 e1 h hk H locs ls B hl
    have h : X7_strict_L2_b n s0 v2 v1 (X7_strict_L2 n s0 v2 v1 k) v3 = some e1 := h
    unfold X7_strict_L2_b at h
    refine lv_aload_n hx hb dX7_strict_26 rfl (lv_at hl 0 rfl) ?_
    refine r_get C B fo_X7_20 (cM_0 G s0) rfl dX7_strict_27 ?_
    refine lv_iload_n hx hb dX7_strict_30 rfl (lv_at hl 1 rfl) ?_
    obtain ⟨q5, h⟩ := gd_o h
    refine r_iald C B (cM_3 G s0) (inb_vp q5) dX7_strict_31 ?_
    refine lv_iload_n hx hb dX7_strict_32 rfl (lv_at hl 3 rfl) ?_
    obtain ⟨r6, q7, h⟩ := bd_o h
    refine r_callSi (rest := []) C B.2.2 hl (c_X7_has G (s0.2.1 2 (v2).toNatClampNeg) v3 r6 q7) cs_X7_77 rfl rfl (Nat.le_of_ble_eq_true rfl) ⟨rfl, rfl, Nat.le_of_ble_eq_true rfl, Nat.le_of_ble_eq_true rfl⟩ dX7_strict_33 ?_
    refine lv_if_eq (tgt := 62) hx hb dX7_strict_36 (by decide) (fun q8 => ?_) (fun q8 => ?_)
    · have h := ip h q8
      obtain ⟨v3_9, q10, h⟩ := nm_o h
      refine lv_iinc (v := v3_9) (lv' := [(3, .int v3_9), (0, .ref (gad G 0)), (2, .int v2), (1, .int v1)]) hx hb dX7_strict_62 hl (k := 3) rfl q10.symm (by decide) rfl (fun ls hl => ?_)
      refine lv_goto (tgt := 26) hx hb dX7_strict_65 (by decide) ?_
      exact ih v3_9 e1 h hk H locs ls B (lv_sub hl [1, 2, 3, 0] rfl)
    · have h := ig h q8
      refine lv_iload_n hx hb dX7_strict_39 rfl (lv_at hl 2 rfl) ?_
      refine lv_iload_n hx hb dX7_strict_40 rfl (lv_at hl 3 rfl) ?_
      obtain ⟨r11, q12, h⟩ := bd_o h
      refine r_callSi (rest := []) C B.2.2 hl (c_X7_has G v1 v3 r11 q12) cs_X7_77 rfl rfl (Nat.le_of_ble_eq_true rfl) ⟨rfl, rfl, Nat.le_of_ble_eq_true rfl, Nat.le_of_ble_eq_true rfl⟩ dX7_strict_41 ?_
      refine lv_if_ne (tgt := 62) hx hb dX7_strict_44 (by decide) (fun q13 => ?_) (fun q13 => ?_)
      · have h := ig h q13
        obtain ⟨v3_14, q15, h⟩ := nm_o h
        refine lv_iinc (v := v3_14) (lv' := [(3, .int v3_14), (0, .ref (gad G 0)), (2, .int v2), (1, .int v1)]) hx hb dX7_strict_62 hl (k := 3) rfl q15.symm (by decide) rfl (fun ls hl => ?_)
        refine lv_goto (tgt := 26) hx hb dX7_strict_65 (by decide) ?_
        exact ih v3_14 e1 h hk H locs ls B (lv_sub hl [1, 2, 3, 0] rfl)
      · have h := ip h q13
        refine lv_aload_n hx hb dX7_strict_47 rfl (lv_at hl 0 rfl) ?_
        refine lv_iload_n hx hb dX7_strict_48 rfl (lv_at hl 1 rfl) ?_
        refine lv_iconst (v := (1 : Int32)) hx hb dX7_strict_49 rfl ?_
        refine lv_iadd hx hb dX7_strict_50 ?_
        refine lv_iload_n hx hb dX7_strict_51 rfl (lv_at hl 2 rfl) ?_
        refine lv_iconst (v := (1 : Int32)) hx hb dX7_strict_52 rfl ?_
        refine lv_iload_n hx hb dX7_strict_53 rfl (lv_at hl 3 rfl) ?_
        refine lv_ishl hx hb dX7_strict_54 ?_
        refine lv_ior hx hb dX7_strict_55 ?_
        obtain ⟨r17, q16, h⟩ := bd_o h
        refine r_callVi (rest := []) C B hl (c_X7_canTake G n s0 (v2 + (1 : Int32)) (v1 ||| ((1 : Int32) <<< (v3 &&& 31))) r17 q16) cs_X7_153 (cM_0 G s0) rfl rfl rfl (Nat.le_of_ble_eq_true rfl) ⟨rfl, rfl, Nat.le_of_ble_eq_true rfl, Nat.le_of_ble_eq_true rfl⟩ dX7_strict_56 (fun H locs B => ?_)
        refine lv_if_ne (tgt := 68) hx hb dX7_strict_59 (by decide) (fun q18 => ?_) (fun q18 => ?_)
        · have h := ig h q18
          obtain rfl := ret1 h
          exact hk H locs ls B (lv_sub hl [0, 1, 2, 3] rfl)
        · have h := ip h q18
          obtain ⟨v3_19, q20, h⟩ := nm_o h
          refine lv_iinc (v := v3_19) (lv' := [(3, .int v3_19), (0, .ref (gad G 0)), (2, .int v2), (1, .int v1)]) hx hb dX7_strict_62 hl (k := 3) rfl q20.symm (by decide) rfl (fun ls hl => ?_)
          refine lv_goto (tgt := 26) hx hb dX7_strict_65 (by decide) ?_
          exact ih v3_19 e1 h hk H locs ls B (lv_sub hl [1, 2, 3, 0] rfl)
set_option maxRecDepth 100000 in
set_option maxHeartbeats 4000000 in
theorem l_X7_strict_L1 {G : GT} {p : Program} {e : Env} {s : State} {m : MethodId} {args : Array Value} {below : List Frame} {meth : Method} {c : Code} {Q : State → Prop} (C : CT G p s m meth c args cX7_strict 4 RX7) (hr : meth.sig.returnType = (some .int)) (n : Nat) : ∀ (k : Nat) (v2 : Int32) (v1 : Int32) (s0 : ST) (e1 : Int32 × ST), X7_strict_L1 n k v2 v1 s0 = some e1 → Kn G p e rm_X7_strict s m args below meth c Q 4 87 [(0, .ref (gad G 0)), (1, .int e1.1)] (wM G e1.2) → Kn G p e rm_X7_strict s m args below meth c Q 4 16 [(0, .ref (gad G 0)), (2, .int v2), (1, .int v1)] (wM G s0) := by
  have hx := C.1
  have hb := C.2.1
  intro k
  induction k with
  | zero =>
    intro v2 v1 s0 e1 h
    exact nso h
  | succ k ih =>
    intro v2 v1 s0 e1 h hk H locs ls B hl
    have h : X7_strict_L1_b n (X7_strict_L1 n k) v2 v1 s0 = some e1 := h
    unfold X7_strict_L1_b at h
    refine lv_iload_n hx hb dX7_strict_16 rfl (lv_at hl 1 rfl) ?_
    refine lv_aload_n hx hb dX7_strict_17 rfl (lv_at hl 0 rfl) ?_
    refine r_get C B fo_X7_71 (cM_0 G s0) rfl dX7_strict_18 ?_
    refine lv_icmp_ge (tgt := 87) hx hb dX7_strict_21 (by decide) (fun q4 => ?_) (fun q4 => ?_)
    · have h := ip h q4
      obtain rfl := ret1 h
      exact hk H locs ls B (lv_sub hl [0, 2] rfl)
    · have h := ig h q4
      refine lv_iconst (v := (0 : Int32)) hx hb dX7_strict_24 rfl ?_
      refine lv_istore_n (lv' := [(3, .int (0 : Int32)), (0, .ref (gad G 0)), (2, .int v2), (1, .int v1)]) hx hb dX7_strict_25 rfl hl (by decide) rfl (fun ls hl => ?_)
      obtain ⟨e21, q22, h⟩ := bd_o h
      refine l_X7_strict_L2 C hr n s0 v2 v1 n (0 : Int32) e21 q22 ?_ H locs ls B (lv_sub hl [1, 2, 3, 0] rfl)
      intro H locs ls B hl
      refine lv_iload_n hx hb dX7_strict_68 rfl (lv_at hl 2 rfl) ?_
      refine lv_iconst (v := (1 : Int32)) hx hb dX7_strict_69 rfl ?_
      refine lv_iload_n hx hb dX7_strict_70 rfl (lv_at hl 3 rfl) ?_
      refine lv_ishl hx hb dX7_strict_71 ?_
      refine lv_ior hx hb dX7_strict_72 ?_
      obtain ⟨v1_23, q24, h⟩ := nm_o h
      refine r_nm q24 ?_
      refine lv_istore_n (lv' := [(1, .int v1_23), (0, .ref (gad G 0)), (2, .int v2), (3, .int e21)]) hx hb dX7_strict_73 rfl hl (by decide) rfl (fun ls hl => ?_)
      refine lv_aload_n hx hb dX7_strict_74 rfl (lv_at hl 1 rfl) ?_
      refine r_get C B fo_X7_51 (cM_0 G s0) rfl dX7_strict_75 ?_
      refine lv_iload_n hx hb dX7_strict_78 rfl (lv_at hl 2 rfl) ?_
      refine lv_iload_n hx hb dX7_strict_79 rfl (lv_at hl 3 rfl) ?_
      obtain ⟨q25, h⟩ := gd_o h
      obtain ⟨s26, q27, h⟩ := nm_o h
      refine r_iast C B (cM_13 G s0) (inb_vp q25) ((uMa_12 G s0 _).trans (congrArg (wM G) q27.symm)) dX7_strict_80 (fun H locs B => ?_)
      obtain ⟨v2_28, q29, h⟩ := nm_o h
      refine lv_iinc (v := v2_28) (lv' := [(2, .int v2_28), (1, .int v1_23), (0, .ref (gad G 0)), (3, .int e21)]) hx hb dX7_strict_81 hl (k := 2) rfl q29.symm (by decide) rfl (fun ls hl => ?_)
      refine lv_goto (tgt := 16) hx hb dX7_strict_84 (by decide) ?_
      exact ih v2_28 v1_23 s26 e1 h hk H locs ls B (lv_sub hl [2, 0, 1] rfl)
set_option maxRecDepth 100000 in
set_option maxHeartbeats 4000000 in
theorem l_X7_strict_L3 {G : GT} {p : Program} {e : Env} {s : State} {m : MethodId} {args : Array Value} {below : List Frame} {meth : Method} {c : Code} {Q : State → Prop} (C : CT G p s m meth c args cX7_strict 4 RX7) (hr : meth.sig.returnType = (some .int)) (v1 : Int32) : ∀ (k : Nat) (v2 : Int32) (s0 : ST) (e1 : ST), X7_strict_L3  k v2 s0 = some e1 → Kn G p e rm_X7_strict s m args below meth c Q 4 108 [(0, .ref (gad G 0)), (1, .int v1)] (wM G e1) → Kn G p e rm_X7_strict s m args below meth c Q 4 89 [(0, .ref (gad G 0)), (1, .int v1), (2, .int v2)] (wM G s0) := by
  have hx := C.1
  have hb := C.2.1
  intro k
  induction k with
  | zero =>
    intro v2 s0 e1 h
    exact nso h
  | succ k ih =>
    intro v2 s0 e1 h hk H locs ls B hl
    have h : X7_strict_L3_b  (X7_strict_L3  k) v2 s0 = some e1 := h
    unfold X7_strict_L3_b at h
    refine lv_iload_n hx hb dX7_strict_89 rfl (lv_at hl 2 rfl) ?_
    refine lv_bipush (v := (8 : Int32)) hx hb dX7_strict_90 rfl ?_
    refine lv_icmp_ge (tgt := 108) hx hb dX7_strict_92 (by decide) (fun q32 => ?_) (fun q32 => ?_)
    · have h := ip h q32
      obtain rfl := ret1 h
      exact hk H locs ls B (lv_sub hl [0, 1] rfl)
    · have h := ig h q32
      refine lv_aload_n hx hb dX7_strict_95 rfl (lv_at hl 0 rfl) ?_
      refine r_get C B fo_X7_13 (cM_0 G s0) rfl dX7_strict_96 ?_
      refine lv_iload_n hx hb dX7_strict_99 rfl (lv_at hl 2 rfl) ?_
      refine lv_iconst (v := (0 : Int32)) hx hb dX7_strict_100 rfl ?_
      obtain ⟨q33, h⟩ := gd_o h
      obtain ⟨s34, q35, h⟩ := nm_o h
      refine r_iast C B (cM_1 G s0) (inb_vp q33) ((uMa_0 G s0 _).trans (congrArg (wM G) q35.symm)) dX7_strict_101 (fun H locs B => ?_)
      obtain ⟨v2_36, q37, h⟩ := nm_o h
      refine lv_iinc (v := v2_36) (lv' := [(2, .int v2_36), (0, .ref (gad G 0)), (1, .int v1)]) hx hb dX7_strict_102 hl (k := 2) rfl q37.symm (by decide) rfl (fun ls hl => ?_)
      refine lv_goto (tgt := 89) hx hb dX7_strict_105 (by decide) ?_
      exact ih v2_36 s34 e1 h hk H locs ls B (lv_sub hl [1, 2, 0] rfl)
set_option maxRecDepth 100000 in
set_option maxHeartbeats 4000000 in
theorem l_X7_strict_L4 {G : GT} {p : Program} {e : Env} {s : State} {m : MethodId} {args : Array Value} {below : List Frame} {meth : Method} {c : Code} {Q : State → Prop} (C : CT G p s m meth c args cX7_strict 4 RX7) (hr : meth.sig.returnType = (some .int)) (v1 : Int32) : ∀ (k : Nat) (v3 : Int32) (v2 : Int32) (s0 : ST) (e1 : Int32 × ST), X7_strict_L4  k v3 v2 s0 = some e1 → Kn G p e rm_X7_strict s m args below meth c Q 4 171 [(0, .ref (gad G 0)), (1, .int v1), (2, .int e1.1)] (wM G e1.2) → Kn G p e rm_X7_strict s m args below meth c Q 4 112 [(0, .ref (gad G 0)), (1, .int v1), (3, .int v3), (2, .int v2)] (wM G s0) := by
  have hx := C.1
  have hb := C.2.1
  intro k
  induction k with
  | zero =>
    intro v3 v2 s0 e1 h
    exact nso h
  | succ k ih =>
    intro v3 v2 s0 e1 h hk H locs ls B hl
    have h : X7_strict_L4_b  (X7_strict_L4  k) v3 v2 s0 = some e1 := h
    unfold X7_strict_L4_b at h
    refine lv_iload_n hx hb dX7_strict_112 rfl (lv_at hl 2 rfl) ?_
    refine lv_aload_n hx hb dX7_strict_113 rfl (lv_at hl 0 rfl) ?_
    refine r_get C B fo_X7_71 (cM_0 G s0) rfl dX7_strict_114 ?_
    refine lv_icmp_ge (tgt := 171) hx hb dX7_strict_117 (by decide) (fun q40 => ?_) (fun q40 => ?_)
    · have h := ip h q40
      obtain rfl := ret1 h
      exact hk H locs ls B (lv_sub hl [0, 1, 3] rfl)
    · have h := ig h q40
      refine lv_aload_n hx hb dX7_strict_120 rfl (lv_at hl 0 rfl) ?_
      refine r_get C B fo_X7_13 (cM_0 G s0) rfl dX7_strict_121 ?_
      refine lv_aload_n hx hb dX7_strict_124 rfl (lv_at hl 0 rfl) ?_
      refine r_get C B fo_X7_51 (cM_0 G s0) rfl dX7_strict_125 ?_
      refine lv_iload_n hx hb dX7_strict_128 rfl (lv_at hl 2 rfl) ?_
      obtain ⟨q41, h⟩ := gd_o h
      refine r_iald C B (cM_13 G s0) (inb_vp q41) dX7_strict_129 ?_
      refine lv_aload_n hx hb dX7_strict_130 rfl (lv_at hl 0 rfl) ?_
      refine r_get C B fo_X7_20 (cM_0 G s0) rfl dX7_strict_131 ?_
      refine lv_iload_n hx hb dX7_strict_134 rfl (lv_at hl 2 rfl) ?_
      obtain ⟨q42, h⟩ := gd_o h
      refine r_iald C B (cM_3 G s0) (inb_vp q42) dX7_strict_135 ?_
      refine lv_iconst (v := (1 : Int32)) hx hb dX7_strict_136 rfl ?_
      refine lv_aload_n hx hb dX7_strict_137 rfl (lv_at hl 0 rfl) ?_
      refine r_get C B fo_X7_51 (cM_0 G s0) rfl dX7_strict_138 ?_
      refine lv_iload_n hx hb dX7_strict_141 rfl (lv_at hl 2 rfl) ?_
      obtain ⟨q43, h⟩ := gd_o h
      refine r_iald C B (cM_13 G s0) (inb_vp q43) dX7_strict_142 ?_
      refine lv_ishl hx hb dX7_strict_143 ?_
      refine lv_iconst (v := (-1 : Int32)) hx hb dX7_strict_144 rfl ?_
      refine lv_ixor hx hb dX7_strict_145 ?_
      refine lv_iand hx hb dX7_strict_146 ?_
      obtain ⟨q44, h⟩ := gd_o h
      obtain ⟨s45, q46, h⟩ := nm_o h
      refine r_iast C B (cM_1 G s0) (inb_vp q44) ((uMa_0 G s0 _).trans (congrArg (wM G) q46.symm)) dX7_strict_147 (fun H locs B => ?_)
      refine lv_iload_n hx hb dX7_strict_148 rfl (lv_at hl 3 rfl) ?_
      refine lv_aload_n hx hb dX7_strict_149 rfl (lv_at hl 0 rfl) ?_
      refine r_get C B fo_X7_13 (cM_0 G s45) rfl dX7_strict_150 ?_
      refine lv_aload_n hx hb dX7_strict_153 rfl (lv_at hl 0 rfl) ?_
      refine r_get C B fo_X7_51 (cM_0 G s45) rfl dX7_strict_154 ?_
      refine lv_iload_n hx hb dX7_strict_157 rfl (lv_at hl 2 rfl) ?_
      obtain ⟨q47, h⟩ := gd_o h
      refine r_iald C B (cM_13 G s45) (inb_vp q47) dX7_strict_158 ?_
      obtain ⟨q48, h⟩ := gd_o h
      refine r_iald C B (cM_1 G s45) (inb_vp q48) dX7_strict_159 ?_
      obtain ⟨r49, q50, h⟩ := bd_o h
      refine r_callSi (rest := [.int v2]) C B.2.2 hl (c_J6_bitCount G (s45.2.1 0 ((s45.2.1 12 (v3).toNatClampNeg)).toNatClampNeg) r49 q50) cs_X7_81 rfl rfl (Nat.le_of_ble_eq_true rfl) ⟨rfl, rfl, Nat.le_of_ble_eq_true rfl, Nat.le_of_ble_eq_true rfl⟩ dX7_strict_160 ?_
      refine lv_iadd hx hb dX7_strict_163 ?_
      obtain ⟨v2_51, q52, h⟩ := nm_o h
      refine r_nm q52 ?_
      refine lv_istore_n (lv' := [(2, .int v2_51), (0, .ref (gad G 0)), (1, .int v1), (3, .int v3)]) hx hb dX7_strict_164 rfl hl (by decide) rfl (fun ls hl => ?_)
      obtain ⟨v3_53, q54, h⟩ := nm_o h
      refine lv_iinc (v := v3_53) (lv' := [(3, .int v3_53), (2, .int v2_51), (0, .ref (gad G 0)), (1, .int v1)]) hx hb dX7_strict_165 hl (k := 3) rfl q54.symm (by decide) rfl (fun ls hl => ?_)
      refine lv_goto (tgt := 112) hx hb dX7_strict_168 (by decide) ?_
      exact ih v3_53 v2_51 s45 e1 h hk H locs ls B (lv_sub hl [2, 3, 0, 1] rfl)
set_option maxRecDepth 100000 in
set_option maxHeartbeats 4000000 in
theorem c_X7_strict (G : GT) (n : Nat) (s0 : ST)  (r : Int32) (s' : ST) (h : X7_strict n s0  = some (r, s')) : Con G yX7_strict cX7_strict 4 (some .int) rm_X7_strict [.ref (gad G 0)] (wM G s0) (some (.int r)) (wM G s') := by
  unfold X7_strict at h
  refine con_of (by decide +kernel) (Nat.le_of_ble_eq_true rfl) (fun {p e s m below meth c} C hr {H locs ls} B hl => ?_)
  have hx := C.1
  have hb := C.2.1
  have hl : lv_has ls 4 [(0, .ref (gad G 0))] := hl
  refine lv_aload_n hx hb dX7_strict_0 rfl (lv_at hl 0 rfl) ?_
  refine lv_iconst (v := (0 : Int32)) hx hb dX7_strict_1 rfl ?_
  refine lv_iconst (v := (0 : Int32)) hx hb dX7_strict_2 rfl ?_
  obtain ⟨r2, q1, h⟩ := bd_o h
  refine r_callVi (rest := []) C B hl (c_X7_canTake G n s0 (0 : Int32) (0 : Int32) r2 q1) cs_X7_153 (cM_0 G s0) rfl rfl rfl (Nat.le_of_ble_eq_true rfl) ⟨rfl, rfl, Nat.le_of_ble_eq_true rfl, Nat.le_of_ble_eq_true rfl⟩ dX7_strict_3 (fun H locs B => ?_)
  refine lv_if_ne (tgt := 12) hx hb dX7_strict_6 (by decide) (fun q3 => ?_) (fun q3 => ?_)
  · have h := ig h q3
    refine lv_iconst (v := (0 : Int32)) hx hb dX7_strict_12 rfl ?_
    refine lv_istore_n (lv' := [(1, .int (0 : Int32)), (0, .ref (gad G 0))]) hx hb dX7_strict_13 rfl hl (by decide) rfl (fun ls hl => ?_)
    refine lv_iconst (v := (0 : Int32)) hx hb dX7_strict_14 rfl ?_
    refine lv_istore_n (lv' := [(2, .int (0 : Int32)), (1, .int (0 : Int32)), (0, .ref (gad G 0))]) hx hb dX7_strict_15 rfl hl (by decide) rfl (fun ls hl => ?_)
    obtain ⟨e30, q31, h⟩ := bd_o h
    refine l_X7_strict_L1 C hr n n (0 : Int32) (0 : Int32) s0 e30 q31 ?_ H locs ls B (lv_sub hl [2, 0, 1] rfl)
    intro H locs ls B hl
    refine lv_iconst (v := (0 : Int32)) hx hb dX7_strict_87 rfl ?_
    refine lv_istore_n (lv' := [(2, .int (0 : Int32)), (0, .ref (gad G 0)), (1, .int e30.1)]) hx hb dX7_strict_88 rfl hl (by decide) rfl (fun ls hl => ?_)
    obtain ⟨e38, q39, h⟩ := bd_o h
    refine l_X7_strict_L3 C hr e30.1 n (0 : Int32) e30.2 e38 q39 ?_ H locs ls B (lv_sub hl [1, 2, 0] rfl)
    intro H locs ls B hl
    refine lv_iconst (v := (0 : Int32)) hx hb dX7_strict_108 rfl ?_
    refine lv_istore_n (lv' := [(2, .int (0 : Int32)), (0, .ref (gad G 0)), (1, .int e30.1)]) hx hb dX7_strict_109 rfl hl (by decide) rfl (fun ls hl => ?_)
    refine lv_iconst (v := (0 : Int32)) hx hb dX7_strict_110 rfl ?_
    refine lv_istore_n (lv' := [(3, .int (0 : Int32)), (2, .int (0 : Int32)), (0, .ref (gad G 0)), (1, .int e30.1)]) hx hb dX7_strict_111 rfl hl (by decide) rfl (fun ls hl => ?_)
    obtain ⟨e55, q56, h⟩ := bd_o h
    refine l_X7_strict_L4 C hr e30.1 n (0 : Int32) (0 : Int32) e38 e55 q56 ?_ H locs ls B (lv_sub hl [2, 3, 0, 1] rfl)
    intro H locs ls B hl
    refine lv_aload_n hx hb dX7_strict_171 rfl (lv_at hl 0 rfl) ?_
    refine lv_aload_n hx hb dX7_strict_172 rfl (lv_at hl 0 rfl) ?_
    obtain ⟨r58, q57, h⟩ := bd_o h
    refine r_callVi (rest := [.ref (gad G 0)]) C B hl (c_X7_all G e55.2 r58 q57) cs_X7_67 (cM_0 G e55.2) rfl rfl rfl (Nat.le_of_ble_eq_true rfl) ⟨rfl, rfl, Nat.le_of_ble_eq_true rfl, Nat.le_of_ble_eq_true rfl⟩ dX7_strict_173 (fun H locs B => ?_)
    refine lv_iload_n hx hb dX7_strict_176 rfl (lv_at hl 1 rfl) ?_
    refine lv_iconst (v := (-1 : Int32)) hx hb dX7_strict_177 rfl ?_
    refine lv_ixor hx hb dX7_strict_178 ?_
    refine lv_iand hx hb dX7_strict_179 ?_
    obtain ⟨s59, q60, h⟩ := nm_o h
    refine r_put C B fp_X7_74 (cM_0 G e55.2) (Nat.le_of_ble_eq_true rfl) rfl rfl ((uMs_1 G e55.2 _).trans (congrArg (wM G) q60.symm)) dX7_strict_180 (fun H locs B => ?_)
    refine lv_iload_n hx hb dX7_strict_183 rfl (lv_at hl 2 rfl) ?_
    obtain ⟨rfl, rfl⟩ := ret2 h
    exact r_iret C B hr rfl dX7_strict_184
  · have h := ip h q3
    refine lv_bipush (v := (-3 : Int32)) hx hb dX7_strict_9 rfl ?_
    obtain ⟨rfl, rfl⟩ := ret2 h
    exact r_iret C B hr rfl dX7_strict_11
def rm_X7_keepsBases : Room := { frames := 5, cells := 0, slots := 0, locals := 112 }
set_option maxRecDepth 100000 in
set_option maxHeartbeats 4000000 in
theorem l_X7_keepsBases_L1 {G : GT} {p : Program} {e : Env} {s : State} {m : MethodId} {args : Array Value} {below : List Frame} {meth : Method} {c : Code} {Q : State → Prop} (C : CT G p s m meth c args cX7_keepsBases 2 RX7) (hr : meth.sig.returnType = none) : ∀ (k : Nat) (v1 : Int32) (s0 : ST) (e1 : ST), X7_keepsBases_L1  k v1 s0 = some e1 → Kn G p e rm_X7_keepsBases s m args below meth c Q 2 33 [] (wM G e1) → Kn G p e rm_X7_keepsBases s m args below meth c Q 2 7 [(0, .ref (gad G 0)), (1, .int v1)] (wM G s0) := by
  have hx := C.1
  have hb := C.2.1
  intro k
  induction k with
  | zero =>
    intro v1 s0 e1 h
    exact nso h
  | succ k ih =>
    intro v1 s0 e1 h hk H locs ls B hl
    have h : X7_keepsBases_L1_b  (X7_keepsBases_L1  k) v1 s0 = some e1 := h
    unfold X7_keepsBases_L1_b at h
    refine lv_iload_n hx hb dX7_keepsBases_7 rfl (lv_at hl 1 rfl) ?_
    refine lv_aload_n hx hb dX7_keepsBases_8 rfl (lv_at hl 0 rfl) ?_
    obtain ⟨r4, q3, h⟩ := bd_o h
    refine r_callVi (rest := [.int v1]) C B hl (c_X7_all G s0 r4 q3) cs_X7_67 (cM_0 G s0) rfl rfl rfl (Nat.le_of_ble_eq_true rfl) ⟨rfl, rfl, Nat.le_of_ble_eq_true rfl, Nat.le_of_ble_eq_true rfl⟩ dX7_keepsBases_9 (fun H locs B => ?_)
    refine lv_icmp_gt (tgt := 33) hx hb dX7_keepsBases_12 (by decide) (fun q5 => ?_) (fun q5 => ?_)
    · have h := ip h q5
      obtain rfl := ret1 h
      exact hk H locs ls B (lv_sub hl [] rfl)
    · have h := ig h q5
      refine lv_aload_n hx hb dX7_keepsBases_15 rfl (lv_at hl 0 rfl) ?_
      refine r_get C B fo_X7_54 (cM_0 G s0) rfl dX7_keepsBases_16 ?_
      refine lv_iload_n hx hb dX7_keepsBases_19 rfl (lv_at hl 1 rfl) ?_
      refine lv_aload_n hx hb dX7_keepsBases_20 rfl (lv_at hl 0 rfl) ?_
      refine r_get C B fo_X7_42 (cM_0 G s0) rfl dX7_keepsBases_21 ?_
      refine lv_iload_n hx hb dX7_keepsBases_24 rfl (lv_at hl 1 rfl) ?_
      obtain ⟨q6, h⟩ := gd_o h
      refine r_zald C B (cM_10 G s0) (inb_vp q6) dX7_keepsBases_25 ?_
      obtain ⟨q7, h⟩ := gd_o h
      obtain ⟨q10, h⟩ := gd_o h
      obtain ⟨s8, q9, h⟩ := nm_o h
      refine r_zast C B (cM_14 G s0) (inb_vp q7) q10 ((uMa_13 G s0 _).trans (congrArg (wM G) q9.symm)) dX7_keepsBases_26 (fun H locs B => ?_)
      obtain ⟨v1_11, q12, h⟩ := nm_o h
      refine lv_iinc (v := v1_11) (lv' := [(1, .int v1_11), (0, .ref (gad G 0))]) hx hb dX7_keepsBases_27 hl (k := 1) rfl q12.symm (by decide) rfl (fun ls hl => ?_)
      refine lv_goto (tgt := 7) hx hb dX7_keepsBases_30 (by decide) ?_
      exact ih v1_11 s8 e1 h hk H locs ls B (lv_sub hl [1, 0] rfl)
set_option maxRecDepth 100000 in
set_option maxHeartbeats 4000000 in
theorem c_X7_keepsBases (G : GT) (n : Nat) (s0 : ST)  (s' : ST) (h : X7_keepsBases n s0  = some s') : Con G yX7_keepsBases cX7_keepsBases 2 none rm_X7_keepsBases [.ref (gad G 0)] (wM G s0) none (wM G s') := by
  unfold X7_keepsBases at h
  refine con_of (by decide +kernel) (Nat.le_of_ble_eq_true rfl) (fun {p e s m below meth c} C hr {H locs ls} B hl => ?_)
  have hx := C.1
  have hb := C.2.1
  have hl : lv_has ls 2 [(0, .ref (gad G 0))] := hl
  refine lv_aload_n hx hb dX7_keepsBases_0 rfl (lv_at hl 0 rfl) ?_
  refine lv_iconst (v := (1 : Int32)) hx hb dX7_keepsBases_1 rfl ?_
  obtain ⟨s2, q1, h⟩ := bd_o h
  refine r_callVv (rest := []) C B hl (c_X7_lay G n s0 (1 : Int32) s2 q1) cs_X7_134 (cM_0 G s0) rfl rfl rfl (Nat.le_of_ble_eq_true rfl) ⟨rfl, rfl, Nat.le_of_ble_eq_true rfl, Nat.le_of_ble_eq_true rfl⟩ dX7_keepsBases_2 (fun H locs B => ?_)
  refine lv_iconst (v := (0 : Int32)) hx hb dX7_keepsBases_5 rfl ?_
  refine lv_istore_n (lv' := [(1, .int (0 : Int32)), (0, .ref (gad G 0))]) hx hb dX7_keepsBases_6 rfl hl (by decide) rfl (fun ls hl => ?_)
  obtain ⟨e13, q14, h⟩ := bd_o h
  refine l_X7_keepsBases_L1 C hr  n (0 : Int32) s2 e13 q14 ?_ H locs ls B (lv_sub hl [1, 0] rfl)
  intro H locs ls B hl
  obtain rfl := ret1 h
  exact r_vret C B hr dX7_keepsBases_33
def rm_X7_areBases : Room := { frames := 5, cells := 0, slots := 0, locals := 112 }
set_option maxRecDepth 100000 in
set_option maxHeartbeats 4000000 in
theorem l_X7_areBases_L1 {G : GT} {p : Program} {e : Env} {s : State} {m : MethodId} {args : Array Value} {below : List Frame} {meth : Method} {c : Code} {Q : State → Prop} (C : CT G p s m meth c args cX7_areBases 2 RX7) (hr : meth.sig.returnType = (some .boolean)) (s0 : ST) : ∀ (k : Nat) (v1 : Int32) (e1 : (Int32 × ST) ⊕ (Unit)), X7_areBases_L1 s0 k v1 = some e1 → (∀ rv, e1 = Sum.inl rv → Q = QR G below args s (some (.int rv.1)) (wM G rv.2)) → (∀ ex, e1 = Sum.inr ex → Kn G p e rm_X7_areBases s m args below meth c Q 2 38 [] (wM G s0)) → Kn G p e rm_X7_areBases s m args below meth c Q 2 7 [(0, .ref (gad G 0)), (1, .int v1)] (wM G s0) := by
  have hx := C.1
  have hb := C.2.1
  intro k
  induction k with
  | zero =>
    intro v1 e1 h
    exact nso h
  | succ k ih =>
    intro v1 e1 h hret hk H locs ls B hl
    have h : X7_areBases_L1_b s0 (X7_areBases_L1 s0 k) v1 = some e1 := h
    unfold X7_areBases_L1_b at h
    refine lv_iload_n hx hb dX7_areBases_7 rfl (lv_at hl 1 rfl) ?_
    refine lv_aload_n hx hb dX7_areBases_8 rfl (lv_at hl 0 rfl) ?_
    obtain ⟨r4, q3, h⟩ := bd_o h
    refine r_callVi (rest := [.int v1]) C B hl (c_X7_all G s0 r4 q3) cs_X7_67 (cM_0 G s0) rfl rfl rfl (Nat.le_of_ble_eq_true rfl) ⟨rfl, rfl, Nat.le_of_ble_eq_true rfl, Nat.le_of_ble_eq_true rfl⟩ dX7_areBases_9 (fun H locs B => ?_)
    refine lv_icmp_gt (tgt := 38) hx hb dX7_areBases_12 (by decide) (fun q5 => ?_) (fun q5 => ?_)
    · have h := ip h q5
      obtain rfl := ret1 h
      exact hk _ rfl H locs ls B (lv_sub hl [] rfl)
    · have h := ig h q5
      refine lv_aload_n hx hb dX7_areBases_15 rfl (lv_at hl 0 rfl) ?_
      refine r_get C B fo_X7_42 (cM_0 G s0) rfl dX7_areBases_16 ?_
      refine lv_iload_n hx hb dX7_areBases_19 rfl (lv_at hl 1 rfl) ?_
      obtain ⟨q6, h⟩ := gd_o h
      refine r_zald C B (cM_10 G s0) (inb_vp q6) dX7_areBases_20 ?_
      refine lv_aload_n hx hb dX7_areBases_21 rfl (lv_at hl 0 rfl) ?_
      refine r_get C B fo_X7_54 (cM_0 G s0) rfl dX7_areBases_22 ?_
      refine lv_iload_n hx hb dX7_areBases_25 rfl (lv_at hl 1 rfl) ?_
      obtain ⟨q7, h⟩ := gd_o h
      refine r_zald C B (cM_14 G s0) (inb_vp q7) dX7_areBases_26 ?_
      refine lv_icmp_eq (tgt := 32) hx hb dX7_areBases_27 (by decide) (fun q8 => ?_) (fun q8 => ?_)
      · have h := ip h q8
        obtain ⟨v1_9, q10, h⟩ := nm_o h
        refine lv_iinc (v := v1_9) (lv' := [(1, .int v1_9), (0, .ref (gad G 0))]) hx hb dX7_areBases_32 hl (k := 1) rfl q10.symm (by decide) rfl (fun ls hl => ?_)
        refine lv_goto (tgt := 7) hx hb dX7_areBases_35 (by decide) ?_
        exact ih v1_9 e1 h hret hk H locs ls B (lv_sub hl [1, 0] rfl)
      · have h := ig h q8
        refine lv_iconst (v := (0 : Int32)) hx hb dX7_areBases_30 rfl ?_
        obtain rfl := ret1 h
        rw [hret _ rfl]
        exact r_iret C B hr nar_0 dX7_areBases_31
set_option maxRecDepth 100000 in
set_option maxHeartbeats 4000000 in
theorem c_X7_areBases (G : GT) (n : Nat) (s0 : ST)  (r : Int32) (s' : ST) (h : X7_areBases n s0  = some (r, s')) : Con G yX7_areBases cX7_areBases 2 (some .boolean) rm_X7_areBases [.ref (gad G 0)] (wM G s0) (some (.int r)) (wM G s') := by
  unfold X7_areBases at h
  refine con_of (by decide +kernel) (Nat.le_of_ble_eq_true rfl) (fun {p e s m below meth c} C hr {H locs ls} B hl => ?_)
  have hx := C.1
  have hb := C.2.1
  have hl : lv_has ls 2 [(0, .ref (gad G 0))] := hl
  refine lv_aload_n hx hb dX7_areBases_0 rfl (lv_at hl 0 rfl) ?_
  refine lv_iconst (v := (1 : Int32)) hx hb dX7_areBases_1 rfl ?_
  obtain ⟨s2, q1, h⟩ := bd_o h
  refine r_callVv (rest := []) C B hl (c_X7_lay G n s0 (1 : Int32) s2 q1) cs_X7_134 (cM_0 G s0) rfl rfl rfl (Nat.le_of_ble_eq_true rfl) ⟨rfl, rfl, Nat.le_of_ble_eq_true rfl, Nat.le_of_ble_eq_true rfl⟩ dX7_areBases_2 (fun H locs B => ?_)
  refine lv_iconst (v := (0 : Int32)) hx hb dX7_areBases_5 rfl ?_
  refine lv_istore_n (lv' := [(1, .int (0 : Int32)), (0, .ref (gad G 0))]) hx hb dX7_areBases_6 rfl hl (by decide) rfl (fun ls hl => ?_)
  obtain ⟨e11, q12, h⟩ := bd_o h
  refine l_X7_areBases_L1 C hr s2 n (0 : Int32) e11 q12 (fun rv q => by have h := sm_l h q; cases h; rfl) (fun e13 q14 => ?_) H locs ls B (lv_sub hl [1, 0] rfl)
  have h := sm_r h q14
  intro H locs ls B hl
  refine lv_iconst (v := (1 : Int32)) hx hb dX7_areBases_38 rfl ?_
  obtain ⟨rfl, rfl⟩ := ret2 h
  exact r_iret C B hr nar_1 dX7_areBases_39
def rm_X7_changing : Room := { frames := 6, cells := 0, slots := 0, locals := 133 }
set_option maxRecDepth 100000 in
set_option maxHeartbeats 4000000 in
theorem l_X7_changing_L1 {G : GT} {p : Program} {e : Env} {s : State} {m : MethodId} {args : Array Value} {below : List Frame} {meth : Method} {c : Code} {Q : State → Prop} (C : CT G p s m meth c args cX7_changing 6 RX7) (hr : meth.sig.returnType = (some .int)) (n : Nat) (v3 : Int32) (v1 : Int32) (v2 : Int32) : ∀ (k : Nat) (v5 : Int32) (v4 : Int32) (s0 : ST) (e1 : Int32 × ST), X7_changing_L1 n v3 v1 v2 k v5 v4 s0 = some e1 → Kn G p e rm_X7_changing s m args below meth c Q 6 73 [(0, .ref (gad G 0)), (3, .int v3), (1, .int v1), (4, .int e1.1)] (wM G e1.2) → Kn G p e rm_X7_changing s m args below meth c Q 6 17 [(0, .ref (gad G 0)), (3, .int v3), (1, .int v1), (2, .int v2), (5, .int v5), (4, .int v4)] (wM G s0) := by
  have hx := C.1
  have hb := C.2.1
  intro k
  induction k with
  | zero =>
    intro v5 v4 s0 e1 h
    exact nso h
  | succ k ih =>
    intro v5 v4 s0 e1 h hk H locs ls B hl
    have h : X7_changing_L1_b n v3 v1 v2 (X7_changing_L1 n v3 v1 v2 k) v5 v4 s0 = some e1 := h
    unfold X7_changing_L1_b at h
    refine lv_iload hx hb dX7_changing_17 (lv_at hl 4 rfl) ?_
    refine lv_aload_n hx hb dX7_changing_19 rfl (lv_at hl 0 rfl) ?_
    refine r_get C B fo_X7_7 (cM_0 G s0) rfl dX7_changing_20 ?_
    refine lv_icmp_ge (tgt := 73) hx hb dX7_changing_23 (by decide) (fun q6 => ?_) (fun q6 => ?_)
    · have h := ip h q6
      obtain rfl := ret1 h
      exact hk H locs ls B (lv_sub hl [0, 1, 2, 5] rfl)
    · have h := ig h q6
      refine lv_aload_n hx hb dX7_changing_26 rfl (lv_at hl 0 rfl) ?_
      refine r_get C B fo_X7_20 (cM_0 G s0) rfl dX7_changing_27 ?_
      refine lv_iload_n hx hb dX7_changing_30 rfl (lv_at hl 2 rfl) ?_
      refine lv_iload_n hx hb dX7_changing_31 rfl (lv_at hl 1 rfl) ?_
      refine lv_iconst (v := (1 : Int32)) hx hb dX7_changing_32 rfl ?_
      refine lv_iload hx hb dX7_changing_33 (lv_at hl 4 rfl) ?_
      refine lv_ishl hx hb dX7_changing_35 ?_
      refine lv_ixor hx hb dX7_changing_36 ?_
      obtain ⟨q7, h⟩ := gd_o h
      obtain ⟨s8, q9, h⟩ := nm_o h
      refine r_iast C B (cM_3 G s0) (inb_vp q7) ((uMa_2 G s0 _).trans (congrArg (wM G) q9.symm)) dX7_changing_37 (fun H locs B => ?_)
      refine lv_iload hx hb dX7_changing_38 (lv_at hl 5 rfl) ?_
      refine lv_iload_n hx hb dX7_changing_40 rfl (lv_at hl 3 rfl) ?_
      refine lv_iload hx hb dX7_changing_41 (lv_at hl 4 rfl) ?_
      obtain ⟨r10, q11, h⟩ := bd_o h
      refine r_callSi (rest := [.int v4]) C B.2.2 hl (c_X7_has G v2 v5 r10 q11) cs_X7_77 rfl rfl (Nat.le_of_ble_eq_true rfl) ⟨rfl, rfl, Nat.le_of_ble_eq_true rfl, Nat.le_of_ble_eq_true rfl⟩ dX7_changing_43 ?_
      refine lv_if_eq (tgt := 63) hx hb dX7_changing_46 (by decide) (fun q12 => ?_) (fun q12 => ?_)
      · have h := ip h q12
        refine lv_iconst (v := (0 : Int32)) hx hb dX7_changing_63 rfl ?_
        refine lv_ior hx hb dX7_changing_64 ?_
        obtain ⟨v4_13, q14, h⟩ := nm_o h
        refine r_nm q14 ?_
        refine lv_istore (lv' := [(4, .int v4_13), (0, .ref (gad G 0)), (3, .int v3), (1, .int v1), (2, .int v2), (5, .int v5)]) hx hb dX7_changing_65 hl (by decide) rfl (fun ls hl => ?_)
        obtain ⟨v5_15, q16, h⟩ := nm_o h
        refine lv_iinc (v := v5_15) (lv' := [(5, .int v5_15), (4, .int v4_13), (0, .ref (gad G 0)), (3, .int v3), (1, .int v1), (2, .int v2)]) hx hb dX7_changing_67 hl (k := 5) rfl q16.symm (by decide) rfl (fun ls hl => ?_)
        refine lv_goto (tgt := 17) hx hb dX7_changing_70 (by decide) ?_
        exact ih v5_15 v4_13 s8 e1 h hk H locs ls B (lv_sub hl [2, 3, 4, 5, 0, 1] rfl)
      · have h := ig h q12
        refine lv_aload_n hx hb dX7_changing_49 rfl (lv_at hl 0 rfl) ?_
        obtain ⟨r19, s18, q17, h⟩ := bd2_o h
        refine r_callVi (rest := [.int v4]) C B hl (c_X7_areBases G n s8 r19 s18 q17) cs_X7_159 (cM_0 G s8) rfl rfl rfl (Nat.le_of_ble_eq_true rfl) ⟨rfl, rfl, Nat.le_of_ble_eq_true rfl, Nat.le_of_ble_eq_true rfl⟩ dX7_changing_50 (fun H locs B => ?_)
        refine lv_if_eq (tgt := 63) hx hb dX7_changing_53 (by decide) (fun q20 => ?_) (fun q20 => ?_)
        · have h := ip h q20
          refine lv_iconst (v := (0 : Int32)) hx hb dX7_changing_63 rfl ?_
          refine lv_ior hx hb dX7_changing_64 ?_
          obtain ⟨v4_21, q22, h⟩ := nm_o h
          refine r_nm q22 ?_
          refine lv_istore (lv' := [(4, .int v4_21), (0, .ref (gad G 0)), (3, .int v3), (1, .int v1), (2, .int v2), (5, .int v5)]) hx hb dX7_changing_65 hl (by decide) rfl (fun ls hl => ?_)
          obtain ⟨v5_23, q24, h⟩ := nm_o h
          refine lv_iinc (v := v5_23) (lv' := [(5, .int v5_23), (4, .int v4_21), (0, .ref (gad G 0)), (3, .int v3), (1, .int v1), (2, .int v2)]) hx hb dX7_changing_67 hl (k := 5) rfl q24.symm (by decide) rfl (fun ls hl => ?_)
          refine lv_goto (tgt := 17) hx hb dX7_changing_70 (by decide) ?_
          exact ih v5_23 v4_21 s18 e1 h hk H locs ls B (lv_sub hl [2, 3, 4, 5, 0, 1] rfl)
        · have h := ig h q20
          refine lv_iconst (v := (1 : Int32)) hx hb dX7_changing_56 rfl ?_
          refine lv_iload hx hb dX7_changing_57 (lv_at hl 4 rfl) ?_
          refine lv_ishl hx hb dX7_changing_59 ?_
          refine lv_goto (tgt := 64) hx hb dX7_changing_60 (by decide) ?_
          refine lv_ior hx hb dX7_changing_64 ?_
          obtain ⟨v4_25, q26, h⟩ := nm_o h
          refine r_nm q26 ?_
          refine lv_istore (lv' := [(4, .int v4_25), (0, .ref (gad G 0)), (3, .int v3), (1, .int v1), (2, .int v2), (5, .int v5)]) hx hb dX7_changing_65 hl (by decide) rfl (fun ls hl => ?_)
          obtain ⟨v5_27, q28, h⟩ := nm_o h
          refine lv_iinc (v := v5_27) (lv' := [(5, .int v5_27), (4, .int v4_25), (0, .ref (gad G 0)), (3, .int v3), (1, .int v1), (2, .int v2)]) hx hb dX7_changing_67 hl (k := 5) rfl q28.symm (by decide) rfl (fun ls hl => ?_)
          refine lv_goto (tgt := 17) hx hb dX7_changing_70 (by decide) ?_
          exact ih v5_27 v4_25 s18 e1 h hk H locs ls B (lv_sub hl [2, 3, 4, 5, 0, 1] rfl)
set_option maxRecDepth 100000 in
set_option maxHeartbeats 4000000 in
theorem c_X7_changing (G : GT) (n : Nat) (s0 : ST) (v1 : Int32) (v2 : Int32) (r : Int32) (s' : ST) (h : X7_changing n s0 v1 v2 = some (r, s')) : Con G yX7_changing cX7_changing 6 (some .int) rm_X7_changing [.ref (gad G 0), .int v1, .int v2] (wM G s0) (some (.int r)) (wM G s') := by
  unfold X7_changing at h
  refine con_of (by decide +kernel) (Nat.le_of_ble_eq_true rfl) (fun {p e s m below meth c} C hr {H locs ls} B hl => ?_)
  have hx := C.1
  have hb := C.2.1
  have hl : lv_has ls 6 [(0, .ref (gad G 0)), (1, .int v1), (2, .int v2)] := hl
  refine lv_aload_n hx hb dX7_changing_0 rfl (lv_at hl 0 rfl) ?_
  obtain ⟨s2, q1, h⟩ := bd_o h
  refine r_callVv (rest := []) C B hl (c_X7_keepsBases G n s0 s2 q1) cs_X7_156 (cM_0 G s0) rfl rfl rfl (Nat.le_of_ble_eq_true rfl) ⟨rfl, rfl, Nat.le_of_ble_eq_true rfl, Nat.le_of_ble_eq_true rfl⟩ dX7_changing_1 (fun H locs B => ?_)
  refine lv_aload_n hx hb dX7_changing_4 rfl (lv_at hl 0 rfl) ?_
  refine r_get C B fo_X7_20 (cM_0 G s2) rfl dX7_changing_5 ?_
  refine lv_iload_n hx hb dX7_changing_8 rfl (lv_at hl 1 rfl) ?_
  obtain ⟨q3, h⟩ := gd_o h
  refine r_iald C B (cM_3 G s2) (inb_vp q3) dX7_changing_9 ?_
  obtain ⟨v3_4, q5, h⟩ := nm_o h
  refine r_nm q5 ?_
  refine lv_istore_n (lv' := [(3, .int v3_4), (0, .ref (gad G 0)), (1, .int v1), (2, .int v2)]) hx hb dX7_changing_10 rfl hl (by decide) rfl (fun ls hl => ?_)
  refine lv_iconst (v := (0 : Int32)) hx hb dX7_changing_11 rfl ?_
  refine lv_istore (lv' := [(4, .int (0 : Int32)), (3, .int v3_4), (0, .ref (gad G 0)), (1, .int v1), (2, .int v2)]) hx hb dX7_changing_12 hl (by decide) rfl (fun ls hl => ?_)
  refine lv_iconst (v := (0 : Int32)) hx hb dX7_changing_14 rfl ?_
  refine lv_istore (lv' := [(5, .int (0 : Int32)), (4, .int (0 : Int32)), (3, .int v3_4), (0, .ref (gad G 0)), (1, .int v1), (2, .int v2)]) hx hb dX7_changing_15 hl (by decide) rfl (fun ls hl => ?_)
  obtain ⟨e29, q30, h⟩ := bd_o h
  refine l_X7_changing_L1 C hr n v3_4 v1 v2 n (0 : Int32) (0 : Int32) s2 e29 q30 ?_ H locs ls B (lv_sub hl [3, 2, 4, 5, 0, 1] rfl)
  intro H locs ls B hl
  refine lv_aload_n hx hb dX7_changing_73 rfl (lv_at hl 0 rfl) ?_
  refine r_get C B fo_X7_20 (cM_0 G e29.2) rfl dX7_changing_74 ?_
  refine lv_iload_n hx hb dX7_changing_77 rfl (lv_at hl 2 rfl) ?_
  refine lv_iload_n hx hb dX7_changing_78 rfl (lv_at hl 1 rfl) ?_
  obtain ⟨q31, h⟩ := gd_o h
  obtain ⟨s32, q33, h⟩ := nm_o h
  refine r_iast C B (cM_3 G e29.2) (inb_vp q31) ((uMa_2 G e29.2 _).trans (congrArg (wM G) q33.symm)) dX7_changing_79 (fun H locs B => ?_)
  refine lv_iload hx hb dX7_changing_80 (lv_at hl 3 rfl) ?_
  obtain ⟨rfl, rfl⟩ := ret2 h
  exact r_iret C B hr rfl dX7_changing_82
def rm_X7_spare : Room := { frames := 7, cells := 0, slots := 0, locals := 158 }
set_option maxRecDepth 100000 in
set_option maxHeartbeats 4000000 in
theorem c_X7_spare (G : GT) (n : Nat) (s0 : ST) (v1 : Int32) (r : Int32) (s' : ST) (h : X7_spare n s0 v1 = some (r, s')) : Con G yX7_spare cX7_spare 2 (some .int) rm_X7_spare [.ref (gad G 0), .int v1] (wM G s0) (some (.int r)) (wM G s') := by
  unfold X7_spare at h
  refine con_of (by decide +kernel) (Nat.le_of_ble_eq_true rfl) (fun {p e s m below meth c} C hr {H locs ls} B hl => ?_)
  have hx := C.1
  have hb := C.2.1
  have hl : lv_has ls 2 [(0, .ref (gad G 0)), (1, .int v1)] := hl
  refine lv_aload_n hx hb dX7_spare_0 rfl (lv_at hl 0 rfl) ?_
  refine lv_iload_n hx hb dX7_spare_1 rfl (lv_at hl 1 rfl) ?_
  obtain ⟨r2, q1, h⟩ := bd_o h
  refine r_callVi (rest := []) C B hl (c_X7_isNumber G s0 v1 r2 q1) cs_X7_125 (cM_0 G s0) rfl rfl rfl (Nat.le_of_ble_eq_true rfl) ⟨rfl, rfl, Nat.le_of_ble_eq_true rfl, Nat.le_of_ble_eq_true rfl⟩ dX7_spare_2 (fun H locs B => ?_)
  refine lv_if_eq (tgt := 22) hx hb dX7_spare_5 (by decide) (fun q3 => ?_) (fun q3 => ?_)
  · have h := ip h q3
    refine lv_iconst (v := (-1 : Int32)) hx hb dX7_spare_22 rfl ?_
    obtain ⟨rfl, rfl⟩ := ret2 h
    exact r_iret C B hr rfl dX7_spare_23
  · have h := ig h q3
    refine lv_aload_n hx hb dX7_spare_8 rfl (lv_at hl 0 rfl) ?_
    refine lv_iload_n hx hb dX7_spare_9 rfl (lv_at hl 1 rfl) ?_
    refine lv_aload_n hx hb dX7_spare_10 rfl (lv_at hl 0 rfl) ?_
    refine r_get C B fo_X7_20 (cM_0 G s0) rfl dX7_spare_11 ?_
    refine lv_iload_n hx hb dX7_spare_14 rfl (lv_at hl 1 rfl) ?_
    obtain ⟨q4, h⟩ := gd_o h
    refine r_iald C B (cM_3 G s0) (inb_vp q4) dX7_spare_15 ?_
    obtain ⟨r7, s6, q5, h⟩ := bd2_o h
    refine r_callVi (rest := []) C B hl (c_X7_changing G n s0 v1 (s0.2.1 2 (v1).toNatClampNeg) r7 s6 q5) cs_X7_163 (cM_0 G s0) rfl rfl rfl (Nat.le_of_ble_eq_true rfl) ⟨rfl, rfl, Nat.le_of_ble_eq_true rfl, Nat.le_of_ble_eq_true rfl⟩ dX7_spare_16 (fun H locs B => ?_)
    refine lv_goto (tgt := 23) hx hb dX7_spare_19 (by decide) ?_
    obtain ⟨rfl, rfl⟩ := ret2 h
    exact r_iret C B hr rfl dX7_spare_23
def rm_X7_room : Room := { frames := 7, cells := 0, slots := 0, locals := 158 }
set_option maxRecDepth 100000 in
set_option maxHeartbeats 4000000 in
theorem c_X7_room (G : GT) (n : Nat) (s0 : ST) (v1 : Int32) (r : Int32) (s' : ST) (h : X7_room n s0 v1 = some (r, s')) : Con G yX7_room cX7_room 2 (some .int) rm_X7_room [.ref (gad G 0), .int v1] (wM G s0) (some (.int r)) (wM G s') := by
  unfold X7_room at h
  refine con_of (by decide +kernel) (Nat.le_of_ble_eq_true rfl) (fun {p e s m below meth c} C hr {H locs ls} B hl => ?_)
  have hx := C.1
  have hb := C.2.1
  have hl : lv_has ls 2 [(0, .ref (gad G 0)), (1, .int v1)] := hl
  refine lv_aload_n hx hb dX7_room_0 rfl (lv_at hl 0 rfl) ?_
  refine lv_iload_n hx hb dX7_room_1 rfl (lv_at hl 1 rfl) ?_
  obtain ⟨r2, q1, h⟩ := bd_o h
  refine r_callVi (rest := []) C B hl (c_X7_isNumber G s0 v1 r2 q1) cs_X7_125 (cM_0 G s0) rfl rfl rfl (Nat.le_of_ble_eq_true rfl) ⟨rfl, rfl, Nat.le_of_ble_eq_true rfl, Nat.le_of_ble_eq_true rfl⟩ dX7_room_2 (fun H locs B => ?_)
  refine lv_if_eq (tgt := 29) hx hb dX7_room_5 (by decide) (fun q3 => ?_) (fun q3 => ?_)
  · have h := ip h q3
    refine lv_iconst (v := (-1 : Int32)) hx hb dX7_room_29 rfl ?_
    obtain ⟨rfl, rfl⟩ := ret2 h
    exact r_iret C B hr rfl dX7_room_30
  · have h := ig h q3
    refine lv_aload_n hx hb dX7_room_8 rfl (lv_at hl 0 rfl) ?_
    refine lv_iload_n hx hb dX7_room_9 rfl (lv_at hl 1 rfl) ?_
    refine lv_aload_n hx hb dX7_room_10 rfl (lv_at hl 0 rfl) ?_
    obtain ⟨r5, q4, h⟩ := bd_o h
    refine r_callVi (rest := [.int v1, .ref (gad G 0)]) C B hl (c_X7_all G s0 r5 q4) cs_X7_67 (cM_0 G s0) rfl rfl rfl (Nat.le_of_ble_eq_true rfl) ⟨rfl, rfl, Nat.le_of_ble_eq_true rfl, Nat.le_of_ble_eq_true rfl⟩ dX7_room_11 (fun H locs B => ?_)
    refine lv_aload_n hx hb dX7_room_14 rfl (lv_at hl 0 rfl) ?_
    refine r_get C B fo_X7_20 (cM_0 G s0) rfl dX7_room_15 ?_
    refine lv_iload_n hx hb dX7_room_18 rfl (lv_at hl 1 rfl) ?_
    obtain ⟨q6, h⟩ := gd_o h
    refine r_iald C B (cM_3 G s0) (inb_vp q6) dX7_room_19 ?_
    refine lv_iconst (v := (-1 : Int32)) hx hb dX7_room_20 rfl ?_
    refine lv_ixor hx hb dX7_room_21 ?_
    refine lv_iand hx hb dX7_room_22 ?_
    obtain ⟨r9, s8, q7, h⟩ := bd2_o h
    refine r_callVi (rest := []) C B hl (c_X7_changing G n s0 v1 (r5 &&& ((s0.2.1 2 (v1).toNatClampNeg) ^^^ (-1 : Int32))) r9 s8 q7) cs_X7_163 (cM_0 G s0) rfl rfl rfl (Nat.le_of_ble_eq_true rfl) ⟨rfl, rfl, Nat.le_of_ble_eq_true rfl, Nat.le_of_ble_eq_true rfl⟩ dX7_room_23 (fun H locs B => ?_)
    refine lv_goto (tgt := 30) hx hb dX7_room_26 (by decide) ?_
    obtain ⟨rfl, rfl⟩ := ret2 h
    exact r_iret C B hr rfl dX7_room_30
def rm_X7_idle : Room := { frames := 6, cells := 0, slots := 0, locals := 133 }
set_option maxRecDepth 100000 in
set_option maxHeartbeats 4000000 in
theorem l_X7_idle_L1 {G : GT} {p : Program} {e : Env} {s : State} {m : MethodId} {args : Array Value} {below : List Frame} {meth : Method} {c : Code} {Q : State → Prop} (C : CT G p s m meth c args cX7_idle 4 RX7) (hr : meth.sig.returnType = (some .int)) (n : Nat) : ∀ (k : Nat) (v2 : Int32) (v1 : Int32) (s0 : ST) (e1 : Int32 × ST), X7_idle_L1 n k v2 v1 s0 = some e1 → Kn G p e rm_X7_idle s m args below meth c Q 4 60 [(1, .int e1.1)] (wM G e1.2) → Kn G p e rm_X7_idle s m args below meth c Q 4 8 [(0, .ref (gad G 0)), (2, .int v2), (1, .int v1)] (wM G s0) := by
  have hx := C.1
  have hb := C.2.1
  intro k
  induction k with
  | zero =>
    intro v2 v1 s0 e1 h
    exact nso h
  | succ k ih =>
    intro v2 v1 s0 e1 h hk H locs ls B hl
    have h : X7_idle_L1_b n (X7_idle_L1 n k) v2 v1 s0 = some e1 := h
    unfold X7_idle_L1_b at h
    refine lv_iload_n hx hb dX7_idle_8 rfl (lv_at hl 1 rfl) ?_
    refine lv_aload_n hx hb dX7_idle_9 rfl (lv_at hl 0 rfl) ?_
    refine r_get C B fo_X7_71 (cM_0 G s0) rfl dX7_idle_10 ?_
    refine lv_icmp_ge (tgt := 60) hx hb dX7_idle_13 (by decide) (fun q3 => ?_) (fun q3 => ?_)
    · have h := ip h q3
      obtain rfl := ret1 h
      exact hk H locs ls B (lv_sub hl [2] rfl)
    · have h := ig h q3
      refine lv_aload_n hx hb dX7_idle_16 rfl (lv_at hl 0 rfl) ?_
      refine r_get C B fo_X7_20 (cM_0 G s0) rfl dX7_idle_17 ?_
      refine lv_iload_n hx hb dX7_idle_20 rfl (lv_at hl 1 rfl) ?_
      obtain ⟨q4, h⟩ := gd_o h
      refine r_iald C B (cM_3 G s0) (inb_vp q4) dX7_idle_21 ?_
      obtain ⟨v3_5, q6, h⟩ := nm_o h
      refine r_nm q6 ?_
      refine lv_istore_n (lv' := [(3, .int v3_5), (0, .ref (gad G 0)), (2, .int v2), (1, .int v1)]) hx hb dX7_idle_22 rfl hl (by decide) rfl (fun ls hl => ?_)
      refine lv_aload_n hx hb dX7_idle_23 rfl (lv_at hl 1 rfl) ?_
      refine r_get C B fo_X7_20 (cM_0 G s0) rfl dX7_idle_24 ?_
      refine lv_iload_n hx hb dX7_idle_27 rfl (lv_at hl 2 rfl) ?_
      refine lv_iconst (v := (0 : Int32)) hx hb dX7_idle_28 rfl ?_
      obtain ⟨q7, h⟩ := gd_o h
      obtain ⟨s8, q9, h⟩ := nm_o h
      refine r_iast C B (cM_3 G s0) (inb_vp q7) ((uMa_2 G s0 _).trans (congrArg (wM G) q9.symm)) dX7_idle_29 (fun H locs B => ?_)
      refine lv_iload_n hx hb dX7_idle_30 rfl (lv_at hl 3 rfl) ?_
      refine lv_aload_n hx hb dX7_idle_31 rfl (lv_at hl 1 rfl) ?_
      obtain ⟨r12, s11, q10, h⟩ := bd2_o h
      refine r_callVi (rest := [.int v1]) C B hl (c_X7_areBases G n s8 r12 s11 q10) cs_X7_159 (cM_0 G s8) rfl rfl rfl (Nat.le_of_ble_eq_true rfl) ⟨rfl, rfl, Nat.le_of_ble_eq_true rfl, Nat.le_of_ble_eq_true rfl⟩ dX7_idle_32 (fun H locs B => ?_)
      refine lv_if_eq (tgt := 44) hx hb dX7_idle_35 (by decide) (fun q13 => ?_) (fun q13 => ?_)
      · have h := ip h q13
        refine lv_iconst (v := (0 : Int32)) hx hb dX7_idle_44 rfl ?_
        refine lv_ior hx hb dX7_idle_45 ?_
        obtain ⟨v1_14, q15, h⟩ := nm_o h
        refine r_nm q15 ?_
        refine lv_istore_n (lv' := [(1, .int v1_14), (3, .int v3_5), (0, .ref (gad G 0)), (2, .int v2)]) hx hb dX7_idle_46 rfl hl (by decide) rfl (fun ls hl => ?_)
        refine lv_aload_n hx hb dX7_idle_47 rfl (lv_at hl 2 rfl) ?_
        refine r_get C B fo_X7_20 (cM_0 G s11) rfl dX7_idle_48 ?_
        refine lv_iload_n hx hb dX7_idle_51 rfl (lv_at hl 3 rfl) ?_
        refine lv_iload_n hx hb dX7_idle_52 rfl (lv_at hl 1 rfl) ?_
        obtain ⟨q16, h⟩ := gd_o h
        obtain ⟨s17, q18, h⟩ := nm_o h
        refine r_iast C B (cM_3 G s11) (inb_vp q16) ((uMa_2 G s11 _).trans (congrArg (wM G) q18.symm)) dX7_idle_53 (fun H locs B => ?_)
        obtain ⟨v2_19, q20, h⟩ := nm_o h
        refine lv_iinc (v := v2_19) (lv' := [(2, .int v2_19), (1, .int v1_14), (3, .int v3_5), (0, .ref (gad G 0))]) hx hb dX7_idle_54 hl (k := 3) rfl q20.symm (by decide) rfl (fun ls hl => ?_)
        refine lv_goto (tgt := 8) hx hb dX7_idle_57 (by decide) ?_
        exact ih v2_19 v1_14 s17 e1 h hk H locs ls B (lv_sub hl [3, 0, 1] rfl)
      · have h := ig h q13
        refine lv_iconst (v := (1 : Int32)) hx hb dX7_idle_38 rfl ?_
        refine lv_iload_n hx hb dX7_idle_39 rfl (lv_at hl 2 rfl) ?_
        refine lv_ishl hx hb dX7_idle_40 ?_
        refine lv_goto (tgt := 45) hx hb dX7_idle_41 (by decide) ?_
        refine lv_ior hx hb dX7_idle_45 ?_
        obtain ⟨v1_21, q22, h⟩ := nm_o h
        refine r_nm q22 ?_
        refine lv_istore_n (lv' := [(1, .int v1_21), (3, .int v3_5), (0, .ref (gad G 0)), (2, .int v2)]) hx hb dX7_idle_46 rfl hl (by decide) rfl (fun ls hl => ?_)
        refine lv_aload_n hx hb dX7_idle_47 rfl (lv_at hl 2 rfl) ?_
        refine r_get C B fo_X7_20 (cM_0 G s11) rfl dX7_idle_48 ?_
        refine lv_iload_n hx hb dX7_idle_51 rfl (lv_at hl 3 rfl) ?_
        refine lv_iload_n hx hb dX7_idle_52 rfl (lv_at hl 1 rfl) ?_
        obtain ⟨q23, h⟩ := gd_o h
        obtain ⟨s24, q25, h⟩ := nm_o h
        refine r_iast C B (cM_3 G s11) (inb_vp q23) ((uMa_2 G s11 _).trans (congrArg (wM G) q25.symm)) dX7_idle_53 (fun H locs B => ?_)
        obtain ⟨v2_26, q27, h⟩ := nm_o h
        refine lv_iinc (v := v2_26) (lv' := [(2, .int v2_26), (1, .int v1_21), (3, .int v3_5), (0, .ref (gad G 0))]) hx hb dX7_idle_54 hl (k := 3) rfl q27.symm (by decide) rfl (fun ls hl => ?_)
        refine lv_goto (tgt := 8) hx hb dX7_idle_57 (by decide) ?_
        exact ih v2_26 v1_21 s24 e1 h hk H locs ls B (lv_sub hl [3, 0, 1] rfl)
